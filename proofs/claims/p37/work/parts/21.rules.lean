/-! ===== rules: comparisons, the heap, calls ===== -/
section ZRM
variable {sc : List Value} {i pc : Nat} {lv st : List Value} {w w' : List zE} {ov : Option Value} {c s : Nat}
theorem zcmp_j {cnd : ClassFile.Cond} {x y : Int} (hx : zrg x) (hy : zrg y) : zcmp cnd (ziv zN0 (zj x)) (ziv zN0 (zj y)) = some (match cnd with
    | .eq => decide (x = y)
    | .ne => decide (x ≠ y)
    | .lt => decide (x < y)
    | .ge => decide (y ≤ x)
    | .gt => decide (y < x)
    | .le => decide (x ≤ y)) := by
  have ex : ziv zN0 (zj x) = (x, x) := by
    show ((Int32.ofInt x).toInt, (Int32.ofInt x).toInt) = _
    rw [zj_to hx]
  have ey : ziv zN0 (zj y) = (y, y) := by
    show ((Int32.ofInt y).toInt, (Int32.ofInt y).toInt) = _
    rw [zj_to hy]
  rw [ex, ey]
  rcases Int.lt_trichotomy x y with h | h | h
  · have h2 : ¬ y < x := by omega
    have h3 : ¬ x = y := by omega
    have h4 : ¬ y ≤ x := by omega
    have h5 : x ≤ y := by omega
    cases cnd <;> simp [zcmp, zlt, zeq, znt, h, h2, h3, h4, h5]
  · subst h
    cases cnd <;> simp [zcmp, zlt, zeq, znt]
  · have h2 : ¬ x < y := by omega
    have h3 : ¬ x = y := by omega
    have h4 : ¬ x ≤ y := by omega
    have h5 : y ≤ x := by omega
    cases cnd <;> simp [zcmp, zlt, zeq, znt, h, h2, h3, h4, h5]
theorem zcmp_0 {cnd : ClassFile.Cond} {x : Int} (hx : zrg x) : zcmp cnd (ziv zN0 (zj x)) (0, 0) = some (match cnd with
    | .eq => decide (x = 0)
    | .ne => decide (x ≠ 0)
    | .lt => decide (x < 0)
    | .ge => decide (0 ≤ x)
    | .gt => decide (0 < x)
    | .le => decide (x ≤ 0)) := by
  have h := zcmp_j (cnd := cnd) hx (show zrg 0 from ⟨by decide, by decide⟩)
  have e : ziv zN0 (zj 0) = (0, 0) := rfl
  rw [e] at h
  exact h
theorem Zr_br {cnd : ClassFile.Cond} {off : Int} {x y : Int} {t : Nat} {r : List Value} {p : Prop} [Decidable p] (h : zfd (zil i) pc = some (.if_icmp cnd off)) (ht : ztg pc off = some t) (hc : zcmp cnd (ziv zN0 (zj x)) (ziv zN0 (zj y)) = some (decide p)) (k1 : p → Zr sc i t lv r w ov w' c s) (k2 : ¬ p → Zr sc i (pc + 3) lv r w ov w' c s) : Zr sc i pc lv (zj y :: zj x :: r) w ov w' c s := by
  by_cases hp : p
  · refine Zr_st h rfl (q := (t, lv, r)) ?_ (k1 hp)
    rw [decide_eq_true hp] at hc
    show zbr (zcmp cnd (ziv zN0 (zj x)) (ziv zN0 (zj y))) (ztg pc off) pc lv r = _
    rw [hc, ht]
    rfl
  · refine Zr_st h rfl (q := (pc + 3, lv, r)) ?_ (k2 hp)
    rw [decide_eq_false hp] at hc
    show zbr (zcmp cnd (ziv zN0 (zj x)) (ziv zN0 (zj y))) (ztg pc off) pc lv r = _
    rw [hc, ht]
    rfl
theorem Zr_b0 {cnd : ClassFile.Cond} {off : Int} {x : Int} {t : Nat} {r : List Value} {p : Prop} [Decidable p] (h : zfd (zil i) pc = some (.ifCond cnd off)) (ht : ztg pc off = some t) (hc : zcmp cnd (ziv zN0 (zj x)) (0, 0) = some (decide p)) (k1 : p → Zr sc i t lv r w ov w' c s) (k2 : ¬ p → Zr sc i (pc + 3) lv r w ov w' c s) : Zr sc i pc lv (zj x :: r) w ov w' c s := by
  by_cases hp : p
  · refine Zr_st h rfl (q := (t, lv, r)) ?_ (k1 hp)
    rw [decide_eq_true hp] at hc
    show zbr (zcmp cnd (ziv zN0 (zj x)) (0, 0)) (ztg pc off) pc lv r = _
    rw [hc, ht]
    rfl
  · refine Zr_st h rfl (q := (pc + 3, lv, r)) ?_ (k2 hp)
    rw [decide_eq_false hp] at hc
    show zbr (zcmp cnd (ziv zN0 (zj x)) (0, 0)) (ztg pc off) pc lv r = _
    rw [hc, ht]
    rfl
theorem rl_sw {d lo hi : Int} {offs : Array Int} {x : Int} {t : Nat} {r : List Value} (h : zfd (zil i) pc = some (.tableswitch d lo hi offs)) (hx : zrg x) (ht : zsw pc d lo hi offs x = some t) (k : Zr sc i t lv r w ov w' c s) : Zr sc i pc lv (zj x :: r) w ov w' c s := by
  refine Zr_st h rfl (q := (t, lv, r)) ?_ k
  show (match zsw pc d lo hi offs (Int32.ofInt x).toInt with
      | some t => some (t, lv, r)
      | none => none) = _
  rw [zj_to hx, ht]
theorem rl_gf {a cn idx : Nat} {fs : List Value} {q : Nat × Bool × Bool × String × Nat × Nat} {v : Value} {r : List Value} (h : zfd (zil i) pc = some (.getfield idx)) (hw : w[a]? = some (zob cn fs)) (hf : zfd2 (zatL zF (zoc i)) idx cn = some q) (hv : zat fs q.1 = some v) (k : Zr sc i (pc + 3) lv (v :: r) w ov w' c s) : Zr sc i pc lv (zp a :: r) w ov w' c s := by
  refine Zr_mem0 h rfl rfl (pc' := pc + 3) (st' := v :: r) (w1 := w) ?_ k
  unfold zp
  unfold zob at hw
  simp only [zmem, zat_eq, hw, hf]
  rw [zat_eq] at hv
  rw [hv]
theorem rl_pf {a cn idx : Nat} {fs : List Value} {q : Nat × Bool × Bool × String × Nat × Nat} {v : Value} {r : List Value} (h : zfd (zil i) pc = some (.putfield idx)) (hw : w[a]? = some (zob cn fs)) (hf : zfd2 (zatL zF (zoc i)) idx cn = some q) (hv : ((!q.2.1 || (q.2.2.1 && zini i)) && ztv (zty cn q.1) v) = true) (hl : decide (q.1 < fs.length) = true) (k : Zr sc i (pc + 3) lv r (w.set a (zob cn (fs.set q.1 v))) ov w' c s) : Zr sc i pc lv (v :: zp a :: r) w ov w' c s := by
  refine Zr_mem0 h rfl rfl (pc' := pc + 3) (st' := r) (w1 := w.set a (zob cn (fs.set q.1 v))) ?_ k
  have hl2 : a < w.length := (List.getElem?_eq_some_iff.mp hw).1
  unfold zp
  unfold zob at hw ⊢
  simp only [zmem, zat_eq, hw, hf, hv, cond_true]
  rw [zset_eq (of_decide_eq_true hl), zset_eq hl2]
theorem zix_j {l : List Value} {x : Int} (h0 : 0 ≤ x) (h1 : x ≤ 2147483647) : zix l (Int32.ofInt x) = l[x.toNat]? := by
  unfold zix
  have e := zj_to (n := x) ⟨by omega, h1⟩
  have : ¬ Int32.ofInt x < 0 := by
    rw [Int32.lt_iff_toInt_lt, e]
    show ¬ x < 0
    omega
  rw [decide_eq_false this, cond_false, zat_eq]
  show l[(Int32.ofInt x).toInt.toNat]? = _
  rw [e]
theorem rl_ia {a : Nat} {l : List Int} {x : Int} {r : List Value} (h : zfd (zil i) pc = some .iaload) (hw : w[a]? = some (za l)) (h0 : 0 ≤ x) (h1 : x < l.length) (h2 : x ≤ 2147483647) (k : Zr sc i (pc + 1) lv (zj (zgi l x) :: r) w ov w' c s) : Zr sc i pc lv (zj x :: zp a :: r) w ov w' c s := by
  refine Zr_mem0 h rfl rfl (pc' := pc + 1) (st' := zj (zgi l x) :: r) (w1 := w) ?_ k
  unfold zp
  unfold za at hw
  show (match zat w a with
        | some (.inl l) => match zix l (Int32.ofInt x) with
          | some v => some (pc + 1, v :: r, (false, w), 0, 0)
          | none => none
        | _ => none) = _
  rw [zat_eq, hw]
  show (match zix (l.map zj) (Int32.ofInt x) with
          | some v => some (pc + 1, v :: r, (false, w), 0, 0)
          | none => none) = _
  rw [zix_j h0 h2, List.getElem?_map]
  have hl : x.toNat < l.length := by omega
  rw [List.getElem?_eq_getElem hl]
  unfold zgi
  rw [List.getD_eq_getElem?_getD, List.getElem?_eq_getElem hl]
  rfl
/-- of the script -/
theorem rl_ia0 {l : List Int} {x : Int} {r : List Value} (h : zfd (zil i) pc = some .iaload) (hw : sc = l.map zj) (h0 : 0 ≤ x) (h1 : x < l.length) (h2 : x ≤ 2147483647) (k : Zr sc i (pc + 1) lv (zj (zgi l x) :: r) w ov w' c s) : Zr sc i pc lv (zj x :: .ref 0 :: r) w ov w' c s := by
  refine Zr_mem0 h rfl rfl (pc' := pc + 1) (st' := zj (zgi l x) :: r) (w1 := w) ?_ k
  show (match zix sc (Int32.ofInt x) with
        | some v => bif zisI v then some (pc + 1, v :: r, (false, w), 0, 0) else none
        | none => none) = _
  rw [hw, zix_j h0 h2, List.getElem?_map]
  have hl : x.toNat < l.length := by omega
  rw [List.getElem?_eq_getElem hl]
  unfold zgi
  rw [List.getD_eq_getElem?_getD, List.getElem?_eq_getElem hl]
  rfl
theorem rl_is {a : Nat} {l : List Int} {x v : Int} {r : List Value} (h : zfd (zil i) pc = some .iastore) (hw : w[a]? = some (za l)) (h0 : 0 ≤ x) (h1 : x < l.length) (h2 : x ≤ 2147483647) (k : Zr sc i (pc + 1) lv r (w.set a (za (zsi l x v))) ov w' c s) : Zr sc i pc lv (zj v :: zj x :: zp a :: r) w ov w' c s := by
  refine Zr_mem0 h rfl rfl (pc' := pc + 1) (st' := r) (w1 := w.set a (za (zsi l x v))) ?_ k
  have hl2 : a < w.length := (List.getElem?_eq_some_iff.mp hw).1
  have e := zj_to (n := x) ⟨by omega, h2⟩
  have hneg : ¬ Int32.ofInt x < 0 := by
    rw [Int32.lt_iff_toInt_lt, e]
    show ¬ x < 0
    omega
  unfold zp
  unfold za at hw
  show (match zat w a with
      | some (.inl l) => bif (zisI (zj v) && !decide (Int32.ofInt x < 0)) then zset l (Int32.ofInt x).toNatClampNeg (zj v) fun l' => zset w a (.inl l') fun w' => some (pc + 1, r, (false, w'), 0, 0) else none
      | _ => none) = _
  rw [zat_eq, hw]
  show (bif (zisI (zj v) && !decide (Int32.ofInt x < 0)) then zset (l.map zj) (Int32.ofInt x).toNatClampNeg (zj v) fun l' => zset w a (.inl l') fun w' => some (pc + 1, r, (false, w'), 0, 0) else none) = _
  rw [decide_eq_false hneg]
  have e2 : (Int32.ofInt x).toNatClampNeg = x.toNat := by
    show (Int32.ofInt x).toInt.toNat = _
    rw [e]
  rw [e2]
  show zset (l.map zj) x.toNat (zj v) (fun l' => zset w a (.inl l') fun w' => some (pc + 1, r, (false, w'), 0, 0)) = _
  rw [zset_eq (by rw [List.length_map]; omega), zset_eq hl2]
  unfold za zsi
  rw [List.map_set]
theorem rl_al {a : Nat} {l : List Int} {r : List Value} (h : zfd (zil i) pc = some .arraylength) (hw : w[a]? = some (za l)) (k : Zr sc i (pc + 1) lv (zj l.length :: r) w ov w' c s) : Zr sc i pc lv (zp a :: r) w ov w' c s := by
  refine Zr_mem0 h rfl rfl (pc' := pc + 1) (st' := zj l.length :: r) (w1 := w) ?_ k
  unfold zp
  unfold za at hw
  simp only [zmem, zat_eq, hw, zfi_eq, List.length_map]
  rfl
theorem rl_al0 {r : List Value} (h : zfd (zil i) pc = some .arraylength) (k : Zr sc i (pc + 1) lv (zj sc.length :: r) w ov w' c s) : Zr sc i pc lv (.ref 0 :: r) w ov w' c s := by
  refine Zr_mem0 h rfl rfl (pc' := pc + 1) (st' := zj sc.length :: r) (w1 := w) ?_ k
  simp only [zmem, zfi_eq]
  rfl
theorem rl_new {idx : Nat} {q : Nat × Nat × Nat × Nat} (h : zfd (zil i) pc = some (.new idx)) (hn : zfd (zatL zNw (zoc i)) idx = some q) (k : Zr sc i (pc + 3) lv (zp w.length :: st) (w ++ [zob q.1 (zdf q.1)]) ov w' c s) : Zr sc i pc lv st w ov w' (1 + c) (zcn q.1 + s) := by
  refine Zr_mem h rfl rfl (pc' := pc + 3) (st' := zp w.length :: st) (w1 := w ++ [zob q.1 (zdf q.1)]) ?_ k
  simp only [zmem, hn, cond_false, zfrc_eq, zapp_eq]
  rfl
theorem rl_na {n : Int} {r : List Value} (h : zfd (zil i) pc = some (.newarray .int)) (h0 : 0 ≤ n) (h1 : n ≤ 60000) (k : Zr sc i (pc + 2) lv (zp w.length :: r) (w ++ [za (List.replicate n.toNat 0)]) ov w' c s) : Zr sc i pc lv (zj n :: r) w ov w' (1 + c) (n.toNat + s) := by
  refine Zr_mem h rfl rfl (pc' := pc + 2) (st' := zp w.length :: r) (w1 := w ++ [za (List.replicate n.toNat 0)]) ?_ k
  have e := zj_to (n := n) ⟨by omega, by omega⟩
  have hneg : ¬ Int32.ofInt n < 0 := by
    rw [Int32.lt_iff_toInt_lt, e]
    show ¬ n < 0
    omega
  have hbig : ¬ (60000 : Int32) < Int32.ofInt n := by
    rw [Int32.lt_iff_toInt_lt, e]
    show ¬ 60000 < n
    omega
  have e2 : (Int32.ofInt n).toNatClampNeg = n.toNat := by
    show (Int32.ofInt n).toInt.toNat = _
    rw [e]
  show (bif (false || decide (Int32.ofInt n < 0) || decide (60000 < Int32.ofInt n)) then none else zfrc (Int32.ofInt n).toNatClampNeg fun m => zrep m (.int 0) fun l => zfrc (w.length) fun n => zapp w (.inl l) fun w' => some (pc + 2, .ref (n + 1) :: r, (false, w'), 1, m)) = _
  rw [decide_eq_false hneg, decide_eq_false hbig, e2]
  simp only [Bool.or_self, cond_false, zfrc_eq, zrep_eq, zapp_eq]
  unfold za
  rw [List.map_replicate]
  rfl
theorem rl_lc {idx : Nat} {z : Int64} {q : Int64 × Nat} (h : zfd (zil i) pc = some (.ldc2_w idx)) (hq : zfd (zatL zLg (zoc i)) idx = some q) (hz : q.1 = z) (k : Zr sc i (pc + 3) lv (.long z :: st) w ov w' c s) : Zr sc i pc lv st w ov w' c s := by
  refine Zr_mem0 h rfl rfl (pc' := pc + 3) (st' := .long z :: st) (w1 := w) ?_ k
  simp only [zmem, hq, zfl_eq, hz]
theorem rl_ldc {idx : Nat} {n : Int} {q : Int32 × Nat} (h : zfd (zil i) pc = some (.ldc idx)) (hq : zfd (zatL zIn (zoc i)) idx = some q) (hz : q.1 = Int32.ofInt n) (k : Zr sc i (pc + 2) lv (zj n :: st) w ov w' c s) : Zr sc i pc lv st w ov w' c s := by
  refine Zr_mem0 h rfl rfl (pc' := pc + 2) (st' := zj n :: st) (w1 := w) ?_ k
  simp only [zmem, hq, zfi_eq, hz]
  rfl
theorem rl_cal {kd j c1 s1 : Nat} {as rest : List Value} {ov1 : Option Value} {w1 : List zE} {ins : Instr} (h : zfd (zil i) pc = some ins) (h1 : zret ins (zrt i) st = none) (h2 : zps zN0 ins pc lv st = none) (h3 : zmem sc i ins pc st (false, w) = none) (h4 : zinv i ins st (false, w) = some (kd, j, as, rest)) (h5 : decide (8 < zsum rest) = false) (h6 : decide (kd < 6) = true)
    (k : Zc sc j as w ov1 w1 c1 s1) {c' s' : Nat} (k2 : Zr sc i (pc + 3) lv (ov1.toList ++ rest) w1 ov w' c s) (hc : c' = c1 + c) (hs : s' = s1 + s) : Zr sc i pc lv st w ov w' c' s' := by
  subst hc; subst hs
  exact Zr_call h h1 h2 h3 h4 h5 (of_decide_eq_true h6) k k2
-- longs
theorem rl_i2l {x : Int} {r : List Value} (h : zfd (zil i) pc = some .i2l) (k : Zr sc i (pc + 1) lv (.long (Int32.ofInt x).toInt64 :: r) w ov w' c s) : Zr sc i pc lv (zj x :: r) w ov w' c s :=
  Zr_st h rfl (q := (pc + 1, lv, .long (Int32.ofInt x).toInt64 :: r)) (by
    unfold zj
    simp only [zps, zfl_eq]) k
theorem rl_ladd {x y : Int64} {r : List Value} (h : zfd (zil i) pc = some .ladd) (k : Zr sc i (pc + 1) lv (.long (x + y) :: r) w ov w' c s) : Zr sc i pc lv (.long y :: .long x :: r) w ov w' c s :=
  Zr_st h rfl (q := (pc + 1, lv, .long (x + y) :: r)) (by simp only [zps, zbil, zfl_eq]) k
theorem rl_lmul {x y : Int64} {r : List Value} (h : zfd (zil i) pc = some .lmul) (k : Zr sc i (pc + 1) lv (.long (x * y) :: r) w ov w' c s) : Zr sc i pc lv (.long y :: .long x :: r) w ov w' c s :=
  Zr_st h rfl (q := (pc + 1, lv, .long (x * y) :: r)) (by simp only [zps, zbil, zfl_eq]) k
theorem rl_lcmp0 {x : Int64} {r : List Value} (h : zfd (zil i) pc = some .lcmp) (k : Zr sc i (pc + 1) lv (zj 0 :: r) w ov w' c s) : Zr sc i pc lv (.long x :: .long x :: r) w ov w' c s :=
  Zr_st h rfl (q := (pc + 1, lv, zj 0 :: r)) (by
    have : ¬ x < x := Int64.lt_irrefl
    simp only [zps, decide_eq_false this, decide_true, cond_false, cond_true]
    rfl) k
-- a virtual call, by the class of the receiver
theorem zinv_v {idx a cn : Nat} {fs st as rest : List Value} {q : Nat × Nat} {e : Nat × Nat × Nat × MethodName × String × Nat × Nat × Nat × Nat × Nat × Nat × Nat} (hw : w[a]? = some (zob cn fs)) (hn : zfd (zatL zN (zoc i)) idx = some q) (hp : zpop q.2 st [] = some (as, zp a :: rest)) (he : zfd2 (zatL zC (zoc i)) idx cn = some e) (hk : zkV e.1 = true) : zinv i (.invokevirtual idx) st (false, w) = some (e.1, e.2.1, zp a :: as, rest) := by
  unfold zp at hp ⊢
  unfold zob at hw
  simp only [zinv, hn, hp, zat_eq, hw, he, hk, cond_true]
theorem zinv_s {idx a : Nat} {st as rest : List Value} {q : Nat × Nat} {e : Nat × Nat × Nat × MethodName × String × Nat × Nat × Nat × Nat × Nat × Nat × Nat} (hn : zfd (zatL zN (zoc i)) idx = some q) (hp : zpop q.2 st [] = some (as, zp a :: rest)) (he : zfd2 (zatL zC (zoc i)) idx 0 = some e) (hk : zkI e.1 = true) : zinv i (.invokespecial idx) st (false, w) = some (e.1, e.2.1, zp a :: as, rest) := by
  unfold zp at hp ⊢
  simp only [zinv, hn, hp, he, hk, cond_true]
theorem zinv_t {idx : Nat} {st as rest : List Value} {q : Nat × Nat} {e : Nat × Nat × Nat × MethodName × String × Nat × Nat × Nat × Nat × Nat × Nat × Nat} (hn : zfd (zatL zN (zoc i)) idx = some q) (hp : zpop q.2 st [] = some (as, rest)) (he : zfd2 (zatL zC (zoc i)) idx 0 = some e) (hk : zkS e.1 = true) : zinv i (.invokestatic idx) st (false, w) = some (e.1, e.2.1, as, rest) := by
  simp only [zinv, hn, hp, he, hk, cond_true]
end ZRM
