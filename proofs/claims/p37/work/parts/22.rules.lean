/-! ===== rules in the form that the printed regions use ===== -/
section ZRN
variable {sc : List Value} {i pc : Nat} {lv st : List Value} {w w' : List zE} {ov : Option Value} {c s : Nat}
theorem zw_s {a : Nat} {X Y : zE} (h : w[a]? = some Y) : (w.set a X)[a]? = some X := by
  have := (List.getElem?_eq_some_iff.mp h).1
  simp [this]
theorem zw_o {a b : Nat} {X Y : zE} (hn : a ≠ b) (h : w[b]? = some Y) : (w.set a X)[b]? = some Y := by
  rw [List.getElem?_set_ne hn]
  exact h
theorem zw_n {p : Nat} {X : zE} (hp : p = w.length) : (w ++ [X])[p]? = some X := by
  subst hp
  simp
theorem zw_a {b : Nat} {X Y : zE} (h : w[b]? = some Y) : (w ++ [X])[b]? = some Y := by
  rw [List.getElem?_append_left (List.getElem?_eq_some_iff.mp h).1]
  exact h
theorem rn_new {idx p : Nat} {X : zE} {q : Nat × Nat × Nat × Nat} (h : zfd (zil i) pc = some (.new idx)) (hn : zfd (zatL zNw (zoc i)) idx = some q) (hp : p = w.length) (hX : zob q.1 (zdf q.1) = X) {c' s' : Nat} (hc : c' = 1 + c) (hs : s' = zcn q.1 + s) (k : Zr sc i (pc + 3) lv (zp p :: st) (w ++ [X]) ov w' c s) : Zr sc i pc lv st w ov w' c' s' := by
  subst hp; subst hX; subst hc; subst hs
  exact rl_new h hn k
theorem rn_na {n : Int} {p : Nat} {r : List Value} (h : zfd (zil i) pc = some (.newarray .int)) (h0 : 0 ≤ n) (h1 : n ≤ 60000) (hp : p = w.length) {c' s' : Nat} (hc : c' = 1 + c) (hs : s' = n.toNat + s) (k : Zr sc i (pc + 2) lv (zp p :: r) (w ++ [za (List.replicate n.toNat 0)]) ov w' c s) : Zr sc i pc lv (zj n :: r) w ov w' c' s' := by
  subst hp; subst hc; subst hs
  exact rl_na h h0 h1 k
theorem rn_cal0 {kd j : Nat} {as rest : List Value} {ov1 : Option Value} {w1 : List zE} {ins : Instr} (h : zfd (zil i) pc = some ins) (h1 : zret ins (zrt i) st = none) (h2 : zps zN0 ins pc lv st = none) (h3 : zmem sc i ins pc st (false, w) = none) (h4 : zinv i ins st (false, w) = some (kd, j, as, rest)) (h5 : decide (8 < zsum rest) = false) (h6 : decide (kd < 6) = true)
    (k : Zc sc j as w ov1 w1 0 0) (k2 : Zr sc i (pc + 3) lv (ov1.toList ++ rest) w1 ov w' c s) : Zr sc i pc lv st w ov w' c s :=
  rl_cal h h1 h2 h3 h4 h5 h6 k k2 (by omega) (by omega)
theorem zinv_u {idx a cn kd j : Nat} {fs st as rest : List Value} {q : Nat × Nat} {e : Nat × Nat × Nat × MethodName × String × Nat × Nat × Nat × Nat × Nat × Nat × Nat} (hw : w[a]? = some (zob cn fs)) (hn : zfd (zatL zN (zoc i)) idx = some q) (hp : zpop q.2 st [] = some (as, zp a :: rest)) (he : zfd2 (zatL zC (zoc i)) idx cn = some e) (hk : zkV e.1 = true) (h1 : e.1 = kd) (h2 : e.2.1 = j) (h3 : decide (kd < 6) = true) : ∃ kd, zinv i (.invokevirtual idx) st (false, w) = some (kd, j, zp a :: as, rest) ∧ decide (kd < 6) = true := by
  subst h1; subst h2
  exact ⟨_, zinv_v hw hn hp he hk, h3⟩
theorem zinv_t2 {idx kd : Nat} {st as rest : List Value} {q : Nat × Nat} {e : Nat × Nat × Nat × MethodName × String × Nat × Nat × Nat × Nat × Nat × Nat × Nat} (hn : zfd (zatL zN (zoc i)) idx = some q) (hp : zpop q.2 st [] = some (as, rest)) (he : zfd2 (zatL zC (zoc i)) idx 0 = some e) (hk : zkS e.1 = true) (h1 : e.1 = kd) : zinv i (.invokestatic idx) st (false, w) = some (kd, e.2.1, as, rest) := by
  subst h1
  exact zinv_t hn hp he hk
theorem zinv_s2 {idx a kd : Nat} {st as rest : List Value} {q : Nat × Nat} {e : Nat × Nat × Nat × MethodName × String × Nat × Nat × Nat × Nat × Nat × Nat × Nat} (hn : zfd (zatL zN (zoc i)) idx = some q) (hp : zpop q.2 st [] = some (as, zp a :: rest)) (he : zfd2 (zatL zC (zoc i)) idx 0 = some e) (hk : zkI e.1 = true) (h1 : e.1 = kd) : zinv i (.invokespecial idx) st (false, w) = some (kd, e.2.1, zp a :: as, rest) := by
  subst h1
  exact zinv_s hn hp he hk
theorem Zr_retb {x : Int} (h : zfd (zil i) pc = some .ireturn) (hz : zrt i = some .boolean) (hb : x = 0 ∨ x = 1) : Zr sc i pc lv [zj x] w (some (zj x)) w 0 0 := by
  refine Zr_ret h ?_
  rw [hz]
  rcases hb with rfl | rfl <;> rfl
theorem zmx_j {b : Bool} {x y : Int} (hx : zrg x) (hy : zrg y) : zmx b zN0 [zj x, zj y] = some (zj (bif b then max x y else min x y)) := by
  have e := zcmp_j (cnd := .lt) hx hy
  have e' := zcmp_j (cnd := .lt) hy hx
  have e : zlt (ziv zN0 (zj x)) (ziv zN0 (zj y)) = some (decide (x < y)) := e
  have e' : zlt (ziv zN0 (zj y)) (ziv zN0 (zj x)) = some (decide (y < x)) := e'
  show (match (bif b then zlt (ziv zN0 (zj x)) (ziv zN0 (zj y)) else zlt (ziv zN0 (zj y)) (ziv zN0 (zj x))) with
    | some true => some (zj y)
    | some false => some (zj x)
    | none => none) = _
  rw [e, e']
  cases b
  · by_cases g : y < x
    · simp only [cond_false, decide_eq_true g]
      rw [Int.min_eq_right (by omega)]
    · simp only [cond_false, decide_eq_false g]
      rw [Int.min_eq_left (by omega)]
  · by_cases g : x < y
    · simp only [cond_true, decide_eq_true g]
      rw [Int.max_eq_right (by omega)]
    · simp only [cond_true, decide_eq_false g]
      rw [Int.max_eq_left (by omega)]
def zicp (l1 l2 : List Int) (sp dp n : Int) : List Int := bif Nat.beq n.toNat 0 then l2 else (List.range l2.length).map fun k => bif (decide (dp.toNat ≤ k) && decide (k < dp.toNat + n.toNat)) then l1.getD (sp.toNat + (k - dp.toNat)) 0 else l2.getD k 0
theorem zj_getD (l : List Int) (k : Nat) (h : k < l.length) : (l.map zj).getD k .null = zj (l.getD k 0) := by
  rw [List.getD_eq_getElem?_getD, List.getD_eq_getElem?_getD, List.getElem?_map, List.getElem?_eq_getElem h]
  rfl
theorem zcp_j {a b : Nat} {l1 l2 : List Int} {sp dp n : Int} (h1 : w[a]? = some (za l1)) (h2 : w[b]? = some (za l2)) (hb : (0 ≤ sp ∧ sp + n ≤ (l1.length : Int) ∧ l1.length ≤ 60000) ∧ (0 ≤ dp ∧ dp + n ≤ (l2.length : Int) ∧ l2.length ≤ 60000) ∧ 0 ≤ n) : zcp [zp a, zj sp, zp b, zj dp, zj n] (false, w) = some (false, w.set b (za (zicp l1 l2 sp dp n))) := by
  obtain ⟨⟨s1, s2, s3⟩, ⟨d1, d2, d3⟩, n1⟩ := hb
  have hl : b < w.length := (List.getElem?_eq_some_iff.mp h2).1
  have neg : ∀ z : Int, 0 ≤ z → z ≤ 2147483647 → decide (Int32.ofInt z < 0) = false ∧ (Int32.ofInt z).toNatClampNeg = z.toNat := by
    intro z z0 z1
    have e := zj_to (n := z) ⟨by omega, z1⟩
    refine ⟨?_, ?_⟩
    · rw [decide_eq_false_iff_not, Int32.lt_iff_toInt_lt, e]
      show ¬ z < 0
      omega
    · show (Int32.ofInt z).toInt.toNat = _
      rw [e]
  obtain ⟨e1, e2⟩ := neg sp s1 (by omega)
  obtain ⟨e3, e4⟩ := neg dp d1 (by omega)
  obtain ⟨e5, e6⟩ := neg n n1 (by omega)
  unfold za at h1 h2
  show (match zat w a with
    | some (.inl la) => match zat w b with
      | some (.inl lb) => bif (decide (Int32.ofInt sp < 0) || decide (Int32.ofInt dp < 0) || decide (Int32.ofInt n < 0) || !decide ((Int32.ofInt sp).toNatClampNeg + (Int32.ofInt n).toNatClampNeg ≤ la.length) || !decide ((Int32.ofInt dp).toNatClampNeg + (Int32.ofInt n).toNatClampNeg ≤ lb.length)) || !(la.all zisI) then none else zset w b (.inl (zcpy la lb (Int32.ofInt sp).toNatClampNeg (Int32.ofInt dp).toNatClampNeg (Int32.ofInt n).toNatClampNeg)) fun w' => some (false, w')
      | _ => none
    | _ => none) = _
  simp only [zat_eq, h1, h2]
  have hall : (l1.map zj).all zisI = true := by
    rw [List.all_eq_true]
    intro v hv
    obtain ⟨x, -, rfl⟩ := List.mem_map.mp hv
    rfl
  have g1 : decide (sp.toNat + n.toNat ≤ (l1.map zj).length) = true := by
    rw [decide_eq_true_eq, List.length_map]
    omega
  have g2 : decide (dp.toNat + n.toNat ≤ (l2.map zj).length) = true := by
    rw [decide_eq_true_eq, List.length_map]
    omega
  rw [e1, e2, e3, e4, e5, e6, g1, g2, hall]
  simp only [Bool.or_self, Bool.not_true, cond_false]
  rw [zset_eq hl]
  have : zcpy (l1.map zj) (l2.map zj) sp.toNat dp.toNat n.toNat = (zicp l1 l2 sp dp n).map zj := by
    unfold zcpy zicp
    cases hn : Nat.beq n.toNat 0 with
    | true => rfl
    | false =>
      simp only [cond_false, List.length_map, List.map_map]
      apply List.map_congr_left
      intro k hk
      rw [List.mem_range] at hk
      show _ = zj (bif _ then _ else _)
      cases hq : (decide (dp.toNat ≤ k) && decide (k < dp.toNat + n.toNat)) with
      | true =>
        rw [Bool.and_eq_true, decide_eq_true_eq, decide_eq_true_eq] at hq
        simp only [cond_true]
        exact zj_getD _ _ (by omega)
      | false =>
        simp only [cond_false]
        exact zj_getD _ _ hk
  rw [this]
  rfl
theorem rl_lcmp1 {x y : Int64} {r : List Value} (he : y = x) (h : zfd (zil i) pc = some .lcmp) (k : Zr sc i (pc + 1) lv (zj 0 :: r) w ov w' c s) : Zr sc i pc lv (.long y :: .long x :: r) w ov w' c s := by
  subst he
  exact rl_lcmp0 h k
theorem zsw_d {d lo hi : Int} {offs : Array Int} {x : Int} {t : Nat} (h : x < lo ∨ hi < x) (ht : ztg pc d = some t) : zsw pc d lo hi offs x = some t := by
  unfold zsw
  have : (decide (x < lo) || decide (hi < x)) = true := by simpa using h
  rw [this, cond_true, ht]
end ZRN
