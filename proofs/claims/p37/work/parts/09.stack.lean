/-! ===== soundness of the small machine: lists, locals, the stack ===== -/
theorem zc_cat (X : zX) (v : Value) : (zc X v).category = v.category := by
  cases v with
  | ref a => cases a <;> rfl
  | _ => rfl
theorem zcat2_iff (v : Value) : zcat2 v = true ↔ v.category = 2 := by cases v <;> simp [zcat2, Value.category]
theorem zcat2_f {v : Value} (h : zcat2 v = false) : v.category = 1 := by cases v <;> simp_all [zcat2, Value.category]
theorem zisI_c {X : zX} {v : Value} (h : zisI v = true) : ∃ x, zc X v = .int x := by
  cases v <;> simp_all [zisI, zc]
theorem zisA_c {X : zX} {v : Value} (h : zisA v = true) : (∃ a, zc X v = .ref a) ∨ zc X v = .null := by
  cases v with
  | ref a => cases a <;> exact Or.inl ⟨_, rfl⟩
  | null => exact Or.inr rfl
  | _ => simp [zisA] at h
theorem zisL_c {X : zX} {v : Value} (h : zisL v = true) : ∃ x, v = .long x ∧ zc X v = .long x := by
  cases v <;> simp_all [zisL, zc]
theorem zisD_c {X : zX} {v : Value} (h : zisD v = true) : ∃ x, v = .double x ∧ zc X v = .double x := by
  cases v <;> simp_all [zisD, zc]
theorem zisI_m {v : Value} (h : zisI v = true) : v ≠ zmk ∧ zcat2 v = false := by cases v <;> simp_all [zisI, zmk, zcat2]
theorem zisA_m {v : Value} (h : zisA v = true) : v ≠ zmk ∧ zcat2 v = false := by cases v <;> simp_all [zisA, zmk, zcat2]
theorem zisL_m {v : Value} (h : zisL v = true) : v ≠ zmk ∧ zcat2 v = true := by cases v <;> simp_all [zisL, zmk, zcat2]
theorem zisD_m {v : Value} (h : zisD v = true) : v ≠ zmk ∧ zcat2 v = true := by cases v <;> simp_all [zisD, zmk, zcat2]
/-- the locals -/
def zPl (X : zX) (lv : List Value) : List (Nat × Value) := (List.range lv.length).filterMap fun i => match lv[i]? with
  | some v => if v = zmk then none else some (i, zc X v)
  | none => none
def zL (X : zX) (ls : Array Slot) (nL : Nat) (lv : List Value) : Prop := lv.length = nL ∧ ls.size = nL ∧ lv_wf ls ∧ ∀ (i : Nat) (v : Value), lv[i]? = some v → v ≠ zmk → ls[i]? = some (.val (zc X v))
theorem zPl_in {X : zX} {lv : List Value} {i : Nat} {v : Value} (h : lv[i]? = some v) (hv : v ≠ zmk) : (i, zc X v) ∈ zPl X lv := by
  unfold zPl
  refine List.mem_filterMap.mpr ⟨i, List.mem_range.mpr (List.getElem?_eq_some_iff.mp h).1, ?_⟩
  simp [h, hv]
theorem zPl_of {X : zX} {lv : List Value} {q : Nat × Value} (h : q ∈ zPl X lv) : ∃ v, lv[q.1]? = some v ∧ v ≠ zmk ∧ q.2 = zc X v := by
  unfold zPl at h
  obtain ⟨i, -, hi⟩ := List.mem_filterMap.mp h
  cases hl : lv[i]? with
  | none => rw [hl] at hi; cases hi
  | some v =>
    rw [hl] at hi
    by_cases hv : v = zmk
    · simp [hv] at hi
    · simp only [hv, if_false] at hi
      cases hi
      exact ⟨v, hl, hv, rfl⟩
theorem zL.has {X : zX} {ls : Array Slot} {nL : Nat} {lv : List Value} (h : zL X ls nL lv) : lv_has ls nL (zPl X lv) := by
  refine ⟨h.2.1, h.2.2.1, fun q hq => ?_⟩
  obtain ⟨v, h1, h2, h3⟩ := zPl_of hq
  rw [h3]
  exact h.2.2.2 _ _ h1 h2
theorem zbad_f {lv : List Value} {i j : Nat} {v : Value} (h : zbad lv i = false) (hj : j + 1 = i) (hv : lv[j]? = some v) : zcat2 v = false := by
  subst hj
  have h' : (match zat lv j with | some v => zcat2 v | none => false) = false := h
  rw [zat_eq, hv] at h'
  exact h'
theorem zst1_spec {β : Type} {lv : List Value} {i : Nat} {v : Value} {f : List Value → Option β} {b : β} (h : zst1 lv i v f = some b) : zbad lv i = false ∧ i < lv.length ∧ f (lv.set i v) = some b := by
  unfold zst1 at h
  cases hb : zbad lv i with
  | true => rw [hb] at h; cases h
  | false =>
    rw [hb] at h
    exact ⟨rfl, zset_spec h⟩
theorem zst2_spec {β : Type} {lv : List Value} {i : Nat} {v : Value} {f : List Value → Option β} {b : β} (h : zst2 lv i v f = some b) : zbad lv i = false ∧ i + 1 < lv.length ∧ f ((lv.set i v).set (i + 1) zmk) = some b := by
  unfold zst2 at h
  cases hb : zbad lv i with
  | true => rw [hb] at h; cases h
  | false =>
    rw [hb] at h
    obtain ⟨-, h1⟩ := zset_spec h
    obtain ⟨h2, h3⟩ := zset_spec h1
    exact ⟨rfl, by simpa using h2, h3⟩
theorem zL.st1 {X : zX} {ls ls' : Array Slot} {nL i : Nat} {lv : List Value} {v V : Value} (h : zL X ls nL lv) (hb : zbad lv i = false) (hV : v = zmk ∨ V = zc X v)
    (hl : lv_has ls' nL ((i, V) :: (zPl X lv).filter (fun q => !(q.1 == i) && !(q.1 + 1 == i && q.2.category == 2)))) : zL X ls' nL (lv.set i v) := by
  refine ⟨by rw [List.length_set]; exact h.1, hl.1, hl.2.1, fun j w hj hw => ?_⟩
  rw [List.getElem?_set] at hj
  by_cases hij : i = j
  · subst hij
    rw [if_pos rfl] at hj
    by_cases hlt : i < lv.length
    · rw [if_pos hlt] at hj
      cases hj
      rcases hV with e | e
      · exact absurd e hw
      · rw [← e]
        exact hl.2.2 (i, V) List.mem_cons_self
    · rw [if_neg hlt] at hj
      cases hj
  · rw [if_neg hij] at hj
    have h1 := zPl_in (X := X) hj hw
    refine hl.2.2 (j, zc X w) (List.mem_cons_of_mem _ (List.mem_filter.mpr ⟨h1, ?_⟩))
    simp only [Bool.and_eq_true, Bool.not_eq_true', beq_eq_false_iff_ne, ne_eq, Bool.and_eq_false_iff]
    refine ⟨fun e => hij e.symm, ?_⟩
    by_cases hj1 : j + 1 = i
    · right
      have := zbad_f hb hj1 hj
      rw [zc_cat, zcat2_f this]
      decide
    · exact Or.inl hj1
theorem zL.st2 {X : zX} {ls ls' : Array Slot} {nL i : Nat} {lv : List Value} {v : Value} (h : zL X ls nL lv) (hb : zbad lv i = false)
    (hl : lv_has ls' nL ((i, zc X v) :: (zPl X lv).filter (fun q => !(q.1 == i) && (!(q.1 == i + 1) && !(q.1 + 1 == i && q.2.category == 2))))) : zL X ls' nL ((lv.set i v).set (i + 1) zmk) := by
  refine ⟨by rw [List.length_set, List.length_set]; exact h.1, hl.1, hl.2.1, fun j w hj hw => ?_⟩
  rw [List.getElem?_set] at hj
  by_cases hij1 : i + 1 = j
  · subst hij1
    rw [if_pos rfl] at hj
    split at hj
    · cases hj; exact absurd rfl hw
    · cases hj
  · rw [if_neg hij1, List.getElem?_set] at hj
    by_cases hij : i = j
    · subst hij
      rw [if_pos rfl] at hj
      split at hj
      · cases hj
        exact hl.2.2 (i, zc X v) List.mem_cons_self
      · cases hj
    · rw [if_neg hij] at hj
      have h1 := zPl_in (X := X) hj hw
      refine hl.2.2 (j, zc X w) (List.mem_cons_of_mem _ (List.mem_filter.mpr ⟨h1, ?_⟩))
      simp only [Bool.and_eq_true, Bool.not_eq_true', beq_eq_false_iff_ne, ne_eq, Bool.and_eq_false_iff]
      refine ⟨fun e => hij e.symm, fun e => hij1 e.symm, ?_⟩
      by_cases hj1 : j + 1 = i
      · right
        have := zbad_f hb hj1 hj
        rw [zc_cat, zcat2_f this]
        decide
      · exact Or.inl hj1
theorem ztg_spec {pc : Nat} {off : Int} {t : Nat} (h : ztg pc off = some t) : (pc : Int) + off = (t : Int) := by
  unfold ztg at h
  split at h
  · next e => cases h; exact e
  · cases h
/-- what is known of the numbers that are variables -/
def zSyOk (X : zX) (sy : zSz) : Prop := (∀ (u : Nat) (q : Int × Int × Option Int32), sy.1[u]? = some q → q.1 ≤ (X.2.2 u).toInt ∧ (X.2.2 u).toInt ≤ q.2.1 ∧ ∀ k, q.2.2 = some k → X.2.2 u &&& 63 = k) ∧
  ∀ f ∈ sy.2, ∃ x y z, zc X f.2.1 = .int x ∧ zc X f.2.2.1 = .int y ∧ zc X f.2.2.2 = .int z ∧ zopf f.1 x y = some z
theorem ziv_ok {X : zX} {sy : zSz} (hs : zSyOk X sy) {v : Value} {x : Int32} (h : zc X v = .int x) (hv : zisI v = true) : (ziv sy v).1 ≤ x.toInt ∧ x.toInt ≤ (ziv sy v).2 := by
  cases v with
  | int y =>
    cases h
    exact ⟨Int.le_refl _, Int.le_refl _⟩
  | float u =>
    have e : X.2.2 u.toNat = x := by
      have : (Value.int (X.2.2 u.toNat)) = .int x := h
      cases this
      rfl
    unfold ziv
    dsimp only
    rw [zat_eq]
    cases hq : sy.1[u.toNat]? with
    | none =>
      have h1 := x.le_toInt
      have h2 := x.toInt_lt
      simp only at h1 h2 ⊢
      omega
    | some q =>
      obtain ⟨h1, h2, -⟩ := hs.1 _ _ hq
      rw [e] at h1 h2
      exact ⟨h1, h2⟩
  | _ => simp [zisI] at hv
def zhold (cnd : ClassFile.Cond) (x y : Int32) : Prop := match cnd with
  | .eq => x = y
  | .ne => ¬ x = y
  | .lt => x < y
  | .ge => y ≤ x
  | .gt => y < x
  | .le => x ≤ y
theorem zlt_ok {a b : Int × Int} {x y : Int} {r : Bool} (h : zlt a b = some r) (h1 : a.1 ≤ x) (h2 : x ≤ a.2) (h3 : b.1 ≤ y) (h4 : y ≤ b.2) : r = true ↔ x < y := by
  unfold zlt at h
  by_cases g : a.2 < b.1
  · simp only [g, decide_true, cond_true, Option.some.injEq] at h
    subst h
    simp; omega
  · simp only [g, decide_false, cond_false] at h
    by_cases g2 : b.2 ≤ a.1
    · simp only [g2, decide_true, cond_true, Option.some.injEq] at h
      subst h
      simp; omega
    · simp only [g2, decide_false, cond_false] at h
      cases h
theorem zeq_ok {a b : Int × Int} {x y : Int} {r : Bool} (h : zeq a b = some r) (h1 : a.1 ≤ x) (h2 : x ≤ a.2) (h3 : b.1 ≤ y) (h4 : y ≤ b.2) : r = true ↔ x = y := by
  unfold zeq at h
  by_cases g : a.2 < b.1 ∨ b.2 < a.1
  · have e : (decide (a.2 < b.1) || decide (b.2 < a.1)) = true := by simpa using g
    rw [e] at h
    simp only [cond_true, Option.some.injEq] at h
    subst h
    simp; omega
  · have e : (decide (a.2 < b.1) || decide (b.2 < a.1)) = false := by simpa using g
    rw [e] at h
    simp only [cond_false] at h
    by_cases g2 : a.1 = a.2 ∧ b.1 = b.2
    · have e2 : (decide (a.1 = a.2) && decide (b.1 = b.2)) = true := by simpa using g2
      rw [e2] at h
      simp only [cond_true, Option.some.injEq] at h
      subst h
      simp; omega
    · have e2 : (decide (a.1 = a.2) && decide (b.1 = b.2)) = false := by
        rw [Bool.eq_false_iff]
        intro q
        rw [Bool.and_eq_true, decide_eq_true_eq, decide_eq_true_eq] at q
        exact g2 q
      rw [e2] at h
      cases h
theorem znt_ok {o : Option Bool} {r : Bool} {P : Prop} (h : znt o = some r) (k : ∀ b, o = some b → (b = true ↔ P)) : r = true ↔ ¬ P := by
  cases o with
  | none => cases h
  | some b =>
    have e := k b rfl
    simp only [znt, Option.some.injEq] at h
    subst h
    rw [← e]
    cases b <;> simp
theorem zcmp_ok {cnd : ClassFile.Cond} {a b : Int × Int} {x y : Int32} {r : Bool} (h : zcmp cnd a b = some r) (ha : a.1 ≤ x.toInt ∧ x.toInt ≤ a.2) (hb : b.1 ≤ y.toInt ∧ y.toInt ≤ b.2) : r = true ↔ zhold cnd x y := by
  have e1 : x = y ↔ x.toInt = y.toInt := Int32.toInt_inj.symm
  cases cnd with
  | eq =>
    show r = true ↔ x = y
    rw [e1]
    exact zeq_ok h ha.1 ha.2 hb.1 hb.2
  | ne =>
    show r = true ↔ ¬ x = y
    rw [e1]
    exact znt_ok h fun b' h' => zeq_ok h' ha.1 ha.2 hb.1 hb.2
  | lt =>
    show r = true ↔ x < y
    rw [Int32.lt_iff_toInt_lt]
    exact zlt_ok h ha.1 ha.2 hb.1 hb.2
  | ge =>
    show r = true ↔ y ≤ x
    rw [Int32.le_iff_toInt_le, ← Int.not_lt]
    exact znt_ok h fun b' h' => zlt_ok h' ha.1 ha.2 hb.1 hb.2
  | gt =>
    show r = true ↔ y < x
    rw [Int32.lt_iff_toInt_lt]
    exact zlt_ok h hb.1 hb.2 ha.1 ha.2
  | le =>
    show r = true ↔ x ≤ y
    rw [Int32.le_iff_toInt_le, ← Int.not_lt]
    exact znt_ok h fun b' h' => zlt_ok h' hb.1 hb.2 ha.1 ha.2
theorem zld_spec {p : Value → Bool} {lv st : List Value} {i pc : Nat} {q : Nat × List Value × List Value} (h : zld p lv st i pc = some q) : ∃ v, lv[i]? = some v ∧ p v = true ∧ q = (pc, lv, v :: st) := by
  unfold zld at h
  rw [zat_eq] at h
  cases hl : lv[i]? with
  | none => rw [hl] at h; cases h
  | some v =>
    rw [hl] at h
    cases hp : p v with
    | false => simp [hp] at h
    | true =>
      simp only [hp, cond_true, Option.some.injEq] at h
      exact ⟨v, rfl, hp, h.symm⟩
theorem zso_spec {p : Value → Bool} {lv st : List Value} {i pc : Nat} {q : Nat × List Value × List Value} (h : zso p lv st i pc = some q) : ∃ v r, st = v :: r ∧ p v = true ∧ zbad lv i = false ∧ i < lv.length ∧ q = (pc, lv.set i v, r) := by
  unfold zso at h
  split at h
  · next v r =>
    cases hp : p v with
    | false => simp [hp] at h
    | true =>
      simp only [hp, cond_true] at h
      obtain ⟨h1, h2, h3⟩ := zst1_spec h
      exact ⟨v, r, rfl, hp, h1, h2, (Option.some.inj h3).symm⟩
  · cases h
theorem zso2_spec {p : Value → Bool} {lv st : List Value} {i pc : Nat} {q : Nat × List Value × List Value} (h : zso2 p lv st i pc = some q) : ∃ v r, st = v :: r ∧ p v = true ∧ zbad lv i = false ∧ i + 1 < lv.length ∧ q = (pc, (lv.set i v).set (i + 1) zmk, r) := by
  unfold zso2 at h
  split at h
  · next v r =>
    cases hp : p v with
    | false => simp [hp] at h
    | true =>
      simp only [hp, cond_true] at h
      obtain ⟨h1, h2, h3⟩ := zst2_spec h
      exact ⟨v, r, rfl, hp, h1, h2, (Option.some.inj h3).symm⟩
  · cases h
theorem zfact_mem {l : List (Nat × Value × Value × Value)} {op : Nat} {x y v : Value} (h : zfact l op x y = some v) : (op, x, y, v) ∈ l := by
  induction l with
  | nil => cases h
  | cons f r ih =>
    unfold zfact at h
    cases hc : (Nat.beq f.1 op && decide (f.2.1 = x) && decide (f.2.2.1 = y)) with
    | true =>
      rw [hc] at h
      simp only [Bool.and_eq_true, decide_eq_true_eq] at hc
      obtain ⟨⟨h1, h2⟩, h3⟩ := hc
      have h1 := Nat.eq_of_beq_eq_true h1
      cases h
      obtain ⟨a, b, c, d⟩ := f
      subst h1 h2 h3
      exact List.mem_cons_self
    | false =>
      rw [hc] at h
      exact List.mem_cons_of_mem _ (ih h)
theorem zbin_spec {X : zX} {op : Nat} {sy : zSz} (hs : zSyOk X sy) {lv st : List Value} {pc : Nat} {q : Nat × List Value × List Value} (h : zbin op sy lv st pc = some q) : ∃ a b v r x y z, st = b :: a :: r ∧ zc X a = .int x ∧ zc X b = .int y ∧ zc X v = .int z ∧ zopf op x y = some z ∧ q = (pc, lv, v :: r) := by
  unfold zbin at h
  split at h
  · next y x r =>
    split at h
    · next v hv =>
      rw [zfi_eq] at h
      exact ⟨.int x, .int y, .int v, r, x, y, v, rfl, rfl, rfl, rfl, hv, (Option.some.inj h).symm⟩
    · cases h
  · next y x r _ =>
    split at h
    · next v hv =>
      obtain ⟨x9, y9, z9, h1, h2, h3, h4⟩ := hs.2 _ (zfact_mem hv)
      exact ⟨x, y, v, r, x9, y9, z9, rfl, h1, h2, h3, h4, (Option.some.inj h).symm⟩
    · cases h
  · cases h
theorem zbil_spec {f : Int64 → Int64 → Int64} {lv st : List Value} {pc : Nat} {q : Nat × List Value × List Value} (h : zbil f lv st pc = some q) : ∃ x y r, st = .long y :: .long x :: r ∧ q = (pc, lv, .long (f x y) :: r) := by
  unfold zbil at h
  split at h
  · next y x r =>
    rw [zfl_eq] at h
    exact ⟨x, y, r, rfl, (Option.some.inj h).symm⟩
  · cases h
theorem zbr_spec {o : Option Bool} {t : Option Nat} {pc : Nat} {lv r : List Value} {q : Nat × List Value × List Value} (h : zbr o t pc lv r = some q) : ∃ t', t = some t' ∧ ((o = some true ∧ q = (t', lv, r)) ∨ (o = some false ∧ q = (pc + 3, lv, r))) := by
  unfold zbr at h
  split at h
  · next t' =>
    refine ⟨t', rfl, ?_⟩
    split at h
    · exact Or.inl ⟨rfl, (Option.some.inj h).symm⟩
    · exact Or.inr ⟨rfl, (Option.some.inj h).symm⟩
    · cases h
  · cases h
theorem zsw_spec {pc : Nat} {dflt lo hi : Int} {offs : Array Int} {x : Int} {t : Nat} (h : zsw pc dflt lo hi offs x = some t) : ((x < lo ∨ hi < x) ∧ (pc : Int) + dflt = (t : Int)) ∨ (¬ x < lo ∧ ¬ hi < x ∧ ∃ o, offs[(x - lo).toNat]? = some o ∧ (pc : Int) + o = (t : Int)) := by
  unfold zsw at h
  by_cases g : x < lo ∨ hi < x
  · have e : (decide (x < lo) || decide (hi < x)) = true := by simpa using g
    rw [e] at h
    exact Or.inl ⟨g, ztg_spec h⟩
  · have e : (decide (x < lo) || decide (hi < x)) = false := by simpa using g
    rw [e] at h
    simp only [cond_false] at h
    rw [zat_eq] at h
    split at h
    · next o ho =>
      refine Or.inr ⟨fun q => g (Or.inl q), fun q => g (Or.inr q), o, ?_, ztg_spec h⟩
      rw [← Array.getElem?_toList]
      exact ho
    · cases h
theorem zand_spec {X : zX} {sy : zSz} (hs : zSyOk X sy) {lv st : List Value} {pc : Nat} {q : Nat × List Value × List Value} (h : zand sy lv st pc = some q) : ∃ a b v r x y z, st = b :: a :: r ∧ zc X a = .int x ∧ zc X b = .int y ∧ zc X v = .int z ∧ zopf 7 x y = some z ∧ q = (pc, lv, v :: r) := by
  unfold zand at h
  split at h
  · next y u r =>
    by_cases hy : y = 63
    · subst hy
      simp only [decide_true, cond_true] at h
      rw [zat_eq] at h
      split at h
      · next k hk =>
        refine ⟨.float u, .int 63, .int k, r, X.2.2 u.toNat, 63, k, rfl, rfl, rfl, rfl, ?_, (Option.some.inj h).symm⟩
        show some (X.2.2 u.toNat &&& 63) = some k
        rw [(hs.1 _ _ hk).2.2 _ rfl]
      · cases h
    · simp only [hy, decide_false, cond_false] at h
      exact zbin_spec hs h
  · exact zbin_spec hs h
theorem zmx_spec {X : zX} {sy : zSz} (hs : zSyOk X sy) {b : Bool} {as : List Value} {v : Value} (h : zmx b sy as = some v) : ∃ a1 a2 x y, as = [a1, a2] ∧ zc X a1 = .int x ∧ zc X a2 = .int y ∧ zc X v = .int (bif b then (if x < y then y else x) else (if y < x then y else x)) := by
  unfold zmx at h
  split at h
  · next a1 a2 =>
    cases hi : (zisI a1 && zisI a2) with
    | false => rw [hi] at h; cases h
    | true =>
      rw [hi] at h
      simp only [cond_true] at h
      rw [Bool.and_eq_true] at hi
      obtain ⟨x, hx⟩ := zisI_c (X := X) hi.1
      obtain ⟨y, hy⟩ := zisI_c (X := X) hi.2
      have b1 := ziv_ok hs hx hi.1
      have b2 := ziv_ok hs hy hi.2
      refine ⟨a1, a2, x, y, rfl, hx, hy, ?_⟩
      cases b with
      | true =>
        simp only [cond_true] at h ⊢
        split at h
        · next hz =>
          have := (zlt_ok hz b1.1 b1.2 b2.1 b2.2).mp rfl
          cases h
          rw [if_pos (Int32.lt_iff_toInt_lt.mpr this)]
          exact hy
        · next hz =>
          have : ¬ x.toInt < y.toInt := fun q => by
            have := (zlt_ok hz b1.1 b1.2 b2.1 b2.2).mpr q
            cases this
          cases h
          rw [if_neg (fun q => this (Int32.lt_iff_toInt_lt.mp q))]
          exact hx
        · cases h
      | false =>
        simp only [cond_false] at h ⊢
        split at h
        · next hz =>
          have := (zlt_ok hz b2.1 b2.2 b1.1 b1.2).mp rfl
          cases h
          rw [if_pos (Int32.lt_iff_toInt_lt.mpr this)]
          exact hy
        · next hz =>
          have : ¬ y.toInt < x.toInt := fun q => by
            have := (zlt_ok hz b2.1 b2.2 b1.1 b1.2).mpr q
            cases this
          cases h
          rw [if_neg (fun q => this (Int32.lt_iff_toInt_lt.mp q))]
          exact hx
        · cases h
  · cases h
