/-! ===== rules in the form that the printed regions use ===== -/
section ZRN
variable {sc : List Value} {i pc : Nat} {lv st : List Value} {w w' : List zE} {ov : Option Value} {c s : Nat}
theorem zw_s {a : Nat} {X Y : zE} (h : w[a]? = some Y) : (w.set a X)[a]? = some X := by
  have := (List.getElem?_eq_some_iff.mp h).1
  simp [this]
theorem zw_o {a b : Nat} {X Y : zE} (hn : a ≠ b) (h : w[b]? = some Y) : (w.set a X)[b]? = some Y := by
  rw [List.getElem?_set_ne hn]
  exact h
theorem zw_n {p : Nat} {X : zE} (hp : p = w.length) : (w ++ [X])[p]? = some X := by
  subst hp
  simp
theorem zw_a {b : Nat} {X Y : zE} (h : w[b]? = some Y) : (w ++ [X])[b]? = some Y := by
  rw [List.getElem?_append_left (List.getElem?_eq_some_iff.mp h).1]
  exact h
theorem rn_new {idx p : Nat} {X : zE} {q : Nat × Nat × Nat × Nat} (h : zfd (zil i) pc = some (.new idx)) (hn : zfd (zatL zNw (zoc i)) idx = some q) (hp : p = w.length) (hX : zob q.1 (zdf q.1) = X) {c' s' : Nat} (hc : c' = 1 + c) (hs : s' = zcn q.1 + s) (k : Zr sc i (pc + 3) lv (zp p :: st) (w ++ [X]) ov w' c s) : Zr sc i pc lv st w ov w' c' s' := by
  subst hp; subst hX; subst hc; subst hs
  exact rl_new h hn k
theorem rn_na {n : Int} {p : Nat} {r : List Value} (h : zfd (zil i) pc = some (.newarray .int)) (h0 : 0 ≤ n) (h1 : n ≤ 60000) (hp : p = w.length) {c' s' : Nat} (hc : c' = 1 + c) (hs : s' = n.toNat + s) (k : Zr sc i (pc + 2) lv (zp p :: r) (w ++ [za (List.replicate n.toNat 0)]) ov w' c s) : Zr sc i pc lv (zj n :: r) w ov w' c' s' := by
  subst hp; subst hc; subst hs
  exact rl_na h h0 h1 k
theorem rn_cal0 {kd j : Nat} {as rest : List Value} {ov1 : Option Value} {w1 : List zE} {ins : Instr} (h : zfd (zil i) pc = some ins) (h1 : zret ins (zrt i) st = none) (h2 : zps zN0 ins pc lv st = none) (h3 : zmem sc i ins pc st (false, w) = none) (h4 : zinv i ins st (false, w) = some (kd, j, as, rest)) (h5 : decide (8 < zsum rest) = false) (h6 : decide (kd < 6) = true)
    (k : Zc sc j as w ov1 w1 0 0) (k2 : Zr sc i (pc + 3) lv (ov1.toList ++ rest) w1 ov w' c s) : Zr sc i pc lv st w ov w' c s :=
  rl_cal h h1 h2 h3 h4 h5 h6 k k2 (by omega) (by omega)
theorem zmx_j {b : Bool} {x y : Int} (hx : zrg x) (hy : zrg y) : zmx b zN0 [zj x, zj y] = some (zj (bif b then max x y else min x y)) := by
  have e := zcmp_j (cnd := .lt) hx hy
  have e' := zcmp_j (cnd := .lt) hy hx
  have e : zlt (ziv zN0 (zj x)) (ziv zN0 (zj y)) = some (decide (x < y)) := e
  have e' : zlt (ziv zN0 (zj y)) (ziv zN0 (zj x)) = some (decide (y < x)) := e'
  show (match (bif b then zlt (ziv zN0 (zj x)) (ziv zN0 (zj y)) else zlt (ziv zN0 (zj y)) (ziv zN0 (zj x))) with
    | some true => some (zj y)
    | some false => some (zj x)
    | none => none) = _
  rw [e, e']
  cases b
  · by_cases g : y < x
    · simp only [cond_false, decide_eq_true g]
      rw [Int.min_eq_right (by omega)]
    · simp only [cond_false, decide_eq_false g]
      rw [Int.min_eq_left (by omega)]
  · by_cases g : x < y
    · simp only [cond_true, decide_eq_true g]
      rw [Int.max_eq_right (by omega)]
    · simp only [cond_true, decide_eq_false g]
      rw [Int.max_eq_left (by omega)]
theorem zsw_d {d lo hi : Int} {offs : Array Int} {x : Int} {t : Nat} (h : x < lo ∨ hi < x) (ht : ztg pc d = some t) : zsw pc d lo hi offs x = some t := by
  unfold zsw
  have : (decide (x < lo) || decide (hi < x)) = true := by simpa using h
  rw [this, cond_true, ht]
end ZRN
