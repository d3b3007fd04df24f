/-! ===== the law's own loops: the names ===== -/
section LWN
variable {sc : List Value} {w w' w2 : List zE} {q a4 a6 : Nat} {x x' : ps_T} {ow ow' sz rm am cn de : List Int} {B B' X Y : List bk_T} {S : List Int} {wy : Nat} {st hd : Int} {D : List dd_T} {K : Nat → mk_T} {HN : Nat → Int} {CN : Nat → List Int} {BB : Nat → List bk_T}
def belB (i : Int) (B : List bk_T) : List bk_T := B.filter fun b => decide (b.1 < i)
theorem belB_same {i j : Int} (h : ∀ y ∈ B, y.1 < i ↔ y.1 < j) : belB i B = belB j B := by
  unfold belB
  exact List.filter_congr fun y hy => decide_eq_decide.mpr (h y hy)
theorem belB_put {b : bk_T} (hok : okB (X ++ b :: Y)) : belB (b.1 + 1) (X ++ b :: Y) = belB b.1 X ++ b :: belB b.1 Y ∧ belB b.1 (X ++ b :: Y) = belB b.1 X ++ belB b.1 Y := by
  have hm := okB_mid.mp hok
  have eX : belB (b.1 + 1) X = belB b.1 X := belB_same fun y hy => by
    have := (hm.2.1 y hy).1
    omega
  have eY : belB (b.1 + 1) Y = belB b.1 Y := belB_same fun y hy => by
    have := (hm.2.2.1 y hy).1
    omega
  constructor
  · rw [← eX, ← eY]
    unfold belB
    rw [List.filter_append, List.filter_cons_of_pos (by simp; omega)]
  · unfold belB
    rw [List.filter_append, List.filter_cons_of_neg (by simp)]
theorem sums_mid (X : List bk_T) (b : bk_T) (Y : List bk_T) : sumR (X ++ b :: Y) = sumR (X ++ Y) + b.2.2.2 ∧ sumS (X ++ b :: Y) = sumS (X ++ Y) + b.2.2.1 := by
  unfold sumR sumS
  simp only [List.map_append, List.map_cons, List.sum_append, List.sum_cons]
  omega
theorem lw_names (ha : q + 78 ≤ a6) (hne : a6 ≠ x.2.2.2.2.2.2.2.2) {x1 x5 : Int} : ∀ (m : Nat) (i x7 x8 x9 : Int) (w : List zE) (l : List Int) (v11 v12 v13 v14 v15 v16 v17 v18 v19 : Value), i + m = (K wy).2.2.2.1 → 0 ≤ i → x7 = sumR (belB i (BB wy)) → x8 = sumR (belB i (BB wy)) - sumS (belB i (BB wy)) → x9 = (belB i (BB wy)).length → LK w q wy st hd D K HN CN BB x ow sz rm am cn de → w[a6]? = some (za l) → l.length = 1024 → (∀ b ∈ BB wy, b.1 < i → ∀ v : Int, b.2.1 ≤ v → v < b.2.1 + b.2.2.2 → zgi l v = 1) → (∀ v : Int, 0 ≤ v → (∀ b ∈ BB wy, b.1 < i → ¬ (b.2.1 ≤ v ∧ v < b.2.1 + b.2.2.2)) → zgi l v = 0) →
    ∃ w' l', LK w' q wy st hd D K HN CN BB x ow sz rm am cn de ∧ w'[a6]? = some (za l') ∧ l'.length = 1024 ∧ zFm w w' a6 1 ∧ (∀ b ∈ BB wy, ∀ v : Int, b.2.1 ≤ v → v < b.2.1 + b.2.2.2 → zgi l' v = 1) ∧ (∀ v : Int, 0 ≤ v → (∀ b ∈ BB wy, ¬ (b.2.1 ≤ v ∧ v < b.2.1 + b.2.2.2)) → zgi l' v = 0) ∧
      ∀ {ov w2 c s}, Zr sc 151 270 [.ref 0, zj x1, zp q, zp (q + 1), zp a4, zj x5, zp a6, zj (sumR (BB wy)), zj (sumR (BB wy) - sumS (BB wy)), zj (BB wy).length, zj 0, zj 0, zj 0, v13, v14, v15, v16, v17, v18, v19] [] w' ov w2 c s → Zr sc 151 101 [.ref 0, zj x1, zp q, zp (q + 1), zp a4, zj x5, zp a6, zj x7, zj x8, zj x9, zj i, v11, v12, v13, v14, v15, v16, v17, v18, v19] [] w ov w2 c s := by
  intro m
  induction m with
  | zero =>
    intro i x7 x8 x9 w l v11 v12 v13 v14 v15 v16 v17 v18 v19 hm h0 e7 e8 e9 h hl hl2 ho1 ho2
    obtain ⟨hok, -, -, hk, hnmB, -⟩ := sL_facts h.1
    have k4 := hk.2.2.2.1
    have eB : belB i (BB wy) = BB wy := by
      unfold belB
      rw [List.filter_eq_self]
      intro y hy
      have := hnmB y hy
      simp
      omega
    rw [eB] at e7 e8 e9
    have t0 := zl_names (sc := sc) h.1
    refine ⟨w, l, h, hl, hl2, zFm_refl _ _ _, fun b hb => ho1 b hb (by have := hnmB b hb; omega), fun v hv hno => ho2 v hv (fun b hb _ => hno b hb), fun {ov w2 c s} hz => V151_101 h.2.1.1.1 ⟨_, h.1.2.1, _, t0, by omega, fun _ => by rw [e7, e8, e9]; exact hz, fun q => by omega⟩⟩
  | succ m ih =>
    intro i x7 x8 x9 w l v11 v12 v13 v14 v15 v16 v17 v18 v19 hm h0 e7 e8 e9 h hl hl2 ho1 ho2
    obtain ⟨hok, -, -, hk, hnmB, hw6, -, hrm⟩ := sL_facts h.1
    have k4 := hk.2.2.2.1
    have t0 := zl_names (sc := sc) h.1
    by_cases cb : ∃ b ∈ BB wy, b.1 = i
    · obtain ⟨b, hb, rfl⟩ := cb
      have gb := hok.2 b hb
      have nb := hnmB b hb
      obtain ⟨X, Y, e⟩ := List.append_of_mem hb
      obtain ⟨p1, p2⟩ := belB_put (e ▸ hok)
      rw [← e] at p1 p2
      obtain ⟨s1, s2⟩ := sums_mid (belB b.1 X) b (belB b.1 Y)
      rw [← p1, ← p2] at s1 s2
      have s3 : ((belB (b.1 + 1) (BB wy)).length : Int) = (belB b.1 (BB wy)).length + 1 := by
        rw [p1, p2]
        simp only [List.length_append, List.length_cons]
        omega
      have t1 := zl_isThere_t (sc := sc) h.1 hb nb
      have t2 := zl_room_t (sc := sc) h.1 hb nb
      have t3 := zl_size_t (sc := sc) h.1 hb nb
      have t4 := zl_place_t (sc := sc) h.1 hb nb
      have t5 := zl_at (sc := sc) h.1 hb (u := b.2.1) (by omega)
      have t6 := zl_at (sc := sc) h.1 hb (u := b.2.1 + b.2.2.2 - 1) (by omega)
      obtain ⟨y1, y2, y3, -⟩ := h.2.1.2.1
      have t7 := zp_roomOf (sc := sc) h.2.1.1 y1 hw6 (by rw [y2]; exact hk.2.1) (by rw [y3]; exact hk.2.2.1) (z := b.2.2.1) (by omega)
      have er : roomF (clsL wy) (x.2.2.1) (x.2.2.2.1) b.2.2.1 = b.2.2.2 := by rw [y2, y3]; exact (hrm b hb).symm
      rw [er] at t7
      obtain ⟨w1, l1, z1, z2, z3, z4, z5, z6⟩ := lw_cells (sc := sc) (a4 := a4) ha hne hb (x1 := x1) (x5 := x5) (x7 := x7 + b.2.2.2) (x8 := x8 + (b.2.2.2 - b.2.2.1)) (x9 := x9 + 1) (v12 := v12) (v13 := v13) (v14 := v14) (v15 := v15) (v16 := v16) (v17 := v17) (v18 := v18) (v19 := v19) b.2.2.2.toNat b.2.1 w l (by omega) (Int.le_refl _) h hl hl2
      obtain ⟨w', l', j1, j2, j3, j4, j5, j6, j7⟩ := ih (b.1 + 1) (x7 + b.2.2.2) (x8 + (b.2.2.2 - b.2.2.1)) (x9 + 1) w1 l1 (zj (b.2.1 + b.2.2.2)) v12 v13 v14 v15 v16 v17 v18 v19 (by omega) (by omega) (by omega) (by omega) (by omega) z1 z2 z3 (fun y hy hlt v u0 u1 => by
        have gy := hok.2 y hy
        rw [z5 v (by omega)]
        by_cases ey : y = b
        · subst ey
          rw [if_pos ⟨u0, u1⟩, ho2 v (by omega) (fun y' hy' hlt' hc => by
            have hne2 : y' ≠ y := fun e => by rw [e] at hlt'; omega
            have := okB_dis hok hy' hy hne2
            omega)]
          rfl
        · have := okB_dis hok hy hb ey
          have : y.1 ≠ b.1 := fun e => ey (okB_inj hok hy hb e)
          rw [if_neg (by omega)]
          exact ho1 y hy (by omega) v u0 u1) (fun v hv hno => by
        rw [z5 v hv, if_neg (hno b hb (by omega))]
        exact ho2 v hv (fun y hy hlt => hno y hy (by omega)))
      exact ⟨w', l', j1, j2, j3, zFm_trans z4 j4, j5, j6, fun {ov w2 c s} hz => V151_101 h.2.1.1.1 ⟨_, h.1.2.1, _, t0, by omega, fun q => by omega, fun _ => ⟨_, t1, by omega, fun _ => ⟨_, t2, _, t2, _, t3, _, t2, _, t3, _, t7, by omega, fun q => absurd rfl q, fun _ => ⟨_, t4, _, t5, by omega, fun q => absurd rfl q, fun _ => ⟨_, t4, _, t2, _, t6, by omega, fun _ => ⟨_, t4, z6 (V151_255 (j7 hz))⟩, fun q => absurd rfl q⟩⟩⟩, fun q => by omega⟩⟩⟩
    · have t1 := zl_isThere_f (sc := sc) h.1 (n := i) (by omega) (fun b hb e => cb ⟨b, hb, e⟩)
      have eB : belB (i + 1) (BB wy) = belB i (BB wy) := belB_same fun y hy => by
        have : y.1 ≠ i := fun e => cb ⟨y, hy, e⟩
        omega
      obtain ⟨w', l', j1, j2, j3, j4, j5, j6, j7⟩ := ih (i + 1) x7 x8 x9 w l v11 v12 v13 v14 v15 v16 v17 v18 v19 (by omega) (by omega) (by rw [eB]; exact e7) (by rw [eB]; exact e8) (by rw [eB]; exact e9) h hl hl2 (fun y hy hlt => ho1 y hy (by
        have : y.1 ≠ i := fun e => cb ⟨y, hy, e⟩
        omega)) (fun v hv hno => ho2 v hv (fun y hy hlt => hno y hy (by omega)))
      exact ⟨w', l', j1, j2, j3, j4, j5, j6, fun {ov w2 c s} hz => V151_101 h.2.1.1.1 ⟨_, h.1.2.1, _, t0, by omega, fun q => by omega, fun _ => ⟨_, t1, by omega, fun q => absurd rfl q, fun _ => V151_255 (j7 hz)⟩⟩⟩
end LWN
