/-! ===== the law's own loops: again, bestWay ===== -/
section LWA
variable {sc : List Value} {w w' w2 : List zE} {q a4 a6 : Nat} {x x' : ps_T} {ow ow' sz rm am cn de : List Int} {B B' X Y : List bk_T} {S : List Int} {wy : Nat} {st hd : Int} {D : List dd_T} {K K' : Nat → mk_T} {HN HN' : Nat → Int} {CN CN' : Nat → List Int} {BB BB' : Nat → List bk_T}
theorem LK_again (h : LK w q wy st hd D K HN CN BB x ow sz rm am cn de) (hu : ∀ j, j < 6 → (K j).2.2.2.2.2.2.1 = D.length) {i : Nat} (hi : i < 6) {y : Int} (hy : 0 ≤ y ∧ y ≤ 7) : ∃ w', Zc sc 55 [zp (q + 1), zj i, zj y] w (some (zj (cntF (clsL i) (K i) (CN i) (BB i) y))) w' 0 0 ∧ zFm w w' q 78 ∧ LK w' q wy st hd D K HN CN BB x ow sz rm am cn de := by
  obtain ⟨w', z1, z2, z3⟩ := zl_again (sc := sc) h.1 hi (hu i hi) hy
  exact ⟨w', z1, lab_fm z2, LK_lab h z2 z3 ⟨rfl, rfl, rfl⟩⟩
theorem LK_againW (h : LK w q wy st hd D K HN CN BB x ow sz rm am cn de) (hu : ∀ j, j < 6 → (K j).2.2.2.2.2.2.1 = D.length) {y : Int} (hy : 0 ≤ y ∧ y ≤ 7) : ∃ w', Zc sc 55 [zp (q + 1), zj (x.2.1), zj y] w (some (zj (cntF (clsL wy) (K wy) (CN wy) (BB wy) y))) w' 0 0 ∧ zFm w w' q 78 ∧ LK w' q wy st hd D K HN CN BB x ow sz rm am cn de := by
  have y1 : x.2.1 = wy := h.2.1.2.1.1
  rw [y1]
  exact LK_again h hu h.1.1 hy
theorem lw_again {A : List Int} (ha : q + 78 ≤ a4) (hu : ∀ j, j < 6 → (K j).2.2.2.2.2.2.1 = D.length) (hl : A.length = 5) (hA : ∀ j : Int, 0 ≤ j → j ≤ 4 → zgi A j = zgi (CN wy) j) {x1 x5 x7 x8 x9 x10 x14 : Int} {z12 : Int64} {v16 v17 v18 v19 : Value} : ∀ (m : Nat) (i : Int) (w : List zE), i + m = 5 → 0 ≤ i → LK w q wy st hd D K HN CN BB x ow sz rm am cn de → w[a4]? = some (za A) →
    ∃ (w' : List zE) (b : Nat), LK w' q wy st hd D K HN CN BB x ow sz rm am cn de ∧ zFm w w' q 78 ∧ b < 6 ∧ lexB (fun i => zgi (CN i) 4) (fun i => (K i).2.2.2.2.2.1) b 6 ∧
      ∀ {ov w2 c s}, Zr sc 151 682 [.ref 0, zj x1, zp q, zp (q + 1), zp a4, zj x5, zp a6, zj x7, zj x8, zj x9, zj x10, zj (maxH (holF (clsL wy) (BB wy))), .long z12, zmk, zj x14, zj b, zj 0, v17, v18, v19] [] w' ov w2 c s →
      Zr sc 151 591 [.ref 0, zj x1, zp q, zp (q + 1), zp a4, zj x5, zp a6, zj x7, zj x8, zj x9, zj x10, zj (maxH (holF (clsL wy) (BB wy))), .long z12, zmk, zj x14, zj i, v16, v17, v18, v19] [] w ov w2 c s := by
  intro m
  induction m with
  | zero =>
    intro i w hm h0 h hAw
    have e : i = 5 := by omega
    subst e
    obtain ⟨hok, hg, -, hk, -⟩ := sL_facts h.1
    have k6 := hk.2.2.2.2.2.1
    have r3 := maxH_rg (H := holF (clsL wy) (BB wy)) fun y hy => by
      have := hol_dis (clsL_c wy) hok hg hy
      omega
    have hbnd := (sQ_H ((h.1.2.2.2.2 wy h.1.1).2.1)).2.1
    obtain ⟨w1, a1, a2, a3⟩ := LK_againW (sc := sc) h hu (y := 5) (by omega)
    obtain ⟨w2, b1, b2, b3⟩ := LK_againW (sc := sc) a3 hu (y := 6) (by omega)
    obtain ⟨w3, c1, c2, c3⟩ := LK_againW (sc := sc) b3 hu (y := 7) (by omega)
    have e5 : cntF (clsL wy) (K wy) (CN wy) (BB wy) 5 = (K wy).2.2.2.2.2.1 := rfl
    have e6 : cntF (clsL wy) (K wy) (CN wy) (BB wy) 6 = (holF (clsL wy) (BB wy)).length := rfl
    have e7 : cntF (clsL wy) (K wy) (CN wy) (BB wy) 7 = maxH (holF (clsL wy) (BB wy)) := rfl
    rw [e5] at a1
    rw [e6] at b1
    rw [e7] at c1
    have p1 := zl_peak (sc := sc) a3.1
    have p2 := zl_holes (sc := sc) b3.1
    obtain ⟨b, w4, d1, d2, d3, d4, d5⟩ := zl_bestWay (sc := sc) c3.1 hu
    have h4 := LK_lab c3 d3 d4 ⟨rfl, rfl, rfl⟩
    refine ⟨w4, b, h4, zFm_trans a2 (zFm_trans b2 (zFm_trans c2 (lab_fm d3))), d1, d5, fun {ov wz c s} hz => V151_591 h.2.1.1.1 ⟨by omega, fun _ => ⟨_, h.1.2.1, _, w1, a1, _, a3.1.2.1, _, p1, by omega, fun q => absurd rfl q, fun _ => ⟨_, _, _, _, _, _, _, _, _, _, a3.2.1.1.1, _, w2, b1, _, b3.1.2.1, _, p2, by omega, fun q => absurd rfl q, fun _ => ⟨_, _, _, _, _, _, _, _, _, _, b3.2.1.1.1, _, w3, c1, by omega, fun _ => ⟨_, c3.1.2.1, _, w4, d2, hz⟩, fun q => absurd rfl q⟩⟩⟩, fun q => absurd (Int.le_refl _) q⟩⟩
  | succ m ih =>
    intro i w hm h0 h hAw
    obtain ⟨w1, a1, a2, a3⟩ := LK_againW (sc := sc) h hu (y := i) (by omega)
    have e : cntF (clsL wy) (K wy) (CN wy) (BB wy) i = zgi A i := by
      unfold cntF
      rw [if_pos (by omega), hA i h0 (by omega)]
    have hc := (sL_more h.1).2.2.2 i h0 (by omega)
    have hi := hA i h0 (by omega)
    rw [e] at a1
    have hA1 := zFm_get a2 hAw (by omega)
    obtain ⟨w', b, z1, z2, z3, z4, z5⟩ := ih (i + 1) w1 (by omega) (by omega) a3 hA1
    exact ⟨w', b, z1, zFm_trans a2 z2, z3, z4, fun {ov w2 c s} hz => V151_591 h.2.1.1.1 ⟨by omega, fun q => by omega, fun _ => ⟨_, h.1.2.1, _, w1, a1, A, hA1, by omega, by omega, fun _ => z5 hz, fun q => absurd rfl q⟩⟩⟩
theorem lw_best (hu : ∀ j, j < 6 → (K j).2.2.2.2.2.2.1 = D.length) {b : Nat} (hb : b < 6) (hx : lexB (fun i => zgi (CN i) 4) (fun i => (K i).2.2.2.2.2.1) b 6) {x1 x5 x7 x8 x9 x10 x11 x14 : Int} {z12 : Int64} {v18 v19 : Value} : ∀ (m i : Nat) (w : List zE) (v17 : Value), i + m = 6 → LK w q wy st hd D K HN CN BB x ow sz rm am cn de →
    ∃ (w' : List zE) (v17' : Value), LK w' q wy st hd D K HN CN BB x ow sz rm am cn de ∧ zFm w w' q 78 ∧
      ∀ {ov w2 c s}, Zr sc 151 682 [.ref 0, zj x1, zp q, zp (q + 1), zp a4, zj x5, zp a6, zj x7, zj x8, zj x9, zj x10, zj x11, .long z12, zmk, zj x14, zj b, zj 6, v17', v18, v19] [] w' ov w2 c s →
      Zr sc 151 682 [.ref 0, zj x1, zp q, zp (q + 1), zp a4, zj x5, zp a6, zj x7, zj x8, zj x9, zj x10, zj x11, .long z12, zmk, zj x14, zj b, zj i, v17, v18, v19] [] w ov w2 c s := by
  intro m
  induction m with
  | zero =>
    intro i w v17 hm h
    have e : i = 6 := by omega
    subst e
    exact ⟨w, v17, h, zFm_refl _ _ _, fun hz => hz⟩
  | succ m ih =>
    intro i w v17 hm h
    have hi : i < 6 := by omega
    have lex := hx i hi
    have bnd : ∀ j, j < 6 → 0 ≤ zgi (CN j) 4 ∧ zgi (CN j) 4 ≤ 300000 ∧ 0 ≤ (K j).2.2.2.2.2.1 ∧ (K j).2.2.2.2.2.1 ≤ 1024 := fun j hj => by
      obtain ⟨⟨D1, D2, -, e, hw⟩, hQ, -⟩ := h.1.2.2.2.2 j hj
      have hk := hQ.2.1
      have hd := hk.2.2.2.2.2.2.1
      have h4 := hw.2.2.2.2.2 4 (by omega) (by omega)
      have h6 := hk.2.2.2.2.2.1
      omega
    have bi := bnd i hi
    have bb := bnd b hb
    have e4 : ∀ j, cntF (clsL j) (K j) (CN j) (BB j) 4 = zgi (CN j) 4 := fun j => rfl
    have e5 : ∀ j, cntF (clsL j) (K j) (CN j) (BB j) 5 = (K j).2.2.2.2.2.1 := fun j => rfl
    dsimp only at lex
    obtain ⟨w1, a1, a2, a3⟩ := LK_again (sc := sc) h hu hi (y := 4) (by omega)
    obtain ⟨w2, b1, b2, b3⟩ := LK_again (sc := sc) a3 hu hb (y := 4) (by omega)
    obtain ⟨w3, c1, c2, c3⟩ := LK_again (sc := sc) b3 hu hi (y := 5) (by omega)
    obtain ⟨w4, d1, d2, d3⟩ := LK_again (sc := sc) c3 hu hb (y := 5) (by omega)
    obtain ⟨w5, f1, f2, f3⟩ := LK_again (sc := sc) d3 hu hi (y := 5) (by omega)
    obtain ⟨w6, g1, g2, g3⟩ := LK_again (sc := sc) f3 hu hb (y := 5) (by omega)
    rw [e4] at a1 b1
    rw [e5] at c1 d1 f1 g1
    by_cases c4 : zgi (CN i) 4 = zgi (CN b) 4
    · obtain ⟨w', v17', z1, z2, z3⟩ := ih (i + 1) w6 (zj (zgi (CN i) 4 - zgi (CN b) 4)) (by omega) g3
      refine ⟨w', v17', z1, zFm_trans a2 (zFm_trans b2 (zFm_trans c2 (zFm_trans d2 (zFm_trans f2 (zFm_trans g2 z2))))), fun {ov wz c s} hz => V151_682 ⟨by omega, fun q => by omega, fun _ => ⟨_, h.1.2.1, _, w1, a1, _, a3.1.2.1, _, w2, b1, by omega, fun q => by omega, fun _ => ⟨by omega, fun q => by omega, fun _ => ⟨_, b3.1.2.1, _, w3, c1, _, c3.1.2.1, _, w4, d1, by omega, fun q => by omega, fun _ => ⟨_, d3.1.2.1, _, w5, f1, _, f3.1.2.1, _, w6, g1, by omega, fun _ => z3 hz, fun q => ⟨by omega, fun _ => z3 hz, fun q2 => by omega⟩⟩⟩⟩⟩⟩⟩
    · obtain ⟨w', v17', z1, z2, z3⟩ := ih (i + 1) w2 (zj (zgi (CN i) 4 - zgi (CN b) 4)) (by omega) b3
      refine ⟨w', v17', z1, zFm_trans a2 (zFm_trans b2 z2), fun {ov wz c s} hz => V151_682 ⟨by omega, fun q => by omega, fun _ => ⟨_, h.1.2.1, _, w1, a1, _, a3.1.2.1, _, w2, b1, by omega, fun q => by omega, fun _ => ⟨by omega, fun _ => z3 hz, fun q => absurd (show zgi (CN i) 4 - zgi (CN b) 4 ≠ 0 by omega) q⟩⟩⟩⟩
end LWA
