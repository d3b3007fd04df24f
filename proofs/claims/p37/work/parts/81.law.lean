/-! ===== the law's own loops: digest, greatest, what it needs ===== -/
section LWD
variable {sc : List Value} {w w' w2 : List zE} {q a4 a6 : Nat} {x x' : ps_T} {ow ow' sz rm am cn de : List Int} {B B' X Y : List bk_T} {S : List Int} {wy : Nat} {st hd : Int} {D : List dd_T} {K K' : Nat → mk_T} {HN HN' : Nat → Int} {CN CN' : Nat → List Int} {BB BB' : Nat → List bk_T}
theorem selP_no {c : Nat} {y hn room p : Int} {H : List hl_T} (h : selP c y hn H room p) (hm : maxH H < room) : p < 0 := by
  obtain ⟨r, -, ⟨-, e⟩ | ⟨j, z, -, e2, e3, -⟩⟩ := h
  · omega
  · have := maxH_le (List.mem_of_getElem? e2)
    have := e3.1
    omega
theorem lab_fm (h : zFm w w' (q + 1) 72) : zFm w w' q 78 := zFm_mono h (by omega) (by omega)
theorem lw_563 (h : LK w q wy st hd D K HN CN BB x ow sz rm am cn de) {g : Int} (hg : 0 ≤ g ∧ g ≤ 300) (hr : 1 ≤ g → rmF (clsL wy) (K wy) g ≤ maxH (holF (clsL wy) (BB wy))) {x1 x5 x7 x8 x9 x10 : Int} {z12 : Int64} {v15 v16 v17 v18 v19 : Value} {ov : Option Value} {c s : Nat} (hz : Zr sc 151 591 [.ref 0, zj x1, zp q, zp (q + 1), zp a4, zj x5, zp a6, zj x7, zj x8, zj x9, zj x10, zj (maxH (holF (clsL wy) (BB wy))), .long z12, zmk, zj g, zj 0, v16, v17, v18, v19] [] w ov w2 c s) :
    Zr sc 151 563 [.ref 0, zj x1, zp q, zp (q + 1), zp a4, zj x5, zp a6, zj x7, zj x8, zj x9, zj x10, zj (maxH (holF (clsL wy) (BB wy))), .long z12, zmk, zj g, v15, v16, v17, v18, v19] [] w ov w2 c s := by
  obtain ⟨hok, hgc, -, hk, hnmB, hw6, -⟩ := sL_facts h.1
  obtain ⟨y1, y2, y3, -⟩ := h.2.1.2.1
  have k2 : x.2.2.1 = 1 ∨ x.2.2.1 = 2 ∨ x.2.2.1 = 4 ∨ x.2.2.1 = 8 := by rw [y2]; exact hk.2.1
  have k3 : 0 ≤ x.2.2.2.1 ∧ x.2.2.2.1 ≤ 8 := by rw [y3]; exact hk.2.2.1
  have r3 := maxH_rg (H := holF (clsL wy) (BB wy)) fun y hy => by
    have := hol_dis (clsL_c wy) hok hgc hy
    omega
  have ta := zp_roomOf (sc := sc) h.2.1.1 y1 hw6 k2 k3 (z := max 1 g) (by omega)
  have tb := zp_roomOf (sc := sc) h.2.1.1 y1 hw6 k2 k3 (z := 1) (by omega)
  have ra := rOK_rg (clsL_c wy) (rOK_room (clsL_c wy) k2 k3 (z := max 1 g) (by omega))
  have rb := rOK_rg (clsL_c wy) (rOK_room (clsL_c wy) k2 k3 (z := 1) (by omega))
  have key : roomF (clsL wy) (x.2.2.1) (x.2.2.2.1) (max 1 g) ≤ max (maxH (holF (clsL wy) (BB wy))) (roomF (clsL wy) (x.2.2.1) (x.2.2.2.1) 1) := by
    by_cases c1 : 1 ≤ g
    · have e : max 1 g = g := by omega
      have := hr c1
      rw [e, y2, y3]
      unfold rmF at this
      omega
    · have e : max 1 g = 1 := by omega
      rw [e]
      omega
  exact V151_563 h.2.1.1.1 ⟨by omega, _, ta, _, tb, by omega, by omega, fun _ => hz, fun q => absurd key q⟩
theorem lw_544 (h : LK w q wy st hd D K HN CN BB x ow sz rm am cn de) {g : Int} (hg : 0 ≤ g ∧ g ≤ 300) (hr : 1 ≤ g → rmF (clsL wy) (K wy) g ≤ maxH (holF (clsL wy) (BB wy))) (hn : ∀ z, g < z → z ≤ 300 → grN (clsL wy) (K wy) (HN wy) (BB wy) z) {x1 x5 x7 x8 x9 x10 : Int} {z12 : Int64} {v15 v16 v17 v18 v19 : Value} :
    ∃ w', LK w' q wy st hd D K HN CN BB x ow sz rm am cn de ∧ zFm w w' q 78 ∧ ∀ {ov w2 c s}, Zr sc 151 591 [.ref 0, zj x1, zp q, zp (q + 1), zp a4, zj x5, zp a6, zj x7, zj x8, zj x9, zj x10, zj (maxH (holF (clsL wy) (BB wy))), .long z12, zmk, zj g, zj 0, v16, v17, v18, v19] [] w' ov w2 c s →
    Zr sc 151 544 [.ref 0, zj x1, zp q, zp (q + 1), zp a4, zj x5, zp a6, zj x7, zj x8, zj x9, zj x10, zj (maxH (holF (clsL wy) (BB wy))), .long z12, zmk, zj g, v15, v16, v17, v18, v19] [] w ov w2 c s := by
  by_cases c1 : 300 ≤ g
  · exact ⟨w, h, zFm_refl _ _ _, fun {ov w2 c s} hz => V151_544 ⟨by omega, fun _ => lw_563 h hg hr hz, fun q => absurd c1 q⟩⟩
  · obtain ⟨p, w', z1, z2, z3, z4, z5, z6⟩ := zl_wouldBe (sc := sc) h.1 (z := g + 1) (by omega)
    have hp : p < 0 := by
      rcases hn (g + 1) (by omega) (by omega) with e | ⟨p', e1, e2⟩
      · exact selP_no z4 e
      · have := selP_u (clsL_c wy) z4 (by have := (sL_facts h.1).2.2.2.2.2.2.1; exact e2)
        omega
    have h' := LK_lab h z2 z3 ⟨rfl, rfl, rfl⟩
    exact ⟨w', h', lab_fm z2, fun {ov w2 c s} hz => V151_544 ⟨by omega, fun q => absurd q c1, fun _ => ⟨_, h.1.2.1, p, w', z1, by omega, fun q => by omega, fun _ => lw_563 h' hg hr hz⟩⟩⟩
theorem lw_digest (h : LK w q wy st hd D K HN CN BB x ow sz rm am cn de) {x1 x5 x7 x8 x9 x10 x13 x14 : Int} (h5 : 0 ≤ x5 ∧ x5 ≤ 14) (h3 : x5 % 4 = 3) {v15 v16 v17 v18 v19 : Value} :
    ∃ d w' K' HN' CN' BB' p1 p2 p3 g, LK w' q wy st hd D K' HN' CN' BB' x ow sz rm am cn de ∧ (K' wy = K wy ∧ HN' wy = HN wy ∧ CN' wy = CN wy ∧ BB' wy = BB wy) ∧ zFm w w' q 78 ∧ (∀ j, j < 6 → (K' j).2.2.2.2.2.2.1 = D.length) ∧
    (selP (clsL wy) (K wy).1 (HN wy) (holF (clsL wy) (BB wy)) (rmF (clsL wy) (K wy) 1) p1 ∧ selP (clsL wy) (K wy).1 (HN wy) (holF (clsL wy) (BB wy)) (rmF (clsL wy) (K wy) 30) p2 ∧ selP (clsL wy) (K wy).1 (HN wy) (holF (clsL wy) (BB wy)) (rmF (clsL wy) (K wy) 120) p3) ∧ d = dF (dgL wy D.length K' HN' CN' BB' p1 p2 p3) 2657 ∧
    ∀ {ov w2 c s}, Zr sc 151 591 [.ref 0, zj x1, zp q, zp (q + 1), zp a4, zj x5, zp a6, zj x7, zj x8, zj x9, zj x10, zj (maxH (holF (clsL wy) (BB wy))), .long d, zmk, zj g, zj 0, v16, v17, v18, v19] [] w' ov w2 c s →
    Zr sc 151 468 [.ref 0, zj x1, zp q, zp (q + 1), zp a4, zj x5, zp a6, zj x7, zj x8, zj x9, zj x10, zj (maxH (holF (clsL wy) (BB wy))), zj 5, zj x13, zj x14, v15, v16, v17, v18, v19] [] w ov w2 c s := by
  obtain ⟨d, w1, K1, HN1, CN1, BB1, p1, p2, p3, a1, a2, a3, a4', a5, a6', a7⟩ := zl_digest (sc := sc) h.1
  obtain ⟨e1, e2, e3, e4⟩ := a5 wy h.1.1 h.1.2.2.2.1
  have h1 := LK_lab h a2 a3 ⟨e1, e2, e4⟩
  obtain ⟨g, w3, b1, b2, b3, b4, b5, b6⟩ := zl_greatest (sc := sc) h1.1
  have h3' := LK_lab h1 b2 b3 ⟨rfl, rfl, rfl⟩
  have f3 : zFm w w3 q 78 := zFm_trans (lab_fm a2) (lab_fm b2)
  by_cases c1 : g ≤ 0
  · obtain ⟨w4, d1, d2, d3⟩ := lw_544 (sc := sc) (a4 := a4) (a6 := a6) h3' b4 (fun q => (b5 q).1) b6 (x1 := x1) (x5 := x5) (x7 := x7) (x8 := x8) (x9 := x9) (x10 := x10) (z12 := d) (v15 := v15) (v16 := v16) (v17 := v17) (v18 := v18) (v19 := v19)
    rw [e4] at d3
    exact ⟨d, w4, K1, HN1, CN1, BB1, p1, p2, p3, g, d1, ⟨e1, e2, e3, e4⟩, zFm_trans f3 d2, a4', a6', a7, fun {ov w2 c s} hz => V151_468 ⟨by omega, fun _ => ⟨by omega, by omega, fun _ => ⟨_, h.1.2.1, d, w1, a1, _, h1.1.2.1, g, w3, b1, by omega, fun _ => d3 hz, fun q => absurd c1 q⟩, fun q => absurd h3 q⟩, fun q => absurd (Int.le_refl _) q⟩⟩
  · obtain ⟨p, w5, z1, z2, z3, z4, z5, z6⟩ := zl_wouldBe (sc := sc) h3'.1 (z := g) (by omega)
    obtain ⟨-, p', q0, q1⟩ := b5 (by omega)
    have ep := selP_u (clsL_c wy) z4 q1
    have h5' := LK_lab h3' z2 z3 ⟨rfl, rfl, rfl⟩
    obtain ⟨w4, d1, d2, d3⟩ := lw_544 (sc := sc) (a4 := a4) (a6 := a6) h5' b4 (fun q => (b5 q).1) b6 (x1 := x1) (x5 := x5) (x7 := x7) (x8 := x8) (x9 := x9) (x10 := x10) (z12 := d) (v15 := v15) (v16 := v16) (v17 := v17) (v18 := v18) (v19 := v19)
    rw [e4] at d3
    exact ⟨d, w4, K1, HN1, CN1, BB1, p1, p2, p3, g, d1, ⟨e1, e2, e3, e4⟩, zFm_trans f3 (zFm_trans (lab_fm z2) d2), a4', a6', a7, fun {ov w2 c s} hz => V151_468 ⟨by omega, fun _ => ⟨by omega, by omega, fun _ => ⟨_, h.1.2.1, d, w1, a1, _, h1.1.2.1, g, w3, b1, by omega, fun q => absurd q c1, fun _ => ⟨_, h3'.1.2.1, p, w5, z1, by omega, fun q => by omega, fun _ => d3 hz⟩⟩, fun q => absurd h3 q⟩, fun q => absurd (Int.le_refl _) q⟩⟩
end LWD
