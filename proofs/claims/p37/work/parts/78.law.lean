/-! ===== the law's own loops: the holes ===== -/
section LWO
variable {sc : List Value} {w w' w2 : List zE} {q a4 a6 : Nat} {x x' : ps_T} {ow ow' sz rm am cn de : List Int} {B B' X Y : List bk_T} {S : List Int} {wy : Nat} {st hd : Int} {D : List dd_T} {K : Nat → mk_T} {HN : Nat → Int} {CN : Nat → List Int} {BB : Nat → List bk_T}
theorem lw_holes (ha : q + 78 ≤ a6) (hne : a6 ≠ x.2.2.2.2.2.2.2.2) {x1 x5 x7 x8 x9 : Int} {v16 v17 v18 v19 : Value} : ∀ (Y X : List hl_T) (x10 x11 : Int) (w : List zE) (l : List Int) (v13 v14 v15 : Value), holF (clsL wy) (BB wy) = X ++ Y → (∀ y ∈ Y, x10 ≤ y.1) → (wy < 4 → X ≠ [] → ∀ y ∈ Y, y.1 ≠ x10) → zrg x10 → (0 ≤ x11 ∧ x11 ≤ 1024) → LK w q wy st hd D K HN CN BB x ow sz rm am cn de → w[a6]? = some (za l) → l.length = 1024 →
    ∃ w' l' x10' v13' v14' v15', LK w' q wy st hd D K HN CN BB x ow sz rm am cn de ∧ w'[a6]? = some (za l') ∧ l'.length = 1024 ∧ zFm w w' a6 1 ∧ (∀ y ∈ Y, ∀ v : Int, y.1 ≤ v → v < y.1 + y.2 → zgi l' v = zgi l v + 1) ∧ (∀ v : Int, 0 ≤ v → (∀ y ∈ Y, ¬ (y.1 ≤ v ∧ v < y.1 + y.2)) → zgi l' v = zgi l v) ∧
      ∀ {ov w2 c s}, Zr sc 151 270 [.ref 0, zj x1, zp q, zp (q + 1), zp a4, zj x5, zp a6, zj x7, zj x8, zj x9, zj x10', zj (Y.foldl (fun m y => max m y.2) x11), zj (holF (clsL wy) (BB wy)).length, v13', v14', v15', v16, v17, v18, v19] [] w' ov w2 c s → Zr sc 151 270 [.ref 0, zj x1, zp q, zp (q + 1), zp a4, zj x5, zp a6, zj x7, zj x8, zj x9, zj x10, zj x11, zj X.length, v13, v14, v15, v16, v17, v18, v19] [] w ov w2 c s := by
  intro Y
  induction Y with
  | nil =>
    intro X x10 x11 w l v13 v14 v15 e hY hT hr hx h hl hl2
    rw [List.append_nil] at e
    exact ⟨w, l, x10, v13, v14, v15, h, hl, hl2, zFm_refl _ _ _, fun y hy => (by cases hy), fun v _ _ => rfl, fun {ov w2 c s} hz => by rw [e] at hz; exact hz⟩
  | cons y Y ih =>
    intro X x10 x11 w l v13 v14 v15 e hY hT hr hx h hl hl2
    obtain ⟨hok, hg, -, hk, hnmB, hw6, -⟩ := sL_facts h.1
    have hc := clsL_c wy
    have hin : y ∈ holF (clsL wy) (BB wy) := by rw [e]; exact List.mem_append.mpr (Or.inr List.mem_cons_self)
    have hat : (holF (clsL wy) (BB wy))[X.length]? = some y := by rw [e]; exact mid_eq
    have hlt := (List.getElem?_eq_some_iff.mp hat).1
    have d := hol_dis hc hok hg hin
    have hs := hol_sorted hc hok hg
    have hlen := (sL_facts h.1)
    have hbound : (holF (clsL wy) (BB wy)).length ≤ 1024 := by
      have := (sQ_H ((h.1.2.2.2.2 wy hw6).2.1)).2.1
      omega
    rw [e, List.pairwise_append, List.pairwise_cons] at hs
    have hy10 := hY y List.mem_cons_self
    have t1 := zl_holes (sc := sc) h.1
    have t2 := zl_holePlace (sc := sc) h.1 hat
    have t3 := zl_holeSize (sc := sc) h.1 hat
    obtain ⟨w1, l1, z1, z2, z3, z4, z5, z6⟩ := lw_hole (sc := sc) (a4 := a4) ha hne (t := y.1 + y.2) (x1 := x1) (x5 := x5) (x7 := x7) (x8 := x8) (x9 := x9) (x11 := max x11 y.2) (x12 := X.length) (x13 := y.1) (x14 := y.2) (by omega) (v16 := v16) (v17 := v17) (v18 := v18) (v19 := v19) y.2.toNat y.1 w l (by omega) (by omega) h hl hl2
    obtain ⟨w', l', x10', v13', v14', v15', j1, j2, j3, j4, j5, j6, j7⟩ := ih (X ++ [y]) (y.1 + y.2) (max x11 y.2) w1 l1 (zj y.1) (zj y.2) (zj (y.1 + y.2)) (by rw [e]; simp) (fun z hz => hs.2.1.1 z hz) (fun h4 _ z hz => fun ez => by
      have hc2 := (clsL_2 hw6).mpr h4
      rw [hc2] at e hin
      exact hol_apart hok hin (by rw [e]; exact List.mem_append.mpr (Or.inr (List.mem_cons_of_mem _ hz))) ez.symm) (by omega) (by omega) z1 z2 z3
    have el : ((X ++ [y]).length : Int) = X.length + 1 := by rw [List.length_append, List.length_singleton]; omega
    rw [el] at j7
    have xw : x.2.1 = wy := h.2.1.2.1.1
    have go : ∀ {ov w2 c s}, Zr sc 151 270 [.ref 0, zj x1, zp q, zp (q + 1), zp a4, zj x5, zp a6, zj x7, zj x8, zj x9, zj x10', zj ((y :: Y).foldl (fun m y => max m y.2) x11), zj (holF (clsL wy) (BB wy)).length, v13', v14', v15', v16, v17, v18, v19] [] w' ov w2 c s → Zr sc 151 330 [.ref 0, zj x1, zp q, zp (q + 1), zp a4, zj x5, zp a6, zj x7, zj x8, zj x9, zj x10, zj x11, zj X.length, zj y.1, zj y.2, v15, v16, v17, v18, v19] [] w ov w2 c s := fun hz => V151_330 ⟨by omega, z6 (j7 hz)⟩
    refine ⟨w', l', x10', v13', v14', v15', j1, j2, j3, zFm_trans z4 j4, fun z hz v u0 u1 => ?_, fun v hv hno => ?_, fun {ov w2 c s} hz => V151_270 h.2.1.1.1 ⟨_, h.1.2.1, _, t1, by omega, fun q => by omega, fun _ => ⟨_, t2, _, t3, by omega, fun q => by omega, fun _ => ⟨by omega, fun q => by omega, fun _ => ⟨by omega, fun _ => go hz, fun c4 => ⟨by omega, fun _ => go hz, fun c0 => ⟨by omega, fun _ => go hz, fun q => absurd (hT (by omega) (fun eX => by rw [eX] at c0; exact c0 (by decide)) y List.mem_cons_self) q⟩⟩⟩⟩⟩⟩⟩
    · rcases List.mem_cons.mp hz with rfl | hz
      · rw [j6 v (by omega) (fun z' hz' hc' => by have := hs.2.1.1 z' hz'; omega), z5 v (by omega), if_pos ⟨u0, u1⟩]
      · have := hs.2.1.1 z hz
        rw [j5 z hz v u0 u1, z5 v (by omega), if_neg (by omega)]
    · rw [j6 v hv (fun z hz => hno z (List.mem_cons_of_mem _ hz)), z5 v hv, if_neg (hno y List.mem_cons_self)]
end LWO
