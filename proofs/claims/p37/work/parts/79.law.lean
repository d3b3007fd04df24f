/-! ===== the law's own loops: every cell is owned once, and the sums ===== -/
section LWC
variable {sc : List Value} {w w' w2 : List zE} {q a4 a6 : Nat} {x x' : ps_T} {ow ow' sz rm am cn de : List Int} {B B' X Y : List bk_T} {S : List Int} {wy : Nat} {st hd : Int} {D : List dd_T} {K : Nat → mk_T} {HN : Nat → Int} {CN : Nat → List Int} {BB : Nat → List bk_T}
theorem sumS_rg : ∀ (B : List bk_T), (∀ b ∈ B, 1 ≤ b.2.2.1 ∧ b.2.2.1 ≤ 300) → 0 ≤ sumS B ∧ sumS B ≤ 300 * B.length := by
  intro B
  induction B with
  | nil => intro _; exact ⟨Int.le_refl _, Int.le_refl _⟩
  | cons b B ih =>
    intro h
    have := h b List.mem_cons_self
    have := ih fun y hy => h y (List.mem_cons_of_mem _ hy)
    have e : sumS (b :: B) = b.2.2.1 + sumS B := rfl
    rw [e, List.length_cons]
    omega
theorem sL_more {l : Nat} (h : sL w l wy st hd D K HN CN BB) : ((BB wy).length : Int) ≤ (K wy).2.2.2.1 ∧ sumR (BB wy) ≤ (K wy).2.2.2.2.2.1 ∧ (CN wy).length = 5 ∧ ∀ j : Int, 0 ≤ j → j ≤ 4 → 0 ≤ zgi (CN wy) j ∧ zgi (CN wy) j ≤ 300000 := by
  obtain ⟨h1, h0, hT, hdn, hM⟩ := id h
  obtain ⟨⟨D1, D2, -, e, hw⟩, hQ, hs, -⟩ := hM wy h1
  have hk := hQ.2.1
  have hd := hk.2.2.2.2.2.2.1
  exact ⟨hw.2.2.2.1, hs, hQ.1, fun j h0 h4 => by have := hw.2.2.2.2.2 j h0 h4; omega⟩
theorem lw_owned {l : List Int} (h : LK w q wy st hd D K HN CN BB x ow sz rm am cn de) (hl : w[a6]? = some (za l)) (hl2 : l.length = 1024) (ho : ∀ v : Int, 0 ≤ v → v < 1024 → zgi l v = 1) {x1 x5 x10 : Int} {v16 v17 v18 v19 : Value} : ∀ (m : Nat) (j : Int) (v15 : Value), j + m = 1024 → 0 ≤ j →
    ∃ v15', ∀ {ov w2 c s}, Zr sc 151 468 [.ref 0, zj x1, zp q, zp (q + 1), zp a4, zj x5, zp a6, zj (sumR (BB wy)), zj (sumR (BB wy) - sumS (BB wy)), zj (BB wy).length, zj x10, zj (maxH (holF (clsL wy) (BB wy))), zj 0, zj 1024, zj 1024, v15', v16, v17, v18, v19] [] w ov w2 c s → Zr sc 151 390 [.ref 0, zj x1, zp q, zp (q + 1), zp a4, zj x5, zp a6, zj (sumR (BB wy)), zj (sumR (BB wy) - sumS (BB wy)), zj (BB wy).length, zj x10, zj (maxH (holF (clsL wy) (BB wy))), zp a6, zj 1024, zj j, v15, v16, v17, v18, v19] [] w ov w2 c s := by
  intro m
  induction m with
  | zero =>
    intro j v15 hm h0
    have e : j = 1024 := by omega
    obtain ⟨hok, hg, -, hk, -⟩ := sL_facts h.1
    obtain ⟨n1, n2, -⟩ := sL_more h.1
    have r1 := sumR_rg hok
    have r2 := sumS_rg (BB wy) fun b hb => by have := hok.2 b hb; omega
    have k4 := hk.2.2.2.1
    have k6 := hk.2.2.2.2.2.1
    have r3 := maxH_rg (H := holF (clsL wy) (BB wy)) fun y hy => by
      have := hol_dis (clsL_c wy) hok hg hy
      omega
    refine ⟨v15, fun {ov w2 c s} hz => V151_390 ⟨by omega, fun _ => ⟨_, h.1.2.1, _, zl_used h.1, by omega, fun q => absurd rfl q, fun _ => ⟨_, zl_wasted h.1, by omega, fun q => absurd rfl q, fun _ => ⟨_, zl_blocks h.1, by omega, fun q => absurd rfl q, fun _ => ⟨_, zl_largest h.1, by omega, fun q => absurd rfl q, fun _ => ⟨_, zl_peak h.1, by omega, fun _ => by rw [e]; exact hz, fun q => absurd n2 q⟩⟩⟩⟩⟩, fun q => by omega⟩⟩
  | succ m ih =>
    intro j v15 hm h0
    obtain ⟨v15', hz'⟩ := ih (j + 1) (zj (zgi l j)) (by omega) (by omega)
    have e1 := ho j h0 (by omega)
    exact ⟨v15', fun {ov w2 c s} hz => V151_390 ⟨by omega, fun q => by omega, fun _ => ⟨l, hl, by omega, by omega, fun _ => hz' hz, fun q => absurd e1 q⟩⟩⟩
/-- from a fresh own array to the counts: all that the law checks of the standing blocks and the holes -/
theorem lw_check (ha : q + 78 ≤ a6) (hne : a6 ≠ x.2.2.2.2.2.2.2.2) {x1 x5 : Int} {v11 v12 v13 v14 v15 v16 v17 v18 v19 : Value} (h : LK w q wy st hd D K HN CN BB x ow sz rm am cn de) (hl : w[a6]? = some (za (List.replicate 1024 0))) :
    ∃ w' x10' v15', LK w' q wy st hd D K HN CN BB x ow sz rm am cn de ∧ zFm w w' a6 1 ∧ ∀ {ov w2 c s}, Zr sc 151 468 [.ref 0, zj x1, zp q, zp (q + 1), zp a4, zj x5, zp a6, zj (sumR (BB wy)), zj (sumR (BB wy) - sumS (BB wy)), zj (BB wy).length, zj x10', zj (maxH (holF (clsL wy) (BB wy))), zj 0, zj 1024, zj 1024, v15', v16, v17, v18, v19] [] w' ov w2 c s → Zr sc 151 101 [.ref 0, zj x1, zp q, zp (q + 1), zp a4, zj x5, zp a6, zj 0, zj 0, zj 0, zj 0, v11, v12, v13, v14, v15, v16, v17, v18, v19] [] w ov w2 c s := by
  obtain ⟨hok, hg, -, hk, -⟩ := sL_facts h.1
  have hc := clsL_c wy
  have k4 := hk.2.2.2.1
  have eB : belB 0 (BB wy) = [] := by
    unfold belB
    rw [List.filter_eq_nil_iff]
    intro y hy
    have := (hok.2 y hy).1
    simp
    omega
  obtain ⟨w1, l1, a1, a2, a3, a4', a5, a6', a7⟩ := lw_names (sc := sc) (a4 := a4) ha hne (x1 := x1) (x5 := x5) (K wy).2.2.2.1.toNat 0 0 0 0 w (List.replicate 1024 0) v11 v12 v13 v14 v15 v16 v17 v18 v19 (by omega) (Int.le_refl _) (by rw [eB]; rfl) (by rw [eB]; rfl) (by rw [eB]; rfl) h hl (by rw [List.length_replicate]) (fun b hb hlt => by have := (hok.2 b hb).1; omega) (fun v hv _ => by
    exact zgi_rep _ _)
  obtain ⟨w2, l2, x10', v13', v14', v15', b1, b2, b3, b4, b5, b6, b7⟩ := lw_holes (sc := sc) (a4 := a4) ha hne (x1 := x1) (x5 := x5) (x7 := sumR (BB wy)) (x8 := sumR (BB wy) - sumS (BB wy)) (x9 := (BB wy).length) (v16 := v16) (v17 := v17) (v18 := v18) (v19 := v19) (holF (clsL wy) (BB wy)) [] 0 0 w1 l1 v13 v14 v15 rfl (fun y hy => by have := hol_dis hc hok hg hy; omega) (fun _ e => absurd rfl e) (by omega) (by omega) a1 a2 a3
  have own : ∀ v : Int, 0 ≤ v → v < 1024 → zgi l2 v = 1 := fun v v0 v1 => by
    by_cases cb : ∃ b ∈ BB wy, b.2.1 ≤ v ∧ v < b.2.1 + b.2.2.2
    · obtain ⟨b, hb, c⟩ := cb
      rw [b6 v v0 (fun y hy hc' => by
        have := (hol_dis hc hok hg hy).2.2.2 b hb
        omega)]
      exact a5 b hb v c.1 c.2
    · obtain ⟨f', t', y, q1, q2, q3, q4, q5, q6, q7, q8, q9, q10⟩ := hol_cover hc hok hg v0 v1 (fun b hb c => cb ⟨b, hb, c⟩)
      rw [b5 y q8 v q9 q10, a6' v v0 fun b hb c => cb ⟨b, hb, c⟩]
      rfl
  obtain ⟨v15'', hz'⟩ := lw_owned (sc := sc) (a4 := a4) b1 b2 b3 own (x1 := x1) (x5 := x5) (x10 := x10') (v16 := v16) (v17 := v17) (v18 := v18) (v19 := v19) 1024 0 v15' (by omega) (Int.le_refl _)
  refine ⟨w2, x10', v15'', b1, zFm_trans a4' b4, fun {ov w3 c s} hz => a7 (b7 ?_)⟩
  have eH := zl_holes (sc := sc) b1.1
  have hb := (sQ_H ((b1.1.2.2.2.2 wy b1.1.1).2.1)).2.1
  refine V151_270 b1.2.1.1.1 ⟨_, b1.1.2.1, _, eH, by omega, fun _ => ⟨l2, b2, ?_⟩, fun q => absurd (Int.le_refl _) q⟩
  rw [b3]
  exact hz' hz
end LWC
