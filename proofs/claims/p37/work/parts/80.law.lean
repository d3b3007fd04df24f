/-! ===== the law's own loops: the counts grow; a deed or a question of the lab beside the pool ===== -/
section LWG
variable {sc : List Value} {w w' w2 : List zE} {q a4 a6 : Nat} {x x' : ps_T} {ow ow' sz rm am cn de : List Int} {B B' X Y : List bk_T} {S : List Int} {wy : Nat} {st hd : Int} {D : List dd_T} {K K' : Nat → mk_T} {HN HN' : Nat → Int} {CN CN' : Nat → List Int} {BB BB' : Nat → List bk_T}
theorem LK_ne (h : LK w q wy st hd D K HN CN BB x ow sz rm am cn de) {A : List Int} (hA : w[a4]? = some (za A)) (hl : A.length % 3 ≠ 0) : a4 ≠ x.2.2.2.2.2.2.2.2 := fun e => by
  have h1 := h.2.1.1.2.2.2.2.2.2.1
  rw [← e, hA] at h1
  have e2 : A.length = de.length := by
    have h3 := congrArg List.length (Sum.inl.inj (Option.some.inj h1))
    rwa [List.length_map, List.length_map] at h3
  have := h.2.2
  omega
theorem LK_lab (h : LK w q wy st hd D K HN CN BB x ow sz rm am cn de) (hf : zFm w w' (q + 1) 72) (hL : sL w' (q + 1) wy st hd D K' HN' CN' BB') (e : K' wy = K wy ∧ HN' wy = HN wy ∧ BB' wy = BB wy) : LK w' q wy st hd D K' HN' CN' BB' x ow sz rm am cn de := by
  obtain ⟨-, ⟨hC, hr⟩, hde⟩ := h
  obtain ⟨e1, e2, e3⟩ := e
  refine ⟨hL, ?_, hde⟩
  rw [e1, e2, e3]
  exact ⟨sC_fm hf (Nat.le_refl _) (by omega) hC, hr⟩
theorem lw_grow (ha : q + 78 ≤ a4) {x1 x5 x7 x8 x9 x10 x11 x13 x14 : Int} {v15 v16 v17 v18 v19 : Value} : ∀ (m : Nat) (i : Int) (w : List zE) (A : List Int), i + m = 5 → 0 ≤ i → LK w q wy st hd D K HN CN BB x ow sz rm am cn de → w[a4]? = some (za A) → A.length = 5 → (∀ j : Int, 0 ≤ j → j ≤ 4 → 0 ≤ zgi A j ∧ zgi A j ≤ zgi (CN wy) j) → (∀ j : Int, 0 ≤ j → j < i → zgi A j = zgi (CN wy) j) →
    ∃ w' A', LK w' q wy st hd D K HN CN BB x ow sz rm am cn de ∧ w'[a4]? = some (za A') ∧ A'.length = 5 ∧ zFm w w' a4 1 ∧ (∀ j : Int, 0 ≤ j → j ≤ 4 → zgi A' j = zgi (CN wy) j) ∧
      ∀ {ov w2 c s}, Zr sc 151 468 [.ref 0, zj x1, zp q, zp (q + 1), zp a4, zj x5, zp a6, zj x7, zj x8, zj x9, zj x10, zj x11, zj 5, zj x13, zj x14, v15, v16, v17, v18, v19] [] w' ov w2 c s → Zr sc 151 468 [.ref 0, zj x1, zp q, zp (q + 1), zp a4, zj x5, zp a6, zj x7, zj x8, zj x9, zj x10, zj x11, zj i, zj x13, zj x14, v15, v16, v17, v18, v19] [] w ov w2 c s := by
  intro m
  induction m with
  | zero =>
    intro i w A hm h0 h hA hl hle heq
    have e : i = 5 := by omega
    exact ⟨w, A, h, hA, hl, zFm_refl _ _ _, fun j j0 j4 => heq j j0 (by omega), fun hz => by rw [e]; exact hz⟩
  | succ m ih =>
    intro i w A hm h0 h hA hl hle heq
    have hc := (sL_more h.1).2.2.2 i h0 (by omega)
    have hi := hle i h0 (by omega)
    have t1 := zl_counted (sc := sc) h.1 (x := i) (by omega)
    obtain ⟨w', A', z1, z2, z3, z4, z5, z6⟩ := ih (i + 1) (w.set a4 (za (zsi A i (zgi (CN wy) i)))) (zsi A i (zgi (CN wy) i)) (by omega) (by omega) (LK_set h ha (LK_ne h hA (by omega))) (zw_s hA) (by rw [zsi_len]; exact hl) (fun j j0 j4 => by
      rw [zgi_set (by omega) (by omega) j0]
      split
      · rename_i e; rw [e]; omega
      · exact hle j j0 j4) (fun j j0 j4 => by
      rw [zgi_set (by omega) (by omega) j0]
      split
      · rename_i e; rw [e]
      · exact heq j j0 (by omega))
    exact ⟨w', A', z1, z2, z3, zFm_trans (zFm_set (by omega) (by omega)) z4, z5, fun {ov w2 c s} hz => V151_468 ⟨by omega, fun q => by omega, fun _ => ⟨_, h.1.2.1, _, t1, _, hA, by omega, by omega, fun _ => ⟨_, t1, by omega, z6 hz⟩, fun q => absurd hi.2 q⟩⟩⟩
theorem lw_store (ha : q + 78 ≤ a4) {x1 x5 x7 x8 x9 x10 x11 x14 x15 x16 x17 x18 : Int} {z12 : Int64} : ∀ (m : Nat) (i : Int) (w : List zE) (A : List Int), i + m = 5 → 0 ≤ i → LK w q wy st hd D K HN CN BB x ow sz rm am cn de → w[a4]? = some (za A) → A.length = 5 → (∀ j : Int, 0 ≤ j → j < i → zgi A j = zgi (CN wy) j) →
    ∃ w' A', LK w' q wy st hd D K HN CN BB x ow sz rm am cn de ∧ w'[a4]? = some (za A') ∧ A'.length = 5 ∧ (∀ j : Int, 0 ≤ j → j ≤ 4 → zgi A' j = zgi (CN wy) j) ∧
      ∀ {ov w2 c s}, Zr sc 151 876 [.ref 0, zj x1, zp q, zp (q + 1), zp a4, zj x5, zp a6, zj x7, zj x8, zj x9, zj x10, zj x11, .long z12, zmk, zj x14, zj x15, zj x16, zj x17, zj x18, zj 5] [] w' ov w2 c s → Zr sc 151 853 [.ref 0, zj x1, zp q, zp (q + 1), zp a4, zj x5, zp a6, zj x7, zj x8, zj x9, zj x10, zj x11, .long z12, zmk, zj x14, zj x15, zj x16, zj x17, zj x18, zj i] [] w ov w2 c s := by
  intro m
  induction m with
  | zero =>
    intro i w A hm h0 h hA hl heq
    have e : i = 5 := by omega
    exact ⟨w, A, h, hA, hl, fun j j0 j4 => heq j j0 (by omega), fun hz => by rw [e]; exact V151_853 ⟨by omega, fun _ => hz, fun q => by omega⟩⟩
  | succ m ih =>
    intro i w A hm h0 h hA hl heq
    have t1 := zl_counted (sc := sc) h.1 (x := i) (by omega)
    obtain ⟨w', A', z1, z2, z3, z5, z6⟩ := ih (i + 1) (w.set a4 (za (zsi A i (zgi (CN wy) i)))) (zsi A i (zgi (CN wy) i)) (by omega) (by omega) (LK_set h ha (LK_ne h hA (by omega))) (zw_s hA) (by rw [zsi_len]; exact hl) (fun j j0 j4 => by
      rw [zgi_set (by omega) (by omega) j0]
      split
      · rename_i e; rw [e]
      · exact heq j j0 (by omega))
    exact ⟨w', A', z1, z2, z3, z5, fun {ov w2 c s} hz => V151_853 ⟨by omega, fun q => by omega, fun _ => ⟨_, h.1.2.1, _, t1, _, hA, by omega, z6 hz⟩⟩⟩
end LWG
