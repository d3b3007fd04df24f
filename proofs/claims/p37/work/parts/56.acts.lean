/-! ===== the laboratory: the checksum, the best way, what changes it ===== -/
section ACT
variable {sc : List Value} {w w' : List zE} {l wy c m : Nat} {st hd : Int} {D : List dd_T} {K : Nat → mk_T} {HN : Nat → Int} {CN : Nat → List Int} {BB : Nat → List bk_T} {k : mk_T} {hn : Int} {cn : List Int} {B : List bk_T}
def sameU (D : List dd_T) (K K' : Nat → mk_T) (HN HN' : Nat → Int) (CN CN' : Nat → List Int) (BB BB' : Nat → List bk_T) : Prop := ∀ i, i < 6 → (K i).2.2.2.2.2.2.1 = D.length → K' i = K i ∧ HN' i = HN i ∧ CN' i = CN i ∧ BB' i = BB i
theorem wyL_congr {K K' : Nat → mk_T} {CN CN' : Nat → List Int} : ∀ (n i : Nat), (∀ j, i ≤ j → j < i + n → K' j = K j ∧ CN' j = CN j) → wyL K' CN' n i = wyL K CN n i := by
  intro n
  induction n with
  | zero => intro i _; rfl
  | succ n ih =>
    intro i h
    have h0 := h i (Nat.le_refl _) (by omega)
    show zgi (CN' i) 4 :: (K' i).2.2.2.2.2.1 :: wyL K' CN' n (i + 1) = _
    rw [h0.1, h0.2, ih (i + 1) (fun j h1 h2 => h j (by omega) (by omega))]
    rfl
theorem dig_ways {a1 : Nat} : ∀ (n i : Nat), i + n = 6 → ∀ (K : Nat → mk_T) (HN : Nat → Int) (CN : Nat → List Int) (BB : Nat → List bk_T) (w : List zE) (z : Int64) (v : Value), sL w l wy st hd D K HN CN BB → (∀ j, j < i → (K j).2.2.2.2.2.2.1 = D.length) →
    ∃ w' K' HN' CN' BB', Zr sc 100 214 [zp l, zp a1, .long z, zmk, zj i, v] [] w (some (.long (dF (wyL K' CN' n i) z))) w' 0 0 ∧ zFm w w' l 72 ∧ sL w' l wy st hd D K' HN' CN' BB' ∧ (∀ j, j < 6 → (K' j).2.2.2.2.2.2.1 = D.length) ∧ sameU D K K' HN HN' CN CN' BB BB' := by
  intro n
  induction n with
  | zero =>
    intro i hi K HN CN BB w z v h hu
    obtain ⟨h1, h0, hT, hdn, hM⟩ := id h
    exact ⟨w, K, HN, CN, BB, V100_214 h0 ⟨by omega, fun _ => ⟨rfl, rfl, rfl, rfl⟩, fun q => by omega⟩, zFm_refl _ _ _, h, fun j hj => hu j (by omega), fun i _ _ => ⟨rfl, rfl, rfl, rfl⟩⟩
  | succ n ih =>
    intro i hi K HN CN BB w z v h hu
    have hi6 : i < 6 := by omega
    obtain ⟨h1, h0, hT, hdn, hM⟩ := id h
    obtain ⟨-, hQ0, -⟩ := hM i hi6
    obtain ⟨fs0, ho0⟩ := sQ_ob hQ0
    obtain ⟨w1, k', hn', cn', B', z1, z2, z3, z4, z5, z6⟩ := zl_follow (sc := sc) h hi6
    obtain ⟨-, hQ1, -⟩ := z3
    obtain ⟨fs1, ho1⟩ := sQ_ob hQ1
    have hc := clsL_c i
    have c4 := zm_countOf (sc := sc) hc hQ1 (x := 4) (by omega)
    have c5 := zm_countOf (sc := sc) hc hQ1 (x := 5) (by omega)
    obtain ⟨w2, K', HN', CN', BB', y1, y2, y3, y4, y5⟩ := ih (i + 1) (by omega) _ _ _ _ w1 ((z * 31 + (Int32.ofInt (zgi cn' 4)).toInt64) * 31 + (Int32.ofInt (k'.2.2.2.2.2.1)).toInt64) (zp (l + offL i)) z5 (fun j hj => by
      by_cases e : j = i
      · rw [if_pos e]; exact z4
      · rw [if_neg e]; exact hu j (by omega))
    have ei := y5 i hi6 (by dsimp only; rw [if_pos rfl]; exact z4)
    dsimp only at ei
    rw [if_pos rfl, if_pos rfl, if_pos rfl, if_pos rfl] at ei
    refine ⟨w2, K', HN', CN', BB', V100_214 h0 ⟨by omega, fun q => by omega, fun _ => ⟨_, zl_memoryOf h0 hi6, _, fs0, ho0, hc, _, w1, z1, _, fs1, ho1, hc, _, c4, _, fs1, ho1, hc, _, c5, ?_⟩⟩, zFm_trans z2 y2, y3, y4, fun j hj hju => ?_⟩
    · show Zr sc 100 214 _ _ _ (some (.long (dF (zgi (CN' i) 4 :: (K' i).2.2.2.2.2.1 :: wyL K' CN' n (i + 1)) z))) _ _ _
      rw [ei.1, ei.2.2.1]
      exact y1
    · by_cases e : j = i
      · subst e
        obtain ⟨f1, f2, f3, f4⟩ := z6 hju
        rw [ei.1, ei.2.1, ei.2.2.1, ei.2.2.2]
        exact ⟨f1, f2, f3, f4⟩
      · have := y5 j hj (by dsimp only; rw [if_neg e]; exact hju)
        dsimp only at this
        rw [if_neg e, if_neg e, if_neg e, if_neg e] at this
        exact this
theorem zl_digest (h : sL w l wy st hd D K HN CN BB) : ∃ d w' K' HN' CN' BB' p1 p2 p3, Zc sc 100 [zp l] w (some (.long d)) w' 0 0 ∧ zFm w w' l 72 ∧ sL w' l wy st hd D K' HN' CN' BB' ∧ (∀ j, j < 6 → (K' j).2.2.2.2.2.2.1 = D.length) ∧ sameU D K K' HN HN' CN CN' BB BB' ∧
    (selP (clsL wy) (K wy).1 (HN wy) (holF (clsL wy) (BB wy)) (rmF (clsL wy) (K wy) 1) p1 ∧ selP (clsL wy) (K wy).1 (HN wy) (holF (clsL wy) (BB wy)) (rmF (clsL wy) (K wy) 30) p2 ∧ selP (clsL wy) (K wy).1 (HN wy) (holF (clsL wy) (BB wy)) (rmF (clsL wy) (K wy) 120) p3) ∧ d = dF (dgL wy D.length K' HN' CN' BB' p1 p2 p3) 2657 := by
  obtain ⟨h1, h0, hT, hdn, hM⟩ := id h; have hp := zl_present (sc := sc) h; have hc := clsL_c wy; obtain ⟨-, hQ, -⟩ := hM wy h1; obtain ⟨fs, ho⟩ := sQ_ob hQ; have hB := sQ_B hQ; have hH := sQ_H hQ; have hst := zm_standing (sc := sc) hc hQ; have hga := zm_gaps (sc := sc) hc hQ; have hnm := zm_names (sc := sc) hc hQ; have hk := hQ.2.1
  obtain ⟨q1, w1, z1, z2, z3, z4, z5⟩ := zm_placeFor (sc := sc) hc hQ (z := 1) (by omega)
  have s1 := sL_same h h1 z2 z3
  obtain ⟨fs1, ho1⟩ := sQ_ob z3
  obtain ⟨q2, w2, y1, y2, y3, y4, y5⟩ := zm_placeFor (sc := sc) hc z3 (z := 30) (by omega)
  have s2 := sL_same s1 h1 y2 y3
  obtain ⟨fs2, ho2⟩ := sQ_ob y3
  obtain ⟨q3, w3, x1, x2, x3, x4, x5⟩ := zm_placeFor (sc := sc) hc y3 (z := 120) (by omega)
  have s3 := sL_same s2 h1 x2 x3
  have e0 := zl_every (sc := sc) hc hQ (dF [zgi (CN wy) 0, zgi (CN wy) 1, zgi (CN wy) 2, zgi (CN wy) 3, zgi (CN wy) 4] (dF [(wy : Int), (K wy).2.2.2.1, (D.length : Int), (K wy).2.2.2.2.1, ((BB wy).length : Int), sumR (BB wy), sumR (BB wy) - sumS (BB wy), maxH (holF (clsL wy) (BB wy)), (K wy).2.2.2.2.2.1, HN wy] 2657))
  obtain ⟨w4, K', HN', CN', BB', u1, u2, u3, u4, u5⟩ := dig_ways (sc := sc) (a1 := l + offL wy) 6 0 (by omega) K HN CN BB w3 (dF [q1, q2, q3] (dF (nmL (BB wy) (K wy).2.2.2.1.toNat 0 ++ [((holF (clsL wy) (BB wy)).length : Int)] ++ hoL (holF (clsL wy) (BB wy)) ++ pgL (clsL wy) (BB wy) 8 0) (dF [zgi (CN wy) 0, zgi (CN wy) 1, zgi (CN wy) 2, zgi (CN wy) 3, zgi (CN wy) 4] (dF [(wy : Int), (K wy).2.2.2.1, (D.length : Int), (K wy).2.2.2.2.1, ((BB wy).length : Int), sumR (BB wy), sumR (BB wy) - sumS (BB wy), maxH (holF (clsL wy) (BB wy)), (K wy).2.2.2.2.2.1, HN wy] 2657)))) zmk s3 (fun j hj => by omega)
  have hco : ∀ x : Int, 0 ≤ x → x ≤ 4 → Zc sc 34 [zp (l + offL wy), zj x] w (some (zj (zgi (CN wy) x))) w 0 0 := fun x h0 h4 => by
    have := zm_countOf (sc := sc) hc hQ (x := x) (by omega)
    rw [show cntF (clsL wy) (K wy) (CN wy) (BB wy) x = zgi (CN wy) x by unfold cntF; rw [if_pos h4]] at this
    exact this
  have f5 : Zr sc 100 138 [zp l, zp (l + offL wy), .long (dF [zgi (CN wy) 0, zgi (CN wy) 1, zgi (CN wy) 2, zgi (CN wy) 3, zgi (CN wy) 4] (dF [(wy : Int), (K wy).2.2.2.1, (D.length : Int), (K wy).2.2.2.2.1, ((BB wy).length : Int), sumR (BB wy), sumR (BB wy) - sumS (BB wy), maxH (holF (clsL wy) (BB wy)), (K wy).2.2.2.2.2.1, HN wy] 2657)), zmk, zj 5, zmk] [] w _ w4 0 0 :=
    V100_138 ⟨by omega, fun _ => ⟨_, e0, _, fs, ho, hc, _, _, z1, _, fs1, ho1, hc, _, _, y1, _, fs2, ho2, hc, _, _, x1, u1⟩, fun q => by omega⟩
  have stp : ∀ (x : Int) (z : Int64) (r : Int64), 0 ≤ x → x ≤ 4 → Zr sc 100 138 [zp l, zp (l + offL wy), .long (z * 31 + (Int32.ofInt (zgi (CN wy) x)).toInt64), zmk, zj (x + 1), zmk] [] w (some (.long r)) w4 0 0 → Zr sc 100 138 [zp l, zp (l + offL wy), .long z, zmk, zj x, zmk] [] w (some (.long r)) w4 0 0 := fun x z r h0 h4 hz =>
    V100_138 ⟨by omega, fun q => by omega, fun _ => ⟨_, fs, ho, hc, _, hco x h0 h4, hz⟩⟩
  have f0 := stp 0 _ _ (by omega) (by omega) (stp 1 _ _ (by omega) (by omega) (stp 2 _ _ (by omega) (by omega) (stp 3 _ _ (by omega) (by omega) (stp 4 _ _ (by omega) (by omega) f5))))
  have f00 : Zc sc 100 [zp l] w (some (.long (dF (wyL K' CN' 6 0) (dF [q1, q2, q3] (dF (nmL (BB wy) (K wy).2.2.2.1.toNat 0 ++ [((holF (clsL wy) (BB wy)).length : Int)] ++ hoL (holF (clsL wy) (BB wy)) ++ pgL (clsL wy) (BB wy) 8 0) (dF [zgi (CN wy) 0, zgi (CN wy) 1, zgi (CN wy) 2, zgi (CN wy) 3, zgi (CN wy) 4] (dF [(wy : Int), (K wy).2.2.2.1, (D.length : Int), (K wy).2.2.2.2.1, ((BB wy).length : Int), sumR (BB wy), sumR (BB wy) - sumS (BB wy), maxH (holF (clsL wy) (BB wy)), (K wy).2.2.2.2.2.1, HN wy] 2657))))))) w4 0 0 := Zc_of rfl rfl (V100_0 h0 ⟨_, hp, _, fs, ho, hc, _, hnm, _, hT.ob, _, zc_tLen hT, _, fs, ho, hc, _, zm_arenas hc hQ, _, fs, ho, hc, _, hst, _, hB.ob, _, zc_howMany hB, _, zl_used h, _, zl_wasted h, _, zl_largest h, _, zl_peak h, _, fs, ho, hc, _, zm_hand hc hQ, f0⟩)
  have ewy := u5 wy h1 hdn
  refine ⟨_, w4, K', HN', CN', BB', q1, q2, q3, f00, zFm_trans (zFm_lab h1 z2) (zFm_trans (zFm_lab h1 y2) (zFm_trans (zFm_lab h1 x2) u2)), u3, u4, u5, ⟨z4, y4, x4⟩, ?_⟩
  unfold dgL
  rw [ewy.1, ewy.2.1, ewy.2.2.1, ewy.2.2.2]
  simp only [dF_app]
def lexB (F P : Nat → Int) (b n : Nat) : Prop := ∀ i, i < n → F b < F i ∨ (F b = F i ∧ (P b < P i ∨ (P b = P i ∧ b ≤ i)))
theorem m_rg (h : sL w l wy st hd D K HN CN BB) {i : Nat} (hi : i < 6) : (0 ≤ zgi (CN i) 4 ∧ zgi (CN i) 4 ≤ 300000) ∧ 0 ≤ (K i).2.2.2.2.2.1 ∧ (K i).2.2.2.2.2.1 ≤ 1024 := by
  obtain ⟨⟨D1, D2, e, hd1, hw1⟩, hQ, -⟩ := h.2.2.2.2 i hi
  have hD := h.2.2.1.2.1
  have hl : D1.length + D2.length = D.length := by rw [e, List.length_append]
  have hw := hw1.2.2.2.2.2 4 (by omega) (by omega)
  have hk := hQ.2.1.2.2.2.2.2.1
  exact ⟨by omega, hk⟩
theorem zl_better (h : sL w l wy st hd D K HN CN BB) {i j : Nat} (hi : i < 6) (hj : j < 6) : ∃ r, Zc sc 99 [zp (l + offL i), zp (l + offL j)] w (some (zj r)) w 0 0 ∧ ((r = 1 ∧ (zgi (CN i) 4 < zgi (CN j) 4 ∨ (zgi (CN i) 4 = zgi (CN j) 4 ∧ (K i).2.2.2.2.2.1 < (K j).2.2.2.2.2.1))) ∨ (r = 0 ∧ ¬ (zgi (CN i) 4 < zgi (CN j) 4 ∨ (zgi (CN i) 4 = zgi (CN j) 4 ∧ (K i).2.2.2.2.2.1 < (K j).2.2.2.2.2.1)))) := by
  obtain ⟨-, hQi, -⟩ := h.2.2.2.2 i hi
  obtain ⟨-, hQj, -⟩ := h.2.2.2.2 j hj
  obtain ⟨fi, oi⟩ := sQ_ob hQi
  obtain ⟨fj, oj⟩ := sQ_ob hQj
  have ci := clsL_c i
  have cj := clsL_c j
  have a4 := zm_countOf (sc := sc) ci hQi (x := 4) (by omega)
  have a5 := zm_countOf (sc := sc) ci hQi (x := 5) (by omega)
  have b4 := zm_countOf (sc := sc) cj hQj (x := 4) (by omega)
  have b5 := zm_countOf (sc := sc) cj hQj (x := 5) (by omega)
  have ri := m_rg h hi
  have rj := m_rg h hj
  have e4i : cntF (clsL i) (K i) (CN i) (BB i) 4 = zgi (CN i) 4 := rfl
  have e5i : cntF (clsL i) (K i) (CN i) (BB i) 5 = (K i).2.2.2.2.2.1 := rfl
  have e4j : cntF (clsL j) (K j) (CN j) (BB j) 4 = zgi (CN j) 4 := rfl
  have e5j : cntF (clsL j) (K j) (CN j) (BB j) 5 = (K j).2.2.2.2.2.1 := rfl
  rw [e4i] at a4
  rw [e5i] at a5
  rw [e4j] at b4
  rw [e5j] at b5
  by_cases g : zgi (CN i) 4 = zgi (CN j) 4
  · by_cases g2 : (K j).2.2.2.2.2.1 ≤ (K i).2.2.2.2.2.1
    · exact ⟨0, Zc_of rfl rfl (V99_0 ⟨_, fi, oi, ci, _, a4, _, fj, oj, cj, _, b4, by omega, fun _ => ⟨_, fi, oi, ci, _, a5, _, fj, oj, cj, _, b5, by omega, fun _ => ⟨rfl, rfl, rfl, rfl⟩, fun q => absurd g2 q⟩, fun q => absurd g q⟩), Or.inr ⟨rfl, by omega⟩⟩
    · exact ⟨1, Zc_of rfl rfl (V99_0 ⟨_, fi, oi, ci, _, a4, _, fj, oj, cj, _, b4, by omega, fun _ => ⟨_, fi, oi, ci, _, a5, _, fj, oj, cj, _, b5, by omega, fun q => absurd q g2, fun _ => ⟨rfl, rfl, rfl, rfl⟩⟩, fun q => absurd g q⟩), Or.inl ⟨rfl, by omega⟩⟩
  · by_cases g2 : zgi (CN j) 4 ≤ zgi (CN i) 4
    · exact ⟨0, Zc_of rfl rfl (V99_0 ⟨_, fi, oi, ci, _, a4, _, fj, oj, cj, _, b4, by omega, fun q => absurd q g, fun _ => ⟨_, fi, oi, ci, _, a4, _, fj, oj, cj, _, b4, by omega, fun _ => ⟨rfl, rfl, rfl, rfl⟩, fun q => absurd g2 q⟩⟩), Or.inr ⟨rfl, by omega⟩⟩
    · exact ⟨1, Zc_of rfl rfl (V99_0 ⟨_, fi, oi, ci, _, a4, _, fj, oj, cj, _, b4, by omega, fun q => absurd q g, fun _ => ⟨_, fi, oi, ci, _, a4, _, fj, oj, cj, _, b4, by omega, fun q => absurd q g2, fun _ => ⟨rfl, rfl, rfl, rfl⟩⟩⟩), Or.inl ⟨rfl, by omega⟩⟩
theorem zl_bestWay (h : sL w l wy st hd D K HN CN BB) (hu : ∀ j, j < 6 → (K j).2.2.2.2.2.2.1 = D.length) : ∃ (b : Nat) (w' : List zE), b < 6 ∧ Zc sc 98 [zp l] w (some (zj (b : Nat))) w' 0 0 ∧ zFm w w' l 72 ∧ sL w' l wy st hd D K HN CN BB ∧ lexB (fun i => zgi (CN i) 4) (fun i => (K i).2.2.2.2.2.1) b 6 := by
  have key : ∀ (n i b : Nat) (w : List zE), i + n = 6 → b < i → sL w l wy st hd D K HN CN BB → lexB (fun i => zgi (CN i) 4) (fun i => (K i).2.2.2.2.2.1) b i → ∃ (b' : Nat) (w' : List zE), b' < 6 ∧ Zr sc 98 4 [zp l, zj b, zj i] [] w (some (zj (b' : Nat))) w' 0 0 ∧ zFm w w' l 72 ∧ sL w' l wy st hd D K HN CN BB ∧ lexB (fun i => zgi (CN i) 4) (fun i => (K i).2.2.2.2.2.1) b' 6 := by
    intro n
    induction n with
    | zero =>
      intro i b w hi hb h hx
      obtain rfl : i = 6 := by omega
      exact ⟨b, w, hb, V98_4 h.2.1 ⟨by omega, fun _ => ⟨rfl, rfl, rfl, rfl⟩, fun q => by omega⟩, zFm_refl _ _ _, h, hx⟩
    | succ n ih =>
      intro i b w hi hb h hx
      have hi6 : i < 6 := by omega
      have hb6 : b < 6 := by omega
      obtain ⟨w1, z1, z2, z3⟩ := zl_follow_u (sc := sc) h hi6 (hu i hi6)
      obtain ⟨w2, y1, y2, y3⟩ := zl_follow_u (sc := sc) z3 hb6 (hu b hb6)
      obtain ⟨fi, oi⟩ := sQ_ob (h.2.2.2.2 i hi6).2.1
      obtain ⟨fb, ob⟩ := sQ_ob (z3.2.2.2.2 b hb6).2.1
      obtain ⟨r, x1, x2⟩ := zl_better (sc := sc) y3 hi6 hb6
      have em : zl_memoryOf (sc := sc) h.2.1 hi6 = zl_memoryOf (sc := sc) h.2.1 hi6 := rfl
      rcases x2 with ⟨hr, x2⟩ | ⟨hr, x2⟩
      · obtain ⟨b', w', u0, u1, u2, u3, u4⟩ := ih (i + 1) i w2 (by omega) (by omega) y3 (fun j hj => by
          dsimp only
          by_cases e : j = i
          · subst e; omega
          · have := hx j (by omega)
            dsimp only at this
            omega)
        subst hr
        exact ⟨b', w', u0, V98_4 h.2.1 ⟨by omega, fun q => by omega, fun _ => ⟨_, zl_memoryOf h.2.1 hi6, _, fi, oi, clsL_c i, _, w1, z1, _, z3.2.1, _, zl_memoryOf z3.2.1 hb6, _, z3.2.1, _, fb, ob, clsL_c b, _, w2, y1, _, x1, by omega, fun q => by omega, fun _ => u1⟩⟩, zFm_trans z2 (zFm_trans y2 u2), u3, u4⟩
      · obtain ⟨b', w', u0, u1, u2, u3, u4⟩ := ih (i + 1) b w2 (by omega) (by omega) y3 (fun j hj => by
          dsimp only
          by_cases e : j = i
          · subst e; omega
          · have := hx j (by omega)
            dsimp only at this
            omega)
        subst hr
        exact ⟨b', w', u0, V98_4 h.2.1 ⟨by omega, fun q => by omega, fun _ => ⟨_, zl_memoryOf h.2.1 hi6, _, fi, oi, clsL_c i, _, w1, z1, _, z3.2.1, _, zl_memoryOf z3.2.1 hb6, _, z3.2.1, _, fb, ob, clsL_c b, _, w2, y1, _, x1, by omega, fun _ => u1, fun q => by omega⟩⟩, zFm_trans z2 (zFm_trans y2 u2), u3, u4⟩
  obtain ⟨b', w', u0, u1, u2, u3, u4⟩ := key 5 1 0 w (by omega) (by omega) h (fun j hj => (show j = 0 by omega) ▸ Or.inr ⟨rfl, Or.inr ⟨rfl, Nat.le_refl _⟩⟩)
  exact ⟨b', w', u0, Zc_of rfl rfl (V98_0 u1), u2, u3, u4⟩
-- deeds
def okd (d : dd_T) : Prop := 0 ≤ d.1 ∧ d.1 ≤ 5 ∧ 0 ≤ d.2.1 ∧ d.2.1 ≤ 79 ∧ 0 ≤ d.2.2 ∧ d.2.2 ≤ 300 ∧ (d.1 = 0 ∨ d.1 = 2 → 1 ≤ d.2.2)
def newU {α : Type} (F : Nat → α) (i : Nat) (v : α) : Nat → α := fun j => if j = i then v else F j
theorem newU_at {α : Type} (F : Nat → α) (i : Nat) (v : α) : newU F i v i = v := by unfold newU; rw [if_pos rfl]
theorem okd_of {a b c : Int} (h1 : 0 ≤ a ∧ a ≤ 5) (h2 : 0 ≤ b ∧ b ≤ 79) (h3 : 0 ≤ c ∧ c ≤ 300) (h4 : a = 0 ∨ a = 2 → 1 ≤ c) : okd (a, b, c) := ⟨h1.1, h1.2, h2.1, h2.2, h3.1, h3.2, h4⟩
theorem zl_deed (h : sL w l wy st hd D K HN CN BB) (hD : D.length < 150) {d : dd_T} (hd2 : okd d) : ∃ w1 w2 k1 hn1 cn1 B1, Zc sc 136 [zp (l + 1), zj d.1, zj d.2.1, zj d.2.2] w (some (zp (l + 1))) w1 0 0 ∧ (∃ fs, w1[l + offL wy]? = some (zob (clsL wy) fs)) ∧ Zc sc 57 [zp (l + offL wy), zp (l + 1)] w1 (some (zp (l + offL wy))) w2 0 0 ∧ zFm w w2 l 72 ∧
    dop (clsL wy) d (K wy) (HN wy) (CN wy) (BB wy) k1 hn1 cn1 B1 ∧ sL w2 l wy st hd (D ++ [d]) (newU K wy (dnF (pkF k1 (max (k1.2.2.2.2.2.1) (sumR B1))) (D ++ [d]).length)) (newU HN wy hn1) (newU CN wy cn1) (newU BB wy B1) := by
  obtain ⟨h1, h0, hT, hdn, hM⟩ := id h
  obtain ⟨w1, z1, z2, z3⟩ := zc_tAdd (sc := sc) hT hD hd2
  have r := off_rg h1
  have hM1 : ∀ i, i < 6 → mOK w1 l i st hd (D ++ [d]) (K i) (HN i) (CN i) (BB i) := fun i hi => by
    obtain ⟨⟨D1, D2, e, q1, q2⟩, q3, q4⟩ := hM i hi
    have r := off_rg hi
    exact ⟨⟨D1, D2 ++ [d], by rw [e, List.append_assoc], q1, q2⟩, sQ_fm z2 (by omega) q3, q4⟩
  obtain ⟨⟨D1, D2, e, hd1, hw1⟩, hQ, hp1, hk1, hk2, hk3⟩ := hM wy h1
  have eD : D2 = [] := by
    have : D1.length + D2.length = D.length := by rw [e, List.length_append]
    cases D2 with
    | nil => rfl
    | cons d D2 => rw [List.length_cons] at this; omega
  subst eD
  rw [List.append_nil] at e
  subst e
  have hQ1 := (hM1 wy h1).2.1
  obtain ⟨w2, k', hn', cn', B', y1, y2, y3, y4, y5⟩ := zm_follow (sc := sc) (clsL_c wy) (t := l + 1) (by omega) z3 hQ1 hw1 hd1
  have f4 := fol_k y4 hp1
  obtain ⟨k1, hn1, cn1, B1, x1, rfl, rfl, rfl, rfl⟩ := y4
  have hm : mOK w2 l wy st hd (D ++ [d]) (dnF (pkF k1 (max (k1.2.2.2.2.2.1) (sumR B'))) (D ++ [d]).length) hn' cn' B' := ⟨⟨D ++ [d], [], by simp, rfl, y5⟩, y3, f4.2.2.2, f4.1.trans hk1, f4.2.1.trans hk2, f4.2.2.1.trans hk3⟩
  refine ⟨w1, w2, k1, hn', cn', B', z1, sQ_ob hQ1, y1, zFm_trans (zFm_mono z2 (by omega) (by omega)) (zFm_lab h1 y2), x1, h1, zFm_get y2 (zFm_get z2 h0 (by omega)) (by omega), sT_fm y2 (by omega) z3, by rw [newU_at]; rfl, fun j hj => ?_⟩
  unfold newU
  by_cases e : j = wy
  · subst e
    rw [if_pos rfl, if_pos rfl, if_pos rfl, if_pos rfl]
    exact hm
  · rw [if_neg e, if_neg e, if_neg e, if_neg e]
    obtain ⟨q1, q2, q3⟩ := hM1 j hj
    have dd := off_dis hj h1 e
    exact ⟨q1, sQ_fm y2 (by omega) q2, q3⟩
/-- what a deed leaves -/
def PD (w' : List zE) (l wy : Nat) (st hd : Int) (D : List dd_T) (K : Nat → mk_T) (HN : Nat → Int) (CN : Nat → List Int) (BB : Nat → List bk_T) (d : dd_T) (k1 : mk_T) (hn1 : Int) (cn1 : List Int) (B1 : List bk_T) : Prop :=
  dop (clsL wy) d (K wy) (HN wy) (CN wy) (BB wy) k1 hn1 cn1 B1 ∧ sL w' l wy st hd (D ++ [d]) (newU K wy (dnF (pkF k1 (max (k1.2.2.2.2.2.1) (sumR B1))) (D ++ [d]).length)) (newU HN wy hn1) (newU CN wy cn1) (newU BB wy B1)
theorem zl_ask (h : sL w l wy st hd D K HN CN BB) (hD : D.length < 150) (hn80 : (K wy).2.2.2.1 < 80) {z : Int} (hz : 1 ≤ z ∧ z ≤ 300) : ∃ w' k1 hn1 cn1 B1, Zc sc 134 [zp l, zj z] w (some (zj (K wy).2.2.2.1)) w' 0 0 ∧ zFm w w' l 72 ∧ PD w' l wy st hd D K HN CN BB (0, 0, z) k1 hn1 cn1 B1 := by
  obtain ⟨h1, h0, hT, hdn, hM⟩ := id h; have hp := zl_present (sc := sc) h; have hc := clsL_c wy; obtain ⟨-, hQ, -⟩ := hM wy h1; obtain ⟨fs, ho⟩ := sQ_ob hQ; have hB := sQ_B hQ; have hH := sQ_H hQ; have hst := zm_standing (sc := sc) hc hQ; have hga := zm_gaps (sc := sc) hc hQ; have hnm := zm_names (sc := sc) hc hQ; have hk := hQ.2.1
  have k4 := hk.2.2.2.1
  obtain ⟨w1, w2, k1, hn1, cn1, B1, z1, ⟨f1, o1⟩, z2, z3, z4, z5⟩ := zl_deed (sc := sc) h hD (d := (0, 0, z)) (okd_of (by omega) (by omega) (by omega) (by omega))
  have hQ2 := (z5.2.2.2.2 wy h1).2.1
  rw [newU_at, newU_at, newU_at, newU_at] at hQ2
  obtain ⟨f2, o2⟩ := sQ_ob hQ2
  have n2 := zm_names (sc := sc) hc hQ2
  have en : k1.2.2.2.1 = (K wy).2.2.2.1 + 1 := by
    rcases z4.2 with ⟨-, ⟨g, -⟩ | ⟨-, e, -⟩⟩ | ⟨g, -⟩ | ⟨g, -⟩ | ⟨g, -⟩ | ⟨g, -⟩ | ⟨g, -⟩
    · omega
    · rw [e]; rfl
    all_goals simp at g
  exact ⟨w2, k1, hn1, cn1, B1, Zc_of rfl rfl (V134_0 h0 ⟨zl_reqSize hz, _, hp, _, fs, ho, hc, _, hnm, by omega, fun _ => ⟨zl_reqDeed h hD, _, hp, _, hT.ob, _, w1, z1, _, f1, o1, hc, _, w2, z2, _, f2, o2, hc, _, n2, zj_e (by show _ = k1.2.2.2.1 - 1; omega), rfl, rfl, rfl⟩, fun q => by omega⟩), z3, z4, z5⟩
theorem zl_giveBack (h : sL w l wy st hd D K HN CN BB) (hD : D.length < 150) {b : bk_T} (hb : b ∈ BB wy) (hn : b.1 < (K wy).2.2.2.1) : ∃ w' k1 hn1 cn1 B1, Zc sc 141 [zp l, zj b.1] w (some (zj b.2.2.2)) w' 0 0 ∧ zFm w w' l 72 ∧ PD w' l wy st hd D K HN CN BB (1, b.1, 0) k1 hn1 cn1 B1 := by
  obtain ⟨h1, h0, hT, hdn, hM⟩ := id h; have hp := zl_present (sc := sc) h; have hc := clsL_c wy; obtain ⟨-, hQ, -⟩ := hM wy h1; obtain ⟨fs, ho⟩ := sQ_ob hQ; have hB := sQ_B hQ; have hH := sQ_H hQ; have hst := zm_standing (sc := sc) hc hQ; have hga := zm_gaps (sc := sc) hc hQ; have hnm := zm_names (sc := sc) hc hQ; have hk := hQ.2.1
  have k4 := hk.2.2.2.1
  have gb := hB.1.2 b hb
  obtain ⟨w1, w2, k1, hn1, cn1, B1, z1, ⟨f1, o1⟩, z2, z3, z4, z5⟩ := zl_deed (sc := sc) h hD (d := (1, b.1, 0)) (okd_of (by omega) (by omega) (by omega) (by omega))
  exact ⟨w2, k1, hn1, cn1, B1, Zc_of rfl rfl (V141_0 h0 ⟨zl_reqName h ⟨gb.1, hn⟩, zl_reqThere h hb, zl_reqDeed h hD, _, hp, _, fs, ho, hc, _, hst, _, hB.ob, _, zc_roomOf_t hB hb, _, hp, _, hT.ob, _, w1, z1, _, f1, o1, hc, _, w2, z2, rfl, rfl, rfl, rfl⟩), z3, z4, z5⟩
theorem zl_resize (h : sL w l wy st hd D K HN CN BB) (hD : D.length < 150) {b : bk_T} (hb : b ∈ BB wy) (hn : b.1 < (K wy).2.2.2.1) {z : Int} (hz : 1 ≤ z ∧ z ≤ 300) : ∃ w' k1 hn1 cn1 B1 b', b' ∈ B1 ∧ b'.1 = b.1 ∧ Zc sc 144 [zp l, zj b.1, zj z] w (some (zj b'.2.1)) w' 0 0 ∧ zFm w w' l 72 ∧ PD w' l wy st hd D K HN CN BB (2, b.1, z) k1 hn1 cn1 B1 := by
  obtain ⟨h1, h0, hT, hdn, hM⟩ := id h; have hp := zl_present (sc := sc) h; have hc := clsL_c wy; obtain ⟨-, hQ, -⟩ := hM wy h1; obtain ⟨fs, ho⟩ := sQ_ob hQ; have hB := sQ_B hQ; have hH := sQ_H hQ; have hst := zm_standing (sc := sc) hc hQ; have hga := zm_gaps (sc := sc) hc hQ; have hnm := zm_names (sc := sc) hc hQ; have hk := hQ.2.1
  have k4 := hk.2.2.2.1
  have gb := hB.1.2 b hb
  obtain ⟨w1, w2, k1, hn1, cn1, B1, z1, ⟨f1, o1⟩, z2, z3, z4, z5⟩ := zl_deed (sc := sc) h hD (d := (2, b.1, z)) (okd_of (by omega) (by omega) (by omega) (by omega))
  have hQ2 := (z5.2.2.2.2 wy h1).2.1
  rw [newU_at, newU_at, newU_at, newU_at] at hQ2
  obtain ⟨f2, o2⟩ := sQ_ob hQ2
  have s2 := zm_standing (sc := sc) hc hQ2
  have hB2 := sQ_B hQ2
  obtain ⟨b', hb', eb⟩ : ∃ b' ∈ B1, b'.1 = b.1 := by
    rcases z4.2 with ⟨g, -⟩ | ⟨g, -⟩ | ⟨-, -, ⟨g, -⟩ | ⟨b0, e0, g⟩⟩ | ⟨g, -⟩ | ⟨g, -⟩ | ⟨g, -⟩
    · simp at g
    · simp at g
    · exact absurd rfl (g b hb)
    · obtain ⟨X, Y, e1, ⟨-, e2, -⟩ | ⟨-, -, ⟨e2, -⟩ | ⟨p, Z1, Z2, -, -, -, e2, -⟩⟩⟩ := g
      · rw [e2]; exact ⟨_, mem_mid.mpr (Or.inr rfl), e0⟩
      · exact ⟨b0, by rw [e2, e1]; exact mem_mid.mpr (Or.inr rfl), e0⟩
      · rw [e2]; exact ⟨_, mem_mid.mpr (Or.inr rfl), e0⟩
    · simp at g
    · simp at g
    · simp at g
  have hpl := zc_placeOf_t (sc := sc) hB2 hb'
  rw [eb] at hpl
  exact ⟨w2, k1, hn1, cn1, B1, b', hb', eb, Zc_of rfl rfl (V144_0 h0 ⟨zl_reqName h ⟨gb.1, hn⟩, zl_reqSize hz, zl_reqThere h hb, zl_reqDeed h hD, _, hp, _, hT.ob, _, w1, z1, _, f1, o1, hc, _, w2, z2, _, f2, o2, hc, _, s2, _, hB2.ob, _, hpl, rfl, rfl, rfl, rfl⟩), z3, z4, z5⟩
theorem zl_open (h : sL w l wy st hd D K HN CN BB) (hD : D.length < 150) (ha : (K wy).2.2.2.2.1 < 8) : ∃ w' k1 hn1 cn1 B1, Zc sc 146 [zp l] w (some (zj ((K wy).2.2.2.2.1 + 1))) w' 0 0 ∧ zFm w w' l 72 ∧ PD w' l wy st hd D K HN CN BB (4, 0, 0) k1 hn1 cn1 B1 := by
  obtain ⟨h1, h0, hT, hdn, hM⟩ := id h; have hp := zl_present (sc := sc) h; have hc := clsL_c wy; obtain ⟨-, hQ, -⟩ := hM wy h1; obtain ⟨fs, ho⟩ := sQ_ob hQ; have hB := sQ_B hQ; have hH := sQ_H hQ; have hst := zm_standing (sc := sc) hc hQ; have hga := zm_gaps (sc := sc) hc hQ; have hnm := zm_names (sc := sc) hc hQ; have hk := hQ.2.1
  have k5 := hk.2.2.2.2.1
  obtain ⟨w1, w2, k1, hn1, cn1, B1, z1, ⟨f1, o1⟩, z2, z3, z4, z5⟩ := zl_deed (sc := sc) h hD (d := (4, 0, 0)) (okd_of (by omega) (by omega) (by omega) (by omega))
  have hQ2 := (z5.2.2.2.2 wy h1).2.1
  rw [newU_at, newU_at, newU_at, newU_at] at hQ2
  obtain ⟨f2, o2⟩ := sQ_ob hQ2
  have n2 := zm_arenas (sc := sc) hc hQ2
  have en : k1.2.2.2.2.1 = (K wy).2.2.2.2.1 + 1 := by
    rcases z4.2 with ⟨g, -⟩ | ⟨g, -⟩ | ⟨g, -⟩ | ⟨g, -⟩ | ⟨-, e, -⟩ | ⟨g, -⟩
    · simp at g
    · simp at g
    · simp at g
    · simp at g
    · rw [e]; rfl
    · simp at g
  exact ⟨w2, k1, hn1, cn1, B1, Zc_of rfl rfl (V146_0 h0 ⟨_, hp, _, fs, ho, hc, _, zm_arenas hc hQ, by omega, fun _ => ⟨zl_reqDeed h hD, _, hp, _, hT.ob, _, w1, z1, _, f1, o1, hc, _, w2, z2, _, f2, o2, hc, _, n2, zj_e en.symm, rfl, rfl, rfl⟩, fun q => by omega⟩), z3, z4, z5⟩
theorem zl_close (h : sL w l wy st hd D K HN CN BB) (hD : D.length < 150) (ha : 0 < (K wy).2.2.2.2.1) : ∃ w' k1 hn1 cn1 B1, Zc sc 148 [zp l] w (some (zj ((BB wy).length - B1.length))) w' 0 0 ∧ zFm w w' l 72 ∧ PD w' l wy st hd D K HN CN BB (5, 0, 0) k1 hn1 cn1 B1 := by
  obtain ⟨h1, h0, hT, hdn, hM⟩ := id h; have hp := zl_present (sc := sc) h; have hc := clsL_c wy; obtain ⟨-, hQ, -⟩ := hM wy h1; obtain ⟨fs, ho⟩ := sQ_ob hQ; have hB := sQ_B hQ; have hH := sQ_H hQ; have hst := zm_standing (sc := sc) hc hQ; have hga := zm_gaps (sc := sc) hc hQ; have hnm := zm_names (sc := sc) hc hQ; have hk := hQ.2.1
  have k5 := hk.2.2.2.2.1
  obtain ⟨w1, w2, k1, hn1, cn1, B1, z1, ⟨f1, o1⟩, z2, z3, z4, z5⟩ := zl_deed (sc := sc) h hD (d := (5, 0, 0)) (okd_of (by omega) (by omega) (by omega) (by omega))
  have hQ2 := (z5.2.2.2.2 wy h1).2.1
  rw [newU_at, newU_at, newU_at, newU_at] at hQ2
  obtain ⟨f2, o2⟩ := sQ_ob hQ2
  have s2 := zm_standing (sc := sc) hc hQ2
  have hB2 := sQ_B hQ2
  exact ⟨w2, k1, hn1, cn1, B1, Zc_of rfl rfl (V148_0 h0 ⟨_, hp, _, fs, ho, hc, _, zm_arenas hc hQ, by omega, fun _ => ⟨zl_reqDeed h hD, _, hp, _, fs, ho, hc, _, hst, _, hB.ob, _, zc_howMany hB, _, hp, _, hT.ob, _, w1, z1, _, f1, o1, hc, _, w2, z2, _, f2, o2, hc, _, s2, _, hB2.ob, _, zc_howMany hB2, rfl, rfl, rfl, rfl⟩, fun q => by omega⟩), z3, z4, z5⟩
theorem zl_together (h : sL w l wy st hd D K HN CN BB) (hD : D.length < 150) (hy : wy < 4) : ∃ w' k1 hn1 cn1 B1, Zc sc 150 [zp l] w (some (zj (pkM (BB wy) 0))) w' 0 0 ∧ zFm w w' l 72 ∧ PD w' l wy st hd D K HN CN BB (3, 0, 0) k1 hn1 cn1 B1 := by
  obtain ⟨h1, h0, hT, hdn, hM⟩ := id h; have hp := zl_present (sc := sc) h; have hc := clsL_c wy; obtain ⟨-, hQ, -⟩ := hM wy h1; obtain ⟨fs, ho⟩ := sQ_ob hQ; have hB := sQ_B hQ; have hH := sQ_H hQ; have hst := zm_standing (sc := sc) hc hQ; have hga := zm_gaps (sc := sc) hc hQ; have hnm := zm_names (sc := sc) hc hQ; have hk := hQ.2.1
  obtain ⟨w1, w2, k1, hn1, cn1, B1, z1, ⟨f1, o1⟩, z2, z3, z4, z5⟩ := zl_deed (sc := sc) h hD (d := (3, 0, 0)) (okd_of (by omega) (by omega) (by omega) (by omega))
  have hQ2 := (z5.2.2.2.2 wy h1).2.1
  rw [newU_at, newU_at, newU_at, newU_at] at hQ2
  obtain ⟨f2, o2⟩ := sQ_ob hQ2
  have hcl : clsL wy = 2 := by
    have : wy = 0 ∨ wy = 1 ∨ wy = 2 ∨ wy = 3 := by omega
    rcases this with rfl | rfl | rfl | rfl <;> rfl
  have hc5 := hQ.1
  have a3 := zm_countOf (sc := sc) hc hQ (x := 3) (by omega)
  have b3 := zm_countOf (sc := sc) hc hQ2 (x := 3) (by omega)
  have e3 : zgi cn1 3 = zgi (CN wy) 3 + pkM (BB wy) 0 := by
    rcases z4.2 with ⟨g, -⟩ | ⟨g, -⟩ | ⟨g, -⟩ | ⟨-, -, ⟨g, -⟩ | ⟨-, -, e, -⟩⟩ | ⟨g, -⟩ | ⟨g, -⟩
    · simp at g
    · simp at g
    · simp at g
    · exact absurd hcl g
    · rw [e, zgi_set (by omega) (by omega) (by omega), if_pos rfl]
    · simp at g
    · simp at g
  exact ⟨w2, k1, hn1, cn1, B1, Zc_of rfl rfl (V150_0 h0 ⟨by omega, fun q => by omega, fun _ => ⟨by omega, fun _ => ⟨zl_reqDeed h hD, _, hp, _, fs, ho, hc, _, a3, _, hp, _, hT.ob, _, w1, z1, _, f1, o1, hc, _, w2, z2, _, f2, o2, hc, _, b3, zj_e (by show _ = zgi cn1 3 - zgi (CN wy) 3; omega), rfl, rfl, rfl⟩, fun q => absurd (show ((wy : Nat) : Int) ≠ 5 by omega) q⟩⟩), z3, z4, z5⟩
def rsK (K : Nat → mk_T) (x y : Int) : Nat → mk_T := fun j => ((K j).1, x, y, 0, 0, 0, 0, (K j).2.2.2.2.2.2.2)
theorem zl_reset (h : sL w l wy st hd D K HN CN BB) {i : Nat} (hi : i < 6) {x y : Int} (hx : x = 1 ∨ x = 2 ∨ x = 4 ∨ x = 8) (hy : 0 ≤ y ∧ y ≤ 8) : ∃ w', Zc sc 119 [zp l, zj i, zj x, zj y] w (some (zj wy)) w' 0 0 ∧ zFm w w' l 72 ∧ sL w' l i x y [] (rsK K x y) (fun _ => 0) (fun _ => List.replicate 5 0) (fun _ => []) := by
  obtain ⟨h1, h0, hT, hdn, hM⟩ := id h
  have key : ∀ (n j : Nat) (w0 : List zE), j + n = 6 → w0[l]? = some (lobj l i) → sT w0 (l + 1) [] → (∀ q, q < 6 → if q < j then sQ w0 (clsL q) (l + offL q) (rsK K x y q) 0 (List.replicate 5 0) [] else sQ w0 (clsL q) (l + offL q) (K q) (HN q) (CN q) (BB q)) → ∃ w', Zr sc 119 89 [zp l, zj i, zj x, zj y, zj wy, zj j] [] w0 (some (zj wy)) w' 0 0 ∧ zFm w0 w' l 72 ∧ w'[l]? = some (lobj l i) ∧ sT w' (l + 1) [] ∧ ∀ q, q < 6 → sQ w' (clsL q) (l + offL q) (rsK K x y q) 0 (List.replicate 5 0) [] := by
    intro n
    induction n with
    | zero =>
      intro j w0 hj g0 gT gQ
      exact ⟨w0, V119_89 g0 ⟨by omega, fun _ => ⟨rfl, rfl, rfl, rfl⟩, fun q => by omega⟩, zFm_refl _ _ _, g0, gT, fun q hq => by
        have := gQ q hq
        rw [if_pos (by omega)] at this
        exact this⟩
    | succ n ih =>
      intro j w0 hj g0 gT gQ
      have hj6 : j < 6 := by omega
      have hq := gQ j hj6
      rw [if_neg (by omega)] at hq
      obtain ⟨fs, ho⟩ := sQ_ob hq
      obtain ⟨w1, z1, z2, z3⟩ := zm_begin (sc := sc) (clsL_c j) hq hx hy
      have r := off_rg hj6
      obtain ⟨w2, y1, y2, y3⟩ := ih (j + 1) w1 (by omega) (zFm_get z2 g0 (by omega)) (sT_fm z2 (by omega) gT) (fun q hq6 => by
        by_cases e : q = j
        · subst e
          rw [if_pos (by omega)]
          exact z3
        · have dd := off_dis hq6 hj6 e
          have := gQ q hq6
          by_cases e2 : q < j
          · rw [if_pos e2] at this
            rw [if_pos (by omega)]
            exact sQ_fm z2 (by omega) this
          · rw [if_neg e2] at this
            rw [if_neg (by omega)]
            exact sQ_fm z2 (by omega) this)
      exact ⟨w2, V119_89 g0 ⟨by omega, fun q => by omega, fun _ => ⟨_, zl_memoryOf g0 hj6, _, fs, ho, clsL_c j, w1, z1, y1⟩⟩, zFm_trans (zFm_lab hj6 z2) y2, y3⟩
  have f1 : zFm w (w.set l (lobj l i)) l 1 := zFm_set (by omega) (by omega)
  obtain ⟨w2, t1, t2, t3⟩ := zc_tForget (sc := sc) (sT_fm f1 (by omega) hT)
  obtain ⟨w3, y1, y2, y3, y4, y5⟩ := key 6 0 w2 (by omega) (zFm_get t2 (zw_s h0) (by omega)) t3 (fun q hq => by
    have r := off_rg hq
    rw [if_neg (by omega)]
    exact sQ_fm t2 (by omega) (sQ_fm f1 (by omega) (hM q hq).2.1))
  have hw : Zc sc 56 [zj (i : Int)] w (some (zj 1)) w 0 0 := Zc_of rfl rfl (V56_0 ⟨by omega, fun q => by omega, fun _ => ⟨by omega, fun q => by omega, fun _ => ⟨rfl, rfl, rfl, rfl⟩⟩⟩)
  refine ⟨w3, ?_, zFm_trans (zFm_mono f1 (by omega) (by omega)) (zFm_trans (zFm_mono t2 (by omega) (by omega)) y2), hi, y3, y4, rfl, fun q hq => ?_⟩
  · rcases hx with rfl | rfl | rfl | rfl
    · exact Zc_of rfl rfl (V119_0 h0 ⟨_, hw, by omega, fun _ => ⟨by omega, fun _ => ⟨by omega, fun q => by omega, fun _ => ⟨by omega, fun _ => ⟨_, hT.ob, w2, t1, y1⟩, fun q => by omega⟩⟩, fun q => by omega⟩, fun q => by omega⟩)
    · exact Zc_of rfl rfl (V119_0 h0 ⟨_, hw, by omega, fun _ => ⟨by omega, fun q => by omega, fun _ => ⟨by omega, fun _ => ⟨by omega, fun q => by omega, fun _ => ⟨by omega, fun _ => ⟨_, hT.ob, w2, t1, y1⟩, fun q => by omega⟩⟩, fun q => by omega⟩⟩, fun q => by omega⟩)
    · exact Zc_of rfl rfl (V119_0 h0 ⟨_, hw, by omega, fun _ => ⟨by omega, fun q => by omega, fun _ => ⟨by omega, fun q => by omega, fun _ => ⟨by omega, fun _ => ⟨by omega, fun q => by omega, fun _ => ⟨by omega, fun _ => ⟨_, hT.ob, w2, t1, y1⟩, fun q => by omega⟩⟩, fun q => by omega⟩⟩⟩, fun q => by omega⟩)
    · exact Zc_of rfl rfl (V119_0 h0 ⟨_, hw, by omega, fun _ => ⟨by omega, fun q => by omega, fun _ => ⟨by omega, fun q => by omega, fun _ => ⟨by omega, fun q => by omega, fun _ => ⟨by omega, fun _ => ⟨by omega, fun q => by omega, fun _ => ⟨by omega, fun _ => ⟨_, hT.ob, w2, t1, y1⟩, fun q => by omega⟩⟩, fun q => by omega⟩⟩⟩⟩, fun q => by omega⟩)
  · obtain ⟨⟨D1, D2, e, hd1, hw1⟩, hQ, hp1, hk1, hk2, hk3⟩ := hM q hq
    refine ⟨⟨[], [], rfl, rfl, hw1.1, ⟨by show -((0 : Nat) : Int) ≤ 0; decide, by show (0 : Int) ≤ ((0 : Nat) : Int); decide⟩, fun b hb => (by cases hb), by show ((0 : Nat) : Int) ≤ 0; decide, fun b hb => (by cases hb), fun j h0 h4 => ?_⟩, y5 q hq, by show (0 : Int) ≤ 0; decide, hk1, rfl, rfl⟩
    rw [zgi_rep]
    decide
end ACT
