/-! ===== regions: the class ===== -/
-- HeapwrightLab$Blocks.put(IIII)V
set_option maxRecDepth 100000 in
theorem V68_0 {sc : List Value} {w w' : List zE} {ov : Option Value} {c s : Nat} {a0 : Nat} {x1 : Int} {x2 : Int} {x3 : Int} {x4 : Int} {ct : Int} {rt : Int} {rm : List Int} {bp : List Int} (L0 : w[a0]? = some (zob 0 [zp (a0 + 1), zp (a0 + 2), zp (a0 + 3), zp (a0 + 4), zj ct, zj rt])) (L3 : w[(a0 + 3)]? = some (za rm)) (L4 : w[(a0 + 4)]? = some (za bp)) (h : ((zrg x1) ∧ ((x1 < 0 → (ov = none ∧ w' = w ∧ c = 0 ∧ s = 0)) ∧ (¬ (x1 < 0) → ((zrg x1 ∧ zrg (rm.length : Int)) ∧ (((rm.length : Int) ≤ x1 → (ov = none ∧ w' = w ∧ c = 0 ∧ s = 0)) ∧ (¬ ((rm.length : Int) ≤ x1) → (∃ r_5 : Int, Zc sc 7 [zp a0, zj x1] w (some (zj r_5)) w 0 0 ∧ ((zrg r_5) ∧ ((r_5 ≠ 0 → (ov = none ∧ w' = w ∧ c = 0 ∧ s = 0)) ∧ (¬ (r_5 ≠ 0) → ((zrg ct ∧ zrg (bp.length : Int)) ∧ ((ct < (bp.length : Int) → Zr sc 68 40 [zp a0, zj x1, zj x2, zj x3, zj x4, zj ct] [] w ov w' c s) ∧ (¬ (ct < (bp.length : Int)) → (ov = none ∧ w' = w ∧ c = 0 ∧ s = 0))))))))))))))) : Zr sc 68 0 [zp a0, zj x1, zj x2, zj x3, zj x4, zmk] [] w ov w' c s := by
  refine Zr_st (q := (1, [zp a0, zj x1, zj x2, zj x3, zj x4, zmk], [zj x1])) rfl rfl rfl ?_
  show Zr sc 68 1 [zp a0, zj x1, zj x2, zj x3, zj x4, zmk] [zj x1] w ov w' c s
  obtain ⟨hr_1, h⟩ := h
  refine Zr_b0 (p := x1 < 0) rfl rfl (zcmp_0 (cnd := .lt) hr_1) (fun hp => ?_) (fun hp => ?_)
  · replace h := h.1 hp
    show Zr sc 68 33 [zp a0, zj x1, zj x2, zj x3, zj x4, zmk] [] w ov w' c s
    obtain ⟨h1, h2, h3, h4⟩ := h
    subst h1; subst h2; subst h3; subst h4
    exact Zr_ret (ins := .return_) rfl rfl
  · replace h := h.2 hp
    show Zr sc 68 4 [zp a0, zj x1, zj x2, zj x3, zj x4, zmk] [] w ov w' c s
    refine Zr_st (q := (5, [zp a0, zj x1, zj x2, zj x3, zj x4, zmk], [zj x1])) rfl rfl rfl ?_
    show Zr sc 68 5 [zp a0, zj x1, zj x2, zj x3, zj x4, zmk] [zj x1] w ov w' c s
    refine Zr_st (q := (6, [zp a0, zj x1, zj x2, zj x3, zj x4, zmk], [zp a0, zj x1])) rfl rfl rfl ?_
    show Zr sc 68 6 [zp a0, zj x1, zj x2, zj x3, zj x4, zmk] [zp a0, zj x1] w ov w' c s
    refine rl_gf rfl L0 rfl rfl ?_
    show Zr sc 68 9 [zp a0, zj x1, zj x2, zj x3, zj x4, zmk] [zp (a0 + 3), zj x1] w ov w' c s
    refine rl_al rfl L3 ?_
    show Zr sc 68 10 [zp a0, zj x1, zj x2, zj x3, zj x4, zmk] [zj (rm.length : Int), zj x1] w ov w' c s
    obtain ⟨hr_2, h⟩ := h
    refine Zr_br (p := (rm.length : Int) ≤ x1) rfl rfl (zcmp_j (cnd := .ge) hr_2.1 hr_2.2) (fun hp => ?_) (fun hp => ?_)
    · replace h := h.1 hp
      show Zr sc 68 33 [zp a0, zj x1, zj x2, zj x3, zj x4, zmk] [] w ov w' c s
      obtain ⟨h1, h2, h3, h4⟩ := h
      subst h1; subst h2; subst h3; subst h4
      exact Zr_ret (ins := .return_) rfl rfl
    · replace h := h.2 hp
      show Zr sc 68 13 [zp a0, zj x1, zj x2, zj x3, zj x4, zmk] [] w ov w' c s
      refine Zr_st (q := (14, [zp a0, zj x1, zj x2, zj x3, zj x4, zmk], [zp a0])) rfl rfl rfl ?_
      show Zr sc 68 14 [zp a0, zj x1, zj x2, zj x3, zj x4, zmk] [zp a0] w ov w' c s
      refine Zr_st (q := (15, [zp a0, zj x1, zj x2, zj x3, zj x4, zmk], [zj x1, zp a0])) rfl rfl rfl ?_
      show Zr sc 68 15 [zp a0, zj x1, zj x2, zj x3, zj x4, zmk] [zj x1, zp a0] w ov w' c s
      obtain ⟨r_5, hk_9, h⟩ := h
      refine rn_cal0 (ins := .invokevirtual 37) (rest := []) rfl rfl rfl rfl (zinv_v (fs := _) L0 rfl rfl rfl rfl) rfl rfl hk_9 ?_
      show Zr sc 68 18 [zp a0, zj x1, zj x2, zj x3, zj x4, zmk] [zj r_5] w ov w' c s
      obtain ⟨hr_6, h⟩ := h
      refine Zr_b0 (p := r_5 ≠ 0) rfl rfl (zcmp_0 (cnd := .ne) hr_6) (fun hp => ?_) (fun hp => ?_)
      · replace h := h.1 hp
        show Zr sc 68 33 [zp a0, zj x1, zj x2, zj x3, zj x4, zmk] [] w ov w' c s
        obtain ⟨h1, h2, h3, h4⟩ := h
        subst h1; subst h2; subst h3; subst h4
        exact Zr_ret (ins := .return_) rfl rfl
      · replace h := h.2 hp
        show Zr sc 68 21 [zp a0, zj x1, zj x2, zj x3, zj x4, zmk] [] w ov w' c s
        refine Zr_st (q := (22, [zp a0, zj x1, zj x2, zj x3, zj x4, zmk], [zp a0])) rfl rfl rfl ?_
        show Zr sc 68 22 [zp a0, zj x1, zj x2, zj x3, zj x4, zmk] [zp a0] w ov w' c s
        refine rl_gf rfl L0 rfl rfl ?_
        show Zr sc 68 25 [zp a0, zj x1, zj x2, zj x3, zj x4, zmk] [zj ct] w ov w' c s
        refine Zr_st (q := (26, [zp a0, zj x1, zj x2, zj x3, zj x4, zmk], [zp a0, zj ct])) rfl rfl rfl ?_
        show Zr sc 68 26 [zp a0, zj x1, zj x2, zj x3, zj x4, zmk] [zp a0, zj ct] w ov w' c s
        refine rl_gf rfl L0 rfl rfl ?_
        show Zr sc 68 29 [zp a0, zj x1, zj x2, zj x3, zj x4, zmk] [zp (a0 + 4), zj ct] w ov w' c s
        refine rl_al rfl L4 ?_
        show Zr sc 68 30 [zp a0, zj x1, zj x2, zj x3, zj x4, zmk] [zj (bp.length : Int), zj ct] w ov w' c s
        obtain ⟨hr_7, h⟩ := h
        refine Zr_br (p := ct < (bp.length : Int)) rfl rfl (zcmp_j (cnd := .lt) hr_7.1 hr_7.2) (fun hp => ?_) (fun hp => ?_)
        · replace h := h.1 hp
          show Zr sc 68 34 [zp a0, zj x1, zj x2, zj x3, zj x4, zmk] [] w ov w' c s
          refine Zr_st (q := (35, [zp a0, zj x1, zj x2, zj x3, zj x4, zmk], [zp a0])) rfl rfl rfl ?_
          show Zr sc 68 35 [zp a0, zj x1, zj x2, zj x3, zj x4, zmk] [zp a0] w ov w' c s
          refine rl_gf rfl L0 rfl rfl ?_
          show Zr sc 68 38 [zp a0, zj x1, zj x2, zj x3, zj x4, zmk] [zj ct] w ov w' c s
          refine Zr_st (q := (40, [zp a0, zj x1, zj x2, zj x3, zj x4, zj ct], [])) rfl rfl rfl ?_
          show Zr sc 68 40 [zp a0, zj x1, zj x2, zj x3, zj x4, zj ct] [] w ov w' c s
          exact h
        · replace h := h.2 hp
          show Zr sc 68 33 [zp a0, zj x1, zj x2, zj x3, zj x4, zmk] [] w ov w' c s
          obtain ⟨h1, h2, h3, h4⟩ := h
          subst h1; subst h2; subst h3; subst h4
          exact Zr_ret (ins := .return_) rfl rfl
set_option maxRecDepth 100000 in
theorem V68_40 {sc : List Value} {w w' : List zE} {ov : Option Value} {c s : Nat} {a0 : Nat} {x1 : Int} {x2 : Int} {x3 : Int} {x4 : Int} {x5 : Int} {ct : Int} {rt : Int} {bp : List Int} {pl : List Int} {sz : List Int} {rm : List Int} (L0 : w[a0]? = some (zob 0 [zp (a0 + 1), zp (a0 + 2), zp (a0 + 3), zp (a0 + 4), zj ct, zj rt])) (L4 : w[(a0 + 4)]? = some (za bp)) (L1 : w[(a0 + 1)]? = some (za pl)) (L2 : w[(a0 + 2)]? = some (za sz)) (L3 : w[(a0 + 3)]? = some (za rm)) (h : ((zrg x5) ∧ ((x5 ≤ 0 → (((0 : Int) ≤ x5 ∧ x5 < (bp.length : Int) ∧ x5 ≤ (2147483647 : Int)) ∧ (((0 : Int) ≤ x1 ∧ x1 < (pl.length : Int) ∧ x1 ≤ (2147483647 : Int)) ∧ (((0 : Int) ≤ x1 ∧ x1 < (sz.length : Int) ∧ x1 ≤ (2147483647 : Int)) ∧ (((0 : Int) ≤ x1 ∧ x1 < (rm.length : Int) ∧ x1 ≤ (2147483647 : Int)) ∧ (ov = none ∧ w' = ((((((w.set (a0 + 4) (za (zsi bp x5 x1))).set a0 (zob 0 [zp (a0 + 1), zp (a0 + 2), zp (a0 + 3), zp (a0 + 4), zj (ct + 1), zj rt])).set (a0 + 1) (za (zsi pl x1 x2))).set (a0 + 2) (za (zsi sz x1 x3))).set (a0 + 3) (za (zsi rm x1 x4))).set a0 (zob 0 [zp (a0 + 1), zp (a0 + 2), zp (a0 + 3), zp (a0 + 4), zj (ct + 1), zj (rt + x4)])) ∧ c = 0 ∧ s = 0)))))) ∧ (¬ (x5 ≤ 0) → (((0 : Int) ≤ (x5 - 1) ∧ (x5 - 1) < (bp.length : Int) ∧ (x5 - 1) ≤ (2147483647 : Int)) ∧ (∃ r_9 : Int, Zc sc 9 [zp a0, zj (zgi bp (x5 - 1))] w (some (zj r_9)) w 0 0 ∧ ((zrg r_9 ∧ zrg x2) ∧ ((r_9 ≤ x2 → (((0 : Int) ≤ x5 ∧ x5 < (bp.length : Int) ∧ x5 ≤ (2147483647 : Int)) ∧ (((0 : Int) ≤ x1 ∧ x1 < (pl.length : Int) ∧ x1 ≤ (2147483647 : Int)) ∧ (((0 : Int) ≤ x1 ∧ x1 < (sz.length : Int) ∧ x1 ≤ (2147483647 : Int)) ∧ (((0 : Int) ≤ x1 ∧ x1 < (rm.length : Int) ∧ x1 ≤ (2147483647 : Int)) ∧ (ov = none ∧ w' = ((((((w.set (a0 + 4) (za (zsi bp x5 x1))).set a0 (zob 0 [zp (a0 + 1), zp (a0 + 2), zp (a0 + 3), zp (a0 + 4), zj (ct + 1), zj rt])).set (a0 + 1) (za (zsi pl x1 x2))).set (a0 + 2) (za (zsi sz x1 x3))).set (a0 + 3) (za (zsi rm x1 x4))).set a0 (zob 0 [zp (a0 + 1), zp (a0 + 2), zp (a0 + 3), zp (a0 + 4), zj (ct + 1), zj (rt + x4)])) ∧ c = 0 ∧ s = 0)))))) ∧ (¬ (r_9 ≤ x2) → (((0 : Int) ≤ (x5 - 1) ∧ (x5 - 1) < (bp.length : Int) ∧ (x5 - 1) ≤ (2147483647 : Int)) ∧ (((0 : Int) ≤ x5 ∧ x5 < (bp.length : Int) ∧ x5 ≤ (2147483647 : Int)) ∧ Zr sc 68 40 [zp a0, zj x1, zj x2, zj x3, zj x4, zj (x5 + (-1))] [] (w.set (a0 + 4) (za (zsi bp x5 (zgi bp (x5 - 1))))) ov w' c s))))))))))) : Zr sc 68 40 [zp a0, zj x1, zj x2, zj x3, zj x4, zj x5] [] w ov w' c s := by
  refine Zr_st (q := (42, [zp a0, zj x1, zj x2, zj x3, zj x4, zj x5], [zj x5])) rfl rfl rfl ?_
  show Zr sc 68 42 [zp a0, zj x1, zj x2, zj x3, zj x4, zj x5] [zj x5] w ov w' c s
  obtain ⟨hr_1, h⟩ := h
  refine Zr_b0 (p := x5 ≤ 0) rfl rfl (zcmp_0 (cnd := .le) hr_1) (fun hp => ?_) (fun hp => ?_)
  · replace h := h.1 hp
    show Zr sc 68 84 [zp a0, zj x1, zj x2, zj x3, zj x4, zj x5] [] w ov w' c s
    refine Zr_st (q := (85, [zp a0, zj x1, zj x2, zj x3, zj x4, zj x5], [zp a0])) rfl rfl rfl ?_
    show Zr sc 68 85 [zp a0, zj x1, zj x2, zj x3, zj x4, zj x5] [zp a0] w ov w' c s
    refine rl_gf rfl L0 rfl rfl ?_
    show Zr sc 68 88 [zp a0, zj x1, zj x2, zj x3, zj x4, zj x5] [zp (a0 + 4)] w ov w' c s
    refine Zr_st (q := (90, [zp a0, zj x1, zj x2, zj x3, zj x4, zj x5], [zj x5, zp (a0 + 4)])) rfl rfl rfl ?_
    show Zr sc 68 90 [zp a0, zj x1, zj x2, zj x3, zj x4, zj x5] [zj x5, zp (a0 + 4)] w ov w' c s
    refine Zr_st (q := (91, [zp a0, zj x1, zj x2, zj x3, zj x4, zj x5], [zj x1, zj x5, zp (a0 + 4)])) rfl rfl rfl ?_
    show Zr sc 68 91 [zp a0, zj x1, zj x2, zj x3, zj x4, zj x5] [zj x1, zj x5, zp (a0 + 4)] w ov w' c s
    obtain ⟨hi_2, h⟩ := h
    refine rl_is rfl L4 hi_2.1 hi_2.2.1 hi_2.2.2 ?_
    show Zr sc 68 92 [zp a0, zj x1, zj x2, zj x3, zj x4, zj x5] [] (w.set (a0 + 4) (za (zsi bp x5 x1))) ov w' c s
    refine Zr_st (q := (93, [zp a0, zj x1, zj x2, zj x3, zj x4, zj x5], [zp a0])) rfl rfl rfl ?_
    show Zr sc 68 93 [zp a0, zj x1, zj x2, zj x3, zj x4, zj x5] [zp a0] (w.set (a0 + 4) (za (zsi bp x5 x1))) ov w' c s
    refine Zr_st (q := (94, [zp a0, zj x1, zj x2, zj x3, zj x4, zj x5], [zp a0, zp a0])) rfl rfl rfl ?_
    show Zr sc 68 94 [zp a0, zj x1, zj x2, zj x3, zj x4, zj x5] [zp a0, zp a0] (w.set (a0 + 4) (za (zsi bp x5 x1))) ov w' c s
    refine rl_gf rfl (zw_o (by omega) L0) rfl rfl ?_
    show Zr sc 68 97 [zp a0, zj x1, zj x2, zj x3, zj x4, zj x5] [zj ct, zp a0] (w.set (a0 + 4) (za (zsi bp x5 x1))) ov w' c s
    refine rl_ic rfl ?_
    show Zr sc 68 98 [zp a0, zj x1, zj x2, zj x3, zj x4, zj x5] [zj 1, zj ct, zp a0] (w.set (a0 + 4) (za (zsi bp x5 x1))) ov w' c s
    refine rl_add rfl ?_
    show Zr sc 68 99 [zp a0, zj x1, zj x2, zj x3, zj x4, zj x5] [zj (ct + 1), zp a0] (w.set (a0 + 4) (za (zsi bp x5 x1))) ov w' c s
    refine rl_pf rfl (zw_o (by omega) L0) rfl rfl rfl ?_
    show Zr sc 68 102 [zp a0, zj x1, zj x2, zj x3, zj x4, zj x5] [] ((w.set (a0 + 4) (za (zsi bp x5 x1))).set a0 (zob 0 [zp (a0 + 1), zp (a0 + 2), zp (a0 + 3), zp (a0 + 4), zj (ct + 1), zj rt])) ov w' c s
    refine Zr_st (q := (103, [zp a0, zj x1, zj x2, zj x3, zj x4, zj x5], [zp a0])) rfl rfl rfl ?_
    show Zr sc 68 103 [zp a0, zj x1, zj x2, zj x3, zj x4, zj x5] [zp a0] ((w.set (a0 + 4) (za (zsi bp x5 x1))).set a0 (zob 0 [zp (a0 + 1), zp (a0 + 2), zp (a0 + 3), zp (a0 + 4), zj (ct + 1), zj rt])) ov w' c s
    refine rl_gf rfl (zw_s (zw_o (by omega) L0)) rfl rfl ?_
    show Zr sc 68 106 [zp a0, zj x1, zj x2, zj x3, zj x4, zj x5] [zp (a0 + 1)] ((w.set (a0 + 4) (za (zsi bp x5 x1))).set a0 (zob 0 [zp (a0 + 1), zp (a0 + 2), zp (a0 + 3), zp (a0 + 4), zj (ct + 1), zj rt])) ov w' c s
    refine Zr_st (q := (107, [zp a0, zj x1, zj x2, zj x3, zj x4, zj x5], [zj x1, zp (a0 + 1)])) rfl rfl rfl ?_
    show Zr sc 68 107 [zp a0, zj x1, zj x2, zj x3, zj x4, zj x5] [zj x1, zp (a0 + 1)] ((w.set (a0 + 4) (za (zsi bp x5 x1))).set a0 (zob 0 [zp (a0 + 1), zp (a0 + 2), zp (a0 + 3), zp (a0 + 4), zj (ct + 1), zj rt])) ov w' c s
    refine Zr_st (q := (108, [zp a0, zj x1, zj x2, zj x3, zj x4, zj x5], [zj x2, zj x1, zp (a0 + 1)])) rfl rfl rfl ?_
    show Zr sc 68 108 [zp a0, zj x1, zj x2, zj x3, zj x4, zj x5] [zj x2, zj x1, zp (a0 + 1)] ((w.set (a0 + 4) (za (zsi bp x5 x1))).set a0 (zob 0 [zp (a0 + 1), zp (a0 + 2), zp (a0 + 3), zp (a0 + 4), zj (ct + 1), zj rt])) ov w' c s
    obtain ⟨hi_3, h⟩ := h
    refine rl_is rfl (zw_o (by omega) (zw_o (by omega) L1)) hi_3.1 hi_3.2.1 hi_3.2.2 ?_
    show Zr sc 68 109 [zp a0, zj x1, zj x2, zj x3, zj x4, zj x5] [] (((w.set (a0 + 4) (za (zsi bp x5 x1))).set a0 (zob 0 [zp (a0 + 1), zp (a0 + 2), zp (a0 + 3), zp (a0 + 4), zj (ct + 1), zj rt])).set (a0 + 1) (za (zsi pl x1 x2))) ov w' c s
    refine Zr_st (q := (110, [zp a0, zj x1, zj x2, zj x3, zj x4, zj x5], [zp a0])) rfl rfl rfl ?_
    show Zr sc 68 110 [zp a0, zj x1, zj x2, zj x3, zj x4, zj x5] [zp a0] (((w.set (a0 + 4) (za (zsi bp x5 x1))).set a0 (zob 0 [zp (a0 + 1), zp (a0 + 2), zp (a0 + 3), zp (a0 + 4), zj (ct + 1), zj rt])).set (a0 + 1) (za (zsi pl x1 x2))) ov w' c s
    refine rl_gf rfl (zw_o (by omega) (zw_s (zw_o (by omega) L0))) rfl rfl ?_
    show Zr sc 68 113 [zp a0, zj x1, zj x2, zj x3, zj x4, zj x5] [zp (a0 + 2)] (((w.set (a0 + 4) (za (zsi bp x5 x1))).set a0 (zob 0 [zp (a0 + 1), zp (a0 + 2), zp (a0 + 3), zp (a0 + 4), zj (ct + 1), zj rt])).set (a0 + 1) (za (zsi pl x1 x2))) ov w' c s
    refine Zr_st (q := (114, [zp a0, zj x1, zj x2, zj x3, zj x4, zj x5], [zj x1, zp (a0 + 2)])) rfl rfl rfl ?_
    show Zr sc 68 114 [zp a0, zj x1, zj x2, zj x3, zj x4, zj x5] [zj x1, zp (a0 + 2)] (((w.set (a0 + 4) (za (zsi bp x5 x1))).set a0 (zob 0 [zp (a0 + 1), zp (a0 + 2), zp (a0 + 3), zp (a0 + 4), zj (ct + 1), zj rt])).set (a0 + 1) (za (zsi pl x1 x2))) ov w' c s
    refine Zr_st (q := (115, [zp a0, zj x1, zj x2, zj x3, zj x4, zj x5], [zj x3, zj x1, zp (a0 + 2)])) rfl rfl rfl ?_
    show Zr sc 68 115 [zp a0, zj x1, zj x2, zj x3, zj x4, zj x5] [zj x3, zj x1, zp (a0 + 2)] (((w.set (a0 + 4) (za (zsi bp x5 x1))).set a0 (zob 0 [zp (a0 + 1), zp (a0 + 2), zp (a0 + 3), zp (a0 + 4), zj (ct + 1), zj rt])).set (a0 + 1) (za (zsi pl x1 x2))) ov w' c s
    obtain ⟨hi_4, h⟩ := h
    refine rl_is rfl (zw_o (by omega) (zw_o (by omega) (zw_o (by omega) L2))) hi_4.1 hi_4.2.1 hi_4.2.2 ?_
    show Zr sc 68 116 [zp a0, zj x1, zj x2, zj x3, zj x4, zj x5] [] ((((w.set (a0 + 4) (za (zsi bp x5 x1))).set a0 (zob 0 [zp (a0 + 1), zp (a0 + 2), zp (a0 + 3), zp (a0 + 4), zj (ct + 1), zj rt])).set (a0 + 1) (za (zsi pl x1 x2))).set (a0 + 2) (za (zsi sz x1 x3))) ov w' c s
    refine Zr_st (q := (117, [zp a0, zj x1, zj x2, zj x3, zj x4, zj x5], [zp a0])) rfl rfl rfl ?_
    show Zr sc 68 117 [zp a0, zj x1, zj x2, zj x3, zj x4, zj x5] [zp a0] ((((w.set (a0 + 4) (za (zsi bp x5 x1))).set a0 (zob 0 [zp (a0 + 1), zp (a0 + 2), zp (a0 + 3), zp (a0 + 4), zj (ct + 1), zj rt])).set (a0 + 1) (za (zsi pl x1 x2))).set (a0 + 2) (za (zsi sz x1 x3))) ov w' c s
    refine rl_gf rfl (zw_o (by omega) (zw_o (by omega) (zw_s (zw_o (by omega) L0)))) rfl rfl ?_
    show Zr sc 68 120 [zp a0, zj x1, zj x2, zj x3, zj x4, zj x5] [zp (a0 + 3)] ((((w.set (a0 + 4) (za (zsi bp x5 x1))).set a0 (zob 0 [zp (a0 + 1), zp (a0 + 2), zp (a0 + 3), zp (a0 + 4), zj (ct + 1), zj rt])).set (a0 + 1) (za (zsi pl x1 x2))).set (a0 + 2) (za (zsi sz x1 x3))) ov w' c s
    refine Zr_st (q := (121, [zp a0, zj x1, zj x2, zj x3, zj x4, zj x5], [zj x1, zp (a0 + 3)])) rfl rfl rfl ?_
    show Zr sc 68 121 [zp a0, zj x1, zj x2, zj x3, zj x4, zj x5] [zj x1, zp (a0 + 3)] ((((w.set (a0 + 4) (za (zsi bp x5 x1))).set a0 (zob 0 [zp (a0 + 1), zp (a0 + 2), zp (a0 + 3), zp (a0 + 4), zj (ct + 1), zj rt])).set (a0 + 1) (za (zsi pl x1 x2))).set (a0 + 2) (za (zsi sz x1 x3))) ov w' c s
    refine Zr_st (q := (123, [zp a0, zj x1, zj x2, zj x3, zj x4, zj x5], [zj x4, zj x1, zp (a0 + 3)])) rfl rfl rfl ?_
    show Zr sc 68 123 [zp a0, zj x1, zj x2, zj x3, zj x4, zj x5] [zj x4, zj x1, zp (a0 + 3)] ((((w.set (a0 + 4) (za (zsi bp x5 x1))).set a0 (zob 0 [zp (a0 + 1), zp (a0 + 2), zp (a0 + 3), zp (a0 + 4), zj (ct + 1), zj rt])).set (a0 + 1) (za (zsi pl x1 x2))).set (a0 + 2) (za (zsi sz x1 x3))) ov w' c s
    obtain ⟨hi_5, h⟩ := h
    refine rl_is rfl (zw_o (by omega) (zw_o (by omega) (zw_o (by omega) (zw_o (by omega) L3)))) hi_5.1 hi_5.2.1 hi_5.2.2 ?_
    show Zr sc 68 124 [zp a0, zj x1, zj x2, zj x3, zj x4, zj x5] [] (((((w.set (a0 + 4) (za (zsi bp x5 x1))).set a0 (zob 0 [zp (a0 + 1), zp (a0 + 2), zp (a0 + 3), zp (a0 + 4), zj (ct + 1), zj rt])).set (a0 + 1) (za (zsi pl x1 x2))).set (a0 + 2) (za (zsi sz x1 x3))).set (a0 + 3) (za (zsi rm x1 x4))) ov w' c s
    refine Zr_st (q := (125, [zp a0, zj x1, zj x2, zj x3, zj x4, zj x5], [zp a0])) rfl rfl rfl ?_
    show Zr sc 68 125 [zp a0, zj x1, zj x2, zj x3, zj x4, zj x5] [zp a0] (((((w.set (a0 + 4) (za (zsi bp x5 x1))).set a0 (zob 0 [zp (a0 + 1), zp (a0 + 2), zp (a0 + 3), zp (a0 + 4), zj (ct + 1), zj rt])).set (a0 + 1) (za (zsi pl x1 x2))).set (a0 + 2) (za (zsi sz x1 x3))).set (a0 + 3) (za (zsi rm x1 x4))) ov w' c s
    refine Zr_st (q := (126, [zp a0, zj x1, zj x2, zj x3, zj x4, zj x5], [zp a0, zp a0])) rfl rfl rfl ?_
    show Zr sc 68 126 [zp a0, zj x1, zj x2, zj x3, zj x4, zj x5] [zp a0, zp a0] (((((w.set (a0 + 4) (za (zsi bp x5 x1))).set a0 (zob 0 [zp (a0 + 1), zp (a0 + 2), zp (a0 + 3), zp (a0 + 4), zj (ct + 1), zj rt])).set (a0 + 1) (za (zsi pl x1 x2))).set (a0 + 2) (za (zsi sz x1 x3))).set (a0 + 3) (za (zsi rm x1 x4))) ov w' c s
    refine rl_gf rfl (zw_o (by omega) (zw_o (by omega) (zw_o (by omega) (zw_s (zw_o (by omega) L0))))) rfl rfl ?_
    show Zr sc 68 129 [zp a0, zj x1, zj x2, zj x3, zj x4, zj x5] [zj rt, zp a0] (((((w.set (a0 + 4) (za (zsi bp x5 x1))).set a0 (zob 0 [zp (a0 + 1), zp (a0 + 2), zp (a0 + 3), zp (a0 + 4), zj (ct + 1), zj rt])).set (a0 + 1) (za (zsi pl x1 x2))).set (a0 + 2) (za (zsi sz x1 x3))).set (a0 + 3) (za (zsi rm x1 x4))) ov w' c s
    refine Zr_st (q := (131, [zp a0, zj x1, zj x2, zj x3, zj x4, zj x5], [zj x4, zj rt, zp a0])) rfl rfl rfl ?_
    show Zr sc 68 131 [zp a0, zj x1, zj x2, zj x3, zj x4, zj x5] [zj x4, zj rt, zp a0] (((((w.set (a0 + 4) (za (zsi bp x5 x1))).set a0 (zob 0 [zp (a0 + 1), zp (a0 + 2), zp (a0 + 3), zp (a0 + 4), zj (ct + 1), zj rt])).set (a0 + 1) (za (zsi pl x1 x2))).set (a0 + 2) (za (zsi sz x1 x3))).set (a0 + 3) (za (zsi rm x1 x4))) ov w' c s
    refine rl_add rfl ?_
    show Zr sc 68 132 [zp a0, zj x1, zj x2, zj x3, zj x4, zj x5] [zj (rt + x4), zp a0] (((((w.set (a0 + 4) (za (zsi bp x5 x1))).set a0 (zob 0 [zp (a0 + 1), zp (a0 + 2), zp (a0 + 3), zp (a0 + 4), zj (ct + 1), zj rt])).set (a0 + 1) (za (zsi pl x1 x2))).set (a0 + 2) (za (zsi sz x1 x3))).set (a0 + 3) (za (zsi rm x1 x4))) ov w' c s
    refine rl_pf rfl (zw_o (by omega) (zw_o (by omega) (zw_o (by omega) (zw_s (zw_o (by omega) L0))))) rfl rfl rfl ?_
    show Zr sc 68 135 [zp a0, zj x1, zj x2, zj x3, zj x4, zj x5] [] ((((((w.set (a0 + 4) (za (zsi bp x5 x1))).set a0 (zob 0 [zp (a0 + 1), zp (a0 + 2), zp (a0 + 3), zp (a0 + 4), zj (ct + 1), zj rt])).set (a0 + 1) (za (zsi pl x1 x2))).set (a0 + 2) (za (zsi sz x1 x3))).set (a0 + 3) (za (zsi rm x1 x4))).set a0 (zob 0 [zp (a0 + 1), zp (a0 + 2), zp (a0 + 3), zp (a0 + 4), zj (ct + 1), zj (rt + x4)])) ov w' c s
    obtain ⟨h1, h2, h3, h4⟩ := h
    subst h1; subst h2; subst h3; subst h4
    exact Zr_ret (ins := .return_) rfl rfl
  · replace h := h.2 hp
    show Zr sc 68 45 [zp a0, zj x1, zj x2, zj x3, zj x4, zj x5] [] w ov w' c s
    refine Zr_st (q := (46, [zp a0, zj x1, zj x2, zj x3, zj x4, zj x5], [zp a0])) rfl rfl rfl ?_
    show Zr sc 68 46 [zp a0, zj x1, zj x2, zj x3, zj x4, zj x5] [zp a0] w ov w' c s
    refine Zr_st (q := (47, [zp a0, zj x1, zj x2, zj x3, zj x4, zj x5], [zp a0, zp a0])) rfl rfl rfl ?_
    show Zr sc 68 47 [zp a0, zj x1, zj x2, zj x3, zj x4, zj x5] [zp a0, zp a0] w ov w' c s
    refine rl_gf rfl L0 rfl rfl ?_
    show Zr sc 68 50 [zp a0, zj x1, zj x2, zj x3, zj x4, zj x5] [zp (a0 + 4), zp a0] w ov w' c s
    refine Zr_st (q := (52, [zp a0, zj x1, zj x2, zj x3, zj x4, zj x5], [zj x5, zp (a0 + 4), zp a0])) rfl rfl rfl ?_
    show Zr sc 68 52 [zp a0, zj x1, zj x2, zj x3, zj x4, zj x5] [zj x5, zp (a0 + 4), zp a0] w ov w' c s
    refine rl_ic rfl ?_
    show Zr sc 68 53 [zp a0, zj x1, zj x2, zj x3, zj x4, zj x5] [zj 1, zj x5, zp (a0 + 4), zp a0] w ov w' c s
    refine rl_sub rfl ?_
    show Zr sc 68 54 [zp a0, zj x1, zj x2, zj x3, zj x4, zj x5] [zj (x5 - 1), zp (a0 + 4), zp a0] w ov w' c s
    obtain ⟨hi_6, h⟩ := h
    refine rl_ia rfl L4 hi_6.1 hi_6.2.1 hi_6.2.2 ?_
    show Zr sc 68 55 [zp a0, zj x1, zj x2, zj x3, zj x4, zj x5] [zj (zgi bp (x5 - 1)), zp a0] w ov w' c s
    obtain ⟨r_9, hk_9, h⟩ := h
    refine rn_cal0 (ins := .invokevirtual 45) (rest := []) rfl rfl rfl rfl (zinv_v (fs := _) L0 rfl rfl rfl rfl) rfl rfl hk_9 ?_
    show Zr sc 68 58 [zp a0, zj x1, zj x2, zj x3, zj x4, zj x5] [zj r_9] w ov w' c s
    refine Zr_st (q := (59, [zp a0, zj x1, zj x2, zj x3, zj x4, zj x5], [zj x2, zj r_9])) rfl rfl rfl ?_
    show Zr sc 68 59 [zp a0, zj x1, zj x2, zj x3, zj x4, zj x5] [zj x2, zj r_9] w ov w' c s
    obtain ⟨hr_10, h⟩ := h
    refine Zr_br (p := r_9 ≤ x2) rfl rfl (zcmp_j (cnd := .le) hr_10.1 hr_10.2) (fun hp => ?_) (fun hp => ?_)
    · replace h := h.1 hp
      show Zr sc 68 84 [zp a0, zj x1, zj x2, zj x3, zj x4, zj x5] [] w ov w' c s
      refine Zr_st (q := (85, [zp a0, zj x1, zj x2, zj x3, zj x4, zj x5], [zp a0])) rfl rfl rfl ?_
      show Zr sc 68 85 [zp a0, zj x1, zj x2, zj x3, zj x4, zj x5] [zp a0] w ov w' c s
      refine rl_gf rfl L0 rfl rfl ?_
      show Zr sc 68 88 [zp a0, zj x1, zj x2, zj x3, zj x4, zj x5] [zp (a0 + 4)] w ov w' c s
      refine Zr_st (q := (90, [zp a0, zj x1, zj x2, zj x3, zj x4, zj x5], [zj x5, zp (a0 + 4)])) rfl rfl rfl ?_
      show Zr sc 68 90 [zp a0, zj x1, zj x2, zj x3, zj x4, zj x5] [zj x5, zp (a0 + 4)] w ov w' c s
      refine Zr_st (q := (91, [zp a0, zj x1, zj x2, zj x3, zj x4, zj x5], [zj x1, zj x5, zp (a0 + 4)])) rfl rfl rfl ?_
      show Zr sc 68 91 [zp a0, zj x1, zj x2, zj x3, zj x4, zj x5] [zj x1, zj x5, zp (a0 + 4)] w ov w' c s
      obtain ⟨hi_11, h⟩ := h
      refine rl_is rfl L4 hi_11.1 hi_11.2.1 hi_11.2.2 ?_
      show Zr sc 68 92 [zp a0, zj x1, zj x2, zj x3, zj x4, zj x5] [] (w.set (a0 + 4) (za (zsi bp x5 x1))) ov w' c s
      refine Zr_st (q := (93, [zp a0, zj x1, zj x2, zj x3, zj x4, zj x5], [zp a0])) rfl rfl rfl ?_
      show Zr sc 68 93 [zp a0, zj x1, zj x2, zj x3, zj x4, zj x5] [zp a0] (w.set (a0 + 4) (za (zsi bp x5 x1))) ov w' c s
      refine Zr_st (q := (94, [zp a0, zj x1, zj x2, zj x3, zj x4, zj x5], [zp a0, zp a0])) rfl rfl rfl ?_
      show Zr sc 68 94 [zp a0, zj x1, zj x2, zj x3, zj x4, zj x5] [zp a0, zp a0] (w.set (a0 + 4) (za (zsi bp x5 x1))) ov w' c s
      refine rl_gf rfl (zw_o (by omega) L0) rfl rfl ?_
      show Zr sc 68 97 [zp a0, zj x1, zj x2, zj x3, zj x4, zj x5] [zj ct, zp a0] (w.set (a0 + 4) (za (zsi bp x5 x1))) ov w' c s
      refine rl_ic rfl ?_
      show Zr sc 68 98 [zp a0, zj x1, zj x2, zj x3, zj x4, zj x5] [zj 1, zj ct, zp a0] (w.set (a0 + 4) (za (zsi bp x5 x1))) ov w' c s
      refine rl_add rfl ?_
      show Zr sc 68 99 [zp a0, zj x1, zj x2, zj x3, zj x4, zj x5] [zj (ct + 1), zp a0] (w.set (a0 + 4) (za (zsi bp x5 x1))) ov w' c s
      refine rl_pf rfl (zw_o (by omega) L0) rfl rfl rfl ?_
      show Zr sc 68 102 [zp a0, zj x1, zj x2, zj x3, zj x4, zj x5] [] ((w.set (a0 + 4) (za (zsi bp x5 x1))).set a0 (zob 0 [zp (a0 + 1), zp (a0 + 2), zp (a0 + 3), zp (a0 + 4), zj (ct + 1), zj rt])) ov w' c s
      refine Zr_st (q := (103, [zp a0, zj x1, zj x2, zj x3, zj x4, zj x5], [zp a0])) rfl rfl rfl ?_
      show Zr sc 68 103 [zp a0, zj x1, zj x2, zj x3, zj x4, zj x5] [zp a0] ((w.set (a0 + 4) (za (zsi bp x5 x1))).set a0 (zob 0 [zp (a0 + 1), zp (a0 + 2), zp (a0 + 3), zp (a0 + 4), zj (ct + 1), zj rt])) ov w' c s
      refine rl_gf rfl (zw_s (zw_o (by omega) L0)) rfl rfl ?_
      show Zr sc 68 106 [zp a0, zj x1, zj x2, zj x3, zj x4, zj x5] [zp (a0 + 1)] ((w.set (a0 + 4) (za (zsi bp x5 x1))).set a0 (zob 0 [zp (a0 + 1), zp (a0 + 2), zp (a0 + 3), zp (a0 + 4), zj (ct + 1), zj rt])) ov w' c s
      refine Zr_st (q := (107, [zp a0, zj x1, zj x2, zj x3, zj x4, zj x5], [zj x1, zp (a0 + 1)])) rfl rfl rfl ?_
      show Zr sc 68 107 [zp a0, zj x1, zj x2, zj x3, zj x4, zj x5] [zj x1, zp (a0 + 1)] ((w.set (a0 + 4) (za (zsi bp x5 x1))).set a0 (zob 0 [zp (a0 + 1), zp (a0 + 2), zp (a0 + 3), zp (a0 + 4), zj (ct + 1), zj rt])) ov w' c s
      refine Zr_st (q := (108, [zp a0, zj x1, zj x2, zj x3, zj x4, zj x5], [zj x2, zj x1, zp (a0 + 1)])) rfl rfl rfl ?_
      show Zr sc 68 108 [zp a0, zj x1, zj x2, zj x3, zj x4, zj x5] [zj x2, zj x1, zp (a0 + 1)] ((w.set (a0 + 4) (za (zsi bp x5 x1))).set a0 (zob 0 [zp (a0 + 1), zp (a0 + 2), zp (a0 + 3), zp (a0 + 4), zj (ct + 1), zj rt])) ov w' c s
      obtain ⟨hi_12, h⟩ := h
      refine rl_is rfl (zw_o (by omega) (zw_o (by omega) L1)) hi_12.1 hi_12.2.1 hi_12.2.2 ?_
      show Zr sc 68 109 [zp a0, zj x1, zj x2, zj x3, zj x4, zj x5] [] (((w.set (a0 + 4) (za (zsi bp x5 x1))).set a0 (zob 0 [zp (a0 + 1), zp (a0 + 2), zp (a0 + 3), zp (a0 + 4), zj (ct + 1), zj rt])).set (a0 + 1) (za (zsi pl x1 x2))) ov w' c s
      refine Zr_st (q := (110, [zp a0, zj x1, zj x2, zj x3, zj x4, zj x5], [zp a0])) rfl rfl rfl ?_
      show Zr sc 68 110 [zp a0, zj x1, zj x2, zj x3, zj x4, zj x5] [zp a0] (((w.set (a0 + 4) (za (zsi bp x5 x1))).set a0 (zob 0 [zp (a0 + 1), zp (a0 + 2), zp (a0 + 3), zp (a0 + 4), zj (ct + 1), zj rt])).set (a0 + 1) (za (zsi pl x1 x2))) ov w' c s
      refine rl_gf rfl (zw_o (by omega) (zw_s (zw_o (by omega) L0))) rfl rfl ?_
      show Zr sc 68 113 [zp a0, zj x1, zj x2, zj x3, zj x4, zj x5] [zp (a0 + 2)] (((w.set (a0 + 4) (za (zsi bp x5 x1))).set a0 (zob 0 [zp (a0 + 1), zp (a0 + 2), zp (a0 + 3), zp (a0 + 4), zj (ct + 1), zj rt])).set (a0 + 1) (za (zsi pl x1 x2))) ov w' c s
      refine Zr_st (q := (114, [zp a0, zj x1, zj x2, zj x3, zj x4, zj x5], [zj x1, zp (a0 + 2)])) rfl rfl rfl ?_
      show Zr sc 68 114 [zp a0, zj x1, zj x2, zj x3, zj x4, zj x5] [zj x1, zp (a0 + 2)] (((w.set (a0 + 4) (za (zsi bp x5 x1))).set a0 (zob 0 [zp (a0 + 1), zp (a0 + 2), zp (a0 + 3), zp (a0 + 4), zj (ct + 1), zj rt])).set (a0 + 1) (za (zsi pl x1 x2))) ov w' c s
      refine Zr_st (q := (115, [zp a0, zj x1, zj x2, zj x3, zj x4, zj x5], [zj x3, zj x1, zp (a0 + 2)])) rfl rfl rfl ?_
      show Zr sc 68 115 [zp a0, zj x1, zj x2, zj x3, zj x4, zj x5] [zj x3, zj x1, zp (a0 + 2)] (((w.set (a0 + 4) (za (zsi bp x5 x1))).set a0 (zob 0 [zp (a0 + 1), zp (a0 + 2), zp (a0 + 3), zp (a0 + 4), zj (ct + 1), zj rt])).set (a0 + 1) (za (zsi pl x1 x2))) ov w' c s
      obtain ⟨hi_13, h⟩ := h
      refine rl_is rfl (zw_o (by omega) (zw_o (by omega) (zw_o (by omega) L2))) hi_13.1 hi_13.2.1 hi_13.2.2 ?_
      show Zr sc 68 116 [zp a0, zj x1, zj x2, zj x3, zj x4, zj x5] [] ((((w.set (a0 + 4) (za (zsi bp x5 x1))).set a0 (zob 0 [zp (a0 + 1), zp (a0 + 2), zp (a0 + 3), zp (a0 + 4), zj (ct + 1), zj rt])).set (a0 + 1) (za (zsi pl x1 x2))).set (a0 + 2) (za (zsi sz x1 x3))) ov w' c s
      refine Zr_st (q := (117, [zp a0, zj x1, zj x2, zj x3, zj x4, zj x5], [zp a0])) rfl rfl rfl ?_
      show Zr sc 68 117 [zp a0, zj x1, zj x2, zj x3, zj x4, zj x5] [zp a0] ((((w.set (a0 + 4) (za (zsi bp x5 x1))).set a0 (zob 0 [zp (a0 + 1), zp (a0 + 2), zp (a0 + 3), zp (a0 + 4), zj (ct + 1), zj rt])).set (a0 + 1) (za (zsi pl x1 x2))).set (a0 + 2) (za (zsi sz x1 x3))) ov w' c s
      refine rl_gf rfl (zw_o (by omega) (zw_o (by omega) (zw_s (zw_o (by omega) L0)))) rfl rfl ?_
      show Zr sc 68 120 [zp a0, zj x1, zj x2, zj x3, zj x4, zj x5] [zp (a0 + 3)] ((((w.set (a0 + 4) (za (zsi bp x5 x1))).set a0 (zob 0 [zp (a0 + 1), zp (a0 + 2), zp (a0 + 3), zp (a0 + 4), zj (ct + 1), zj rt])).set (a0 + 1) (za (zsi pl x1 x2))).set (a0 + 2) (za (zsi sz x1 x3))) ov w' c s
      refine Zr_st (q := (121, [zp a0, zj x1, zj x2, zj x3, zj x4, zj x5], [zj x1, zp (a0 + 3)])) rfl rfl rfl ?_
      show Zr sc 68 121 [zp a0, zj x1, zj x2, zj x3, zj x4, zj x5] [zj x1, zp (a0 + 3)] ((((w.set (a0 + 4) (za (zsi bp x5 x1))).set a0 (zob 0 [zp (a0 + 1), zp (a0 + 2), zp (a0 + 3), zp (a0 + 4), zj (ct + 1), zj rt])).set (a0 + 1) (za (zsi pl x1 x2))).set (a0 + 2) (za (zsi sz x1 x3))) ov w' c s
      refine Zr_st (q := (123, [zp a0, zj x1, zj x2, zj x3, zj x4, zj x5], [zj x4, zj x1, zp (a0 + 3)])) rfl rfl rfl ?_
      show Zr sc 68 123 [zp a0, zj x1, zj x2, zj x3, zj x4, zj x5] [zj x4, zj x1, zp (a0 + 3)] ((((w.set (a0 + 4) (za (zsi bp x5 x1))).set a0 (zob 0 [zp (a0 + 1), zp (a0 + 2), zp (a0 + 3), zp (a0 + 4), zj (ct + 1), zj rt])).set (a0 + 1) (za (zsi pl x1 x2))).set (a0 + 2) (za (zsi sz x1 x3))) ov w' c s
      obtain ⟨hi_14, h⟩ := h
      refine rl_is rfl (zw_o (by omega) (zw_o (by omega) (zw_o (by omega) (zw_o (by omega) L3)))) hi_14.1 hi_14.2.1 hi_14.2.2 ?_
      show Zr sc 68 124 [zp a0, zj x1, zj x2, zj x3, zj x4, zj x5] [] (((((w.set (a0 + 4) (za (zsi bp x5 x1))).set a0 (zob 0 [zp (a0 + 1), zp (a0 + 2), zp (a0 + 3), zp (a0 + 4), zj (ct + 1), zj rt])).set (a0 + 1) (za (zsi pl x1 x2))).set (a0 + 2) (za (zsi sz x1 x3))).set (a0 + 3) (za (zsi rm x1 x4))) ov w' c s
      refine Zr_st (q := (125, [zp a0, zj x1, zj x2, zj x3, zj x4, zj x5], [zp a0])) rfl rfl rfl ?_
      show Zr sc 68 125 [zp a0, zj x1, zj x2, zj x3, zj x4, zj x5] [zp a0] (((((w.set (a0 + 4) (za (zsi bp x5 x1))).set a0 (zob 0 [zp (a0 + 1), zp (a0 + 2), zp (a0 + 3), zp (a0 + 4), zj (ct + 1), zj rt])).set (a0 + 1) (za (zsi pl x1 x2))).set (a0 + 2) (za (zsi sz x1 x3))).set (a0 + 3) (za (zsi rm x1 x4))) ov w' c s
      refine Zr_st (q := (126, [zp a0, zj x1, zj x2, zj x3, zj x4, zj x5], [zp a0, zp a0])) rfl rfl rfl ?_
      show Zr sc 68 126 [zp a0, zj x1, zj x2, zj x3, zj x4, zj x5] [zp a0, zp a0] (((((w.set (a0 + 4) (za (zsi bp x5 x1))).set a0 (zob 0 [zp (a0 + 1), zp (a0 + 2), zp (a0 + 3), zp (a0 + 4), zj (ct + 1), zj rt])).set (a0 + 1) (za (zsi pl x1 x2))).set (a0 + 2) (za (zsi sz x1 x3))).set (a0 + 3) (za (zsi rm x1 x4))) ov w' c s
      refine rl_gf rfl (zw_o (by omega) (zw_o (by omega) (zw_o (by omega) (zw_s (zw_o (by omega) L0))))) rfl rfl ?_
      show Zr sc 68 129 [zp a0, zj x1, zj x2, zj x3, zj x4, zj x5] [zj rt, zp a0] (((((w.set (a0 + 4) (za (zsi bp x5 x1))).set a0 (zob 0 [zp (a0 + 1), zp (a0 + 2), zp (a0 + 3), zp (a0 + 4), zj (ct + 1), zj rt])).set (a0 + 1) (za (zsi pl x1 x2))).set (a0 + 2) (za (zsi sz x1 x3))).set (a0 + 3) (za (zsi rm x1 x4))) ov w' c s
      refine Zr_st (q := (131, [zp a0, zj x1, zj x2, zj x3, zj x4, zj x5], [zj x4, zj rt, zp a0])) rfl rfl rfl ?_
      show Zr sc 68 131 [zp a0, zj x1, zj x2, zj x3, zj x4, zj x5] [zj x4, zj rt, zp a0] (((((w.set (a0 + 4) (za (zsi bp x5 x1))).set a0 (zob 0 [zp (a0 + 1), zp (a0 + 2), zp (a0 + 3), zp (a0 + 4), zj (ct + 1), zj rt])).set (a0 + 1) (za (zsi pl x1 x2))).set (a0 + 2) (za (zsi sz x1 x3))).set (a0 + 3) (za (zsi rm x1 x4))) ov w' c s
      refine rl_add rfl ?_
      show Zr sc 68 132 [zp a0, zj x1, zj x2, zj x3, zj x4, zj x5] [zj (rt + x4), zp a0] (((((w.set (a0 + 4) (za (zsi bp x5 x1))).set a0 (zob 0 [zp (a0 + 1), zp (a0 + 2), zp (a0 + 3), zp (a0 + 4), zj (ct + 1), zj rt])).set (a0 + 1) (za (zsi pl x1 x2))).set (a0 + 2) (za (zsi sz x1 x3))).set (a0 + 3) (za (zsi rm x1 x4))) ov w' c s
      refine rl_pf rfl (zw_o (by omega) (zw_o (by omega) (zw_o (by omega) (zw_s (zw_o (by omega) L0))))) rfl rfl rfl ?_
      show Zr sc 68 135 [zp a0, zj x1, zj x2, zj x3, zj x4, zj x5] [] ((((((w.set (a0 + 4) (za (zsi bp x5 x1))).set a0 (zob 0 [zp (a0 + 1), zp (a0 + 2), zp (a0 + 3), zp (a0 + 4), zj (ct + 1), zj rt])).set (a0 + 1) (za (zsi pl x1 x2))).set (a0 + 2) (za (zsi sz x1 x3))).set (a0 + 3) (za (zsi rm x1 x4))).set a0 (zob 0 [zp (a0 + 1), zp (a0 + 2), zp (a0 + 3), zp (a0 + 4), zj (ct + 1), zj (rt + x4)])) ov w' c s
      obtain ⟨h1, h2, h3, h4⟩ := h
      subst h1; subst h2; subst h3; subst h4
      exact Zr_ret (ins := .return_) rfl rfl
    · replace h := h.2 hp
      show Zr sc 68 62 [zp a0, zj x1, zj x2, zj x3, zj x4, zj x5] [] w ov w' c s
      refine Zr_st (q := (63, [zp a0, zj x1, zj x2, zj x3, zj x4, zj x5], [zp a0])) rfl rfl rfl ?_
      show Zr sc 68 63 [zp a0, zj x1, zj x2, zj x3, zj x4, zj x5] [zp a0] w ov w' c s
      refine rl_gf rfl L0 rfl rfl ?_
      show Zr sc 68 66 [zp a0, zj x1, zj x2, zj x3, zj x4, zj x5] [zp (a0 + 4)] w ov w' c s
      refine Zr_st (q := (68, [zp a0, zj x1, zj x2, zj x3, zj x4, zj x5], [zj x5, zp (a0 + 4)])) rfl rfl rfl ?_
      show Zr sc 68 68 [zp a0, zj x1, zj x2, zj x3, zj x4, zj x5] [zj x5, zp (a0 + 4)] w ov w' c s
      refine Zr_st (q := (69, [zp a0, zj x1, zj x2, zj x3, zj x4, zj x5], [zp a0, zj x5, zp (a0 + 4)])) rfl rfl rfl ?_
      show Zr sc 68 69 [zp a0, zj x1, zj x2, zj x3, zj x4, zj x5] [zp a0, zj x5, zp (a0 + 4)] w ov w' c s
      refine rl_gf rfl L0 rfl rfl ?_
      show Zr sc 68 72 [zp a0, zj x1, zj x2, zj x3, zj x4, zj x5] [zp (a0 + 4), zj x5, zp (a0 + 4)] w ov w' c s
      refine Zr_st (q := (74, [zp a0, zj x1, zj x2, zj x3, zj x4, zj x5], [zj x5, zp (a0 + 4), zj x5, zp (a0 + 4)])) rfl rfl rfl ?_
      show Zr sc 68 74 [zp a0, zj x1, zj x2, zj x3, zj x4, zj x5] [zj x5, zp (a0 + 4), zj x5, zp (a0 + 4)] w ov w' c s
      refine rl_ic rfl ?_
      show Zr sc 68 75 [zp a0, zj x1, zj x2, zj x3, zj x4, zj x5] [zj 1, zj x5, zp (a0 + 4), zj x5, zp (a0 + 4)] w ov w' c s
      refine rl_sub rfl ?_
      show Zr sc 68 76 [zp a0, zj x1, zj x2, zj x3, zj x4, zj x5] [zj (x5 - 1), zp (a0 + 4), zj x5, zp (a0 + 4)] w ov w' c s
      obtain ⟨hi_15, h⟩ := h
      refine rl_ia rfl L4 hi_15.1 hi_15.2.1 hi_15.2.2 ?_
      show Zr sc 68 77 [zp a0, zj x1, zj x2, zj x3, zj x4, zj x5] [zj (zgi bp (x5 - 1)), zj x5, zp (a0 + 4)] w ov w' c s
      obtain ⟨hi_16, h⟩ := h
      refine rl_is rfl L4 hi_16.1 hi_16.2.1 hi_16.2.2 ?_
      show Zr sc 68 78 [zp a0, zj x1, zj x2, zj x3, zj x4, zj x5] [] (w.set (a0 + 4) (za (zsi bp x5 (zgi bp (x5 - 1))))) ov w' c s
      refine rl_inc rfl rfl rfl rfl ?_
      show Zr sc 68 81 [zp a0, zj x1, zj x2, zj x3, zj x4, zj (x5 + (-1))] [] (w.set (a0 + 4) (za (zsi bp x5 (zgi bp (x5 - 1))))) ov w' c s
      refine Zr_st (q := (40, [zp a0, zj x1, zj x2, zj x3, zj x4, zj (x5 + (-1))], [])) rfl rfl rfl ?_
      show Zr sc 68 40 [zp a0, zj x1, zj x2, zj x3, zj x4, zj (x5 + (-1))] [] (w.set (a0 + 4) (za (zsi bp x5 (zgi bp (x5 - 1))))) ov w' c s
      exact h

-- HeapwrightLab$Memory.layOut()V
set_option maxRecDepth 100000 in
theorem V69_0_1 {sc : List Value} {w w' : List zE} {ov : Option Value} {c s : Nat} {a0 : Nat} {wy : Int} {st : Int} {hd : Int} {hn : Int} {sn : Int} {nm : Int} {ar : Int} {pk : Int} {dn : Int} (L0 : w[a0]? = some (zob 1 [zp (a0 + 1), zp (a0 + 6), zj wy, zj st, zj hd, zj hn, zj sn, zp (a0 + 9), zp (a0 + 10), zj nm, zj ar, zj pk, zj dn])) (h : ((Zc sc 73 [zp a0] w none w 0 0) ∧ (∃ fs_4 : List Value, w[(a0 + 6)]? = some (zob 3 fs_4) ∧ (∃ w_5 : List zE, Zc sc 74 [zp (a0 + 6)] w none w_5 0 0 ∧ Zr sc 69 15 [zp a0, zj 0, zj 0, zmk] [] w_5 ov w' c s)))) : Zr sc 69 0 [zp a0, zmk, zmk, zmk] [] w ov w' c s := by
  refine Zr_st (q := (1, [zp a0, zmk, zmk, zmk], [zp a0])) rfl rfl rfl ?_
  show Zr sc 69 1 [zp a0, zmk, zmk, zmk] [zp a0] w ov w' c s
  obtain ⟨hk_9, h⟩ := h
  refine rn_cal0 (ins := .invokevirtual 148) (rest := []) rfl rfl rfl rfl (zinv_v (fs := _) L0 rfl rfl rfl rfl) rfl rfl hk_9 ?_
  show Zr sc 69 4 [zp a0, zmk, zmk, zmk] [] w ov w' c s
  refine Zr_st (q := (5, [zp a0, zmk, zmk, zmk], [zp a0])) rfl rfl rfl ?_
  show Zr sc 69 5 [zp a0, zmk, zmk, zmk] [zp a0] w ov w' c s
  refine rl_gf rfl L0 rfl rfl ?_
  show Zr sc 69 8 [zp a0, zmk, zmk, zmk] [zp (a0 + 6)] w ov w' c s
  obtain ⟨fs_4, hl_3, h⟩ := h
  obtain ⟨w_5, hk_6, h⟩ := h
  refine rn_cal0 (ins := .invokevirtual 151) (rest := []) rfl rfl rfl rfl (zinv_v (fs := _) hl_3 rfl rfl rfl rfl) rfl rfl hk_6 ?_
  show Zr sc 69 11 [zp a0, zmk, zmk, zmk] [] w_5 ov w' c s
  refine rl_ic rfl ?_
  show Zr sc 69 12 [zp a0, zmk, zmk, zmk] [zj 0] w_5 ov w' c s
  refine Zr_st (q := (13, [zp a0, zj 0, zmk, zmk], [])) rfl rfl rfl ?_
  show Zr sc 69 13 [zp a0, zj 0, zmk, zmk] [] w_5 ov w' c s
  refine rl_ic rfl ?_
  show Zr sc 69 14 [zp a0, zj 0, zmk, zmk] [zj 0] w_5 ov w' c s
  refine Zr_st (q := (15, [zp a0, zj 0, zj 0, zmk], [])) rfl rfl rfl ?_
  show Zr sc 69 15 [zp a0, zj 0, zj 0, zmk] [] w_5 ov w' c s
  exact h
set_option maxRecDepth 100000 in
theorem V69_15_1 {sc : List Value} {w w' : List zE} {ov : Option Value} {c s : Nat} {a0 : Nat} {x1 : Int} {x2 : Int} {v3 : Value} {wy : Int} {st : Int} {hd : Int} {hn : Int} {sn : Int} {nm : Int} {ar : Int} {pk : Int} {dn : Int} (L0 : w[a0]? = some (zob 1 [zp (a0 + 1), zp (a0 + 6), zj wy, zj st, zj hd, zj hn, zj sn, zp (a0 + 9), zp (a0 + 10), zj nm, zj ar, zj pk, zj dn])) (h : (∃ fs_2 : List Value, w[(a0 + 1)]? = some (zob 0 fs_2) ∧ (∃ r_5 : Int, Zc sc 18 [zp (a0 + 1)] w (some (zj r_5)) w 0 0 ∧ ((zrg x2 ∧ zrg r_5) ∧ ((r_5 ≤ x2 → (∃ w_7 : List zE, Zc sc 75 [zp a0, zj x1, zj 1024] w none w_7 0 0 ∧ (ov = none ∧ w' = w_7 ∧ c = 0 ∧ s = 0))) ∧ (¬ (r_5 ≤ x2) → (∃ r_11 : Int, Zc sc 72 [zp (a0 + 1), zj x2] w (some (zj r_11)) w 0 0 ∧ (∃ r_14 : Int, Zc sc 9 [zp (a0 + 1), zj r_11] w (some (zj r_14)) w 0 0 ∧ (∃ w_15 : List zE, Zc sc 75 [zp a0, zj x1, zj r_14] w none w_15 0 0 ∧ (∃ wy_18 : Int, ∃ st_19 : Int, ∃ hd_20 : Int, ∃ hn_21 : Int, ∃ sn_22 : Int, ∃ nm_23 : Int, ∃ ar_24 : Int, ∃ pk_25 : Int, ∃ dn_26 : Int, w_15[a0]? = some (zob 1 [zp (a0 + 1), zp (a0 + 6), zj wy_18, zj st_19, zj hd_20, zj hn_21, zj sn_22, zp (a0 + 9), zp (a0 + 10), zj nm_23, zj ar_24, zj pk_25, zj dn_26]) ∧ (∃ fs_28 : List Value, w_15[(a0 + 1)]? = some (zob 0 fs_28) ∧ (∃ r_31 : Int, Zc sc 16 [zp (a0 + 1), zj r_11] w_15 (some (zj r_31)) w_15 0 0 ∧ Zr sc 69 15 [zp a0, zj r_31, zj (x2 + 1), zj r_11] [] w_15 ov w' c s)))))))))))) : Zr sc 69 15 [zp a0, zj x1, zj x2, v3] [] w ov w' c s := by
  refine Zr_st (q := (16, [zp a0, zj x1, zj x2, v3], [zj x2])) rfl rfl rfl ?_
  show Zr sc 69 16 [zp a0, zj x1, zj x2, v3] [zj x2] w ov w' c s
  refine Zr_st (q := (17, [zp a0, zj x1, zj x2, v3], [zp a0, zj x2])) rfl rfl rfl ?_
  show Zr sc 69 17 [zp a0, zj x1, zj x2, v3] [zp a0, zj x2] w ov w' c s
  refine rl_gf rfl L0 rfl rfl ?_
  show Zr sc 69 20 [zp a0, zj x1, zj x2, v3] [zp (a0 + 1), zj x2] w ov w' c s
  obtain ⟨fs_2, hl_1, h⟩ := h
  obtain ⟨r_5, hk_9, h⟩ := h
  refine rn_cal0 (ins := .invokevirtual 152) (rest := [zj x2]) rfl rfl rfl rfl (zinv_v (fs := _) hl_1 rfl rfl rfl rfl) rfl rfl hk_9 ?_
  show Zr sc 69 23 [zp a0, zj x1, zj x2, v3] [zj r_5, zj x2] w ov w' c s
  obtain ⟨hr_6, h⟩ := h
  refine Zr_br (p := r_5 ≤ x2) rfl rfl (zcmp_j (cnd := .ge) hr_6.1 hr_6.2) (fun hp => ?_) (fun hp => ?_)
  · replace h := h.1 hp
    show Zr sc 69 63 [zp a0, zj x1, zj x2, v3] [] w ov w' c s
    refine Zr_st (q := (64, [zp a0, zj x1, zj x2, v3], [zp a0])) rfl rfl rfl ?_
    show Zr sc 69 64 [zp a0, zj x1, zj x2, v3] [zp a0] w ov w' c s
    refine Zr_st (q := (65, [zp a0, zj x1, zj x2, v3], [zj x1, zp a0])) rfl rfl rfl ?_
    show Zr sc 69 65 [zp a0, zj x1, zj x2, v3] [zj x1, zp a0] w ov w' c s
    refine rl_si rfl (by decide) ?_
    show Zr sc 69 68 [zp a0, zj x1, zj x2, v3] [zj 1024, zj x1, zp a0] w ov w' c s
    obtain ⟨w_7, hk_8, h⟩ := h
    refine rn_cal0 (ins := .invokevirtual 156) (rest := []) rfl rfl rfl rfl (zinv_v (fs := _) L0 rfl rfl rfl rfl) rfl rfl hk_8 ?_
    show Zr sc 69 71 [zp a0, zj x1, zj x2, v3] [] w_7 ov w' c s
    obtain ⟨h1, h2, h3, h4⟩ := h
    subst h1; subst h2; subst h3; subst h4
    exact Zr_ret (ins := .return_) rfl rfl
  · replace h := h.2 hp
    show Zr sc 69 26 [zp a0, zj x1, zj x2, v3] [] w ov w' c s
    refine Zr_st (q := (27, [zp a0, zj x1, zj x2, v3], [zp a0])) rfl rfl rfl ?_
    show Zr sc 69 27 [zp a0, zj x1, zj x2, v3] [zp a0] w ov w' c s
    refine rl_gf rfl L0 rfl rfl ?_
    show Zr sc 69 30 [zp a0, zj x1, zj x2, v3] [zp (a0 + 1)] w ov w' c s
    refine Zr_st (q := (31, [zp a0, zj x1, zj x2, v3], [zj x2, zp (a0 + 1)])) rfl rfl rfl ?_
    show Zr sc 69 31 [zp a0, zj x1, zj x2, v3] [zj x2, zp (a0 + 1)] w ov w' c s
    obtain ⟨r_11, hk_9, h⟩ := h
    refine rn_cal0 (ins := .invokevirtual 153) (rest := []) rfl rfl rfl rfl (zinv_v (fs := _) hl_1 rfl rfl rfl rfl) rfl rfl hk_9 ?_
    show Zr sc 69 34 [zp a0, zj x1, zj x2, v3] [zj r_11] w ov w' c s
    refine Zr_st (q := (35, [zp a0, zj x1, zj x2, zj r_11], [])) rfl rfl rfl ?_
    show Zr sc 69 35 [zp a0, zj x1, zj x2, zj r_11] [] w ov w' c s
    refine Zr_st (q := (36, [zp a0, zj x1, zj x2, zj r_11], [zp a0])) rfl rfl rfl ?_
    show Zr sc 69 36 [zp a0, zj x1, zj x2, zj r_11] [zp a0] w ov w' c s
    refine Zr_st (q := (37, [zp a0, zj x1, zj x2, zj r_11], [zj x1, zp a0])) rfl rfl rfl ?_
    show Zr sc 69 37 [zp a0, zj x1, zj x2, zj r_11] [zj x1, zp a0] w ov w' c s
    refine Zr_st (q := (38, [zp a0, zj x1, zj x2, zj r_11], [zp a0, zj x1, zp a0])) rfl rfl rfl ?_
    show Zr sc 69 38 [zp a0, zj x1, zj x2, zj r_11] [zp a0, zj x1, zp a0] w ov w' c s
    refine rl_gf rfl L0 rfl rfl ?_
    show Zr sc 69 41 [zp a0, zj x1, zj x2, zj r_11] [zp (a0 + 1), zj x1, zp a0] w ov w' c s
    refine Zr_st (q := (42, [zp a0, zj x1, zj x2, zj r_11], [zj r_11, zp (a0 + 1), zj x1, zp a0])) rfl rfl rfl ?_
    show Zr sc 69 42 [zp a0, zj x1, zj x2, zj r_11] [zj r_11, zp (a0 + 1), zj x1, zp a0] w ov w' c s
    obtain ⟨r_14, hk_9, h⟩ := h
    refine rn_cal0 (ins := .invokevirtual 136) (rest := [zj x1, zp a0]) rfl rfl rfl rfl (zinv_v (fs := _) hl_1 rfl rfl rfl rfl) rfl rfl hk_9 ?_
    show Zr sc 69 45 [zp a0, zj x1, zj x2, zj r_11] [zj r_14, zj x1, zp a0] w ov w' c s
    obtain ⟨w_15, hk_16, h⟩ := h
    refine rn_cal0 (ins := .invokevirtual 156) (rest := []) rfl rfl rfl rfl (zinv_v (fs := _) L0 rfl rfl rfl rfl) rfl rfl hk_16 ?_
    show Zr sc 69 48 [zp a0, zj x1, zj x2, zj r_11] [] w_15 ov w' c s
    refine Zr_st (q := (49, [zp a0, zj x1, zj x2, zj r_11], [zp a0])) rfl rfl rfl ?_
    show Zr sc 69 49 [zp a0, zj x1, zj x2, zj r_11] [zp a0] w_15 ov w' c s
    obtain ⟨wy_18, st_19, hd_20, hn_21, sn_22, nm_23, ar_24, pk_25, dn_26, hw_17, h⟩ := h
    refine rl_gf rfl hw_17 rfl rfl ?_
    show Zr sc 69 52 [zp a0, zj x1, zj x2, zj r_11] [zp (a0 + 1)] w_15 ov w' c s
    refine Zr_st (q := (53, [zp a0, zj x1, zj x2, zj r_11], [zj r_11, zp (a0 + 1)])) rfl rfl rfl ?_
    show Zr sc 69 53 [zp a0, zj x1, zj x2, zj r_11] [zj r_11, zp (a0 + 1)] w_15 ov w' c s
    obtain ⟨fs_28, hl_27, h⟩ := h
    obtain ⟨r_31, hk_9, h⟩ := h
    refine rn_cal0 (ins := .invokevirtual 159) (rest := []) rfl rfl rfl rfl (zinv_v (fs := _) hl_27 rfl rfl rfl rfl) rfl rfl hk_9 ?_
    show Zr sc 69 56 [zp a0, zj x1, zj x2, zj r_11] [zj r_31] w_15 ov w' c s
    refine Zr_st (q := (57, [zp a0, zj r_31, zj x2, zj r_11], [])) rfl rfl rfl ?_
    show Zr sc 69 57 [zp a0, zj r_31, zj x2, zj r_11] [] w_15 ov w' c s
    refine rl_inc rfl rfl rfl rfl ?_
    show Zr sc 69 60 [zp a0, zj r_31, zj (x2 + 1), zj r_11] [] w_15 ov w' c s
    refine Zr_st (q := (15, [zp a0, zj r_31, zj (x2 + 1), zj r_11], [])) rfl rfl rfl ?_
    show Zr sc 69 15 [zp a0, zj r_31, zj (x2 + 1), zj r_11] [] w_15 ov w' c s
    exact h

-- HeapwrightLab$Memory.layOut()V
set_option maxRecDepth 100000 in
theorem V69_0_2 {sc : List Value} {w w' : List zE} {ov : Option Value} {c s : Nat} {a0 : Nat} {wy : Int} {st : Int} {hd : Int} {hn : Int} {sn : Int} {nm : Int} {ar : Int} {pk : Int} {dn : Int} (L0 : w[a0]? = some (zob 2 [zp (a0 + 1), zp (a0 + 6), zj wy, zj st, zj hd, zj hn, zj sn, zp (a0 + 9), zp (a0 + 10), zj nm, zj ar, zj pk, zj dn])) (h : ((Zc sc 73 [zp a0] w none w 0 0) ∧ (∃ fs_4 : List Value, w[(a0 + 6)]? = some (zob 3 fs_4) ∧ (∃ w_5 : List zE, Zc sc 74 [zp (a0 + 6)] w none w_5 0 0 ∧ Zr sc 69 15 [zp a0, zj 0, zj 0, zmk] [] w_5 ov w' c s)))) : Zr sc 69 0 [zp a0, zmk, zmk, zmk] [] w ov w' c s := by
  refine Zr_st (q := (1, [zp a0, zmk, zmk, zmk], [zp a0])) rfl rfl rfl ?_
  show Zr sc 69 1 [zp a0, zmk, zmk, zmk] [zp a0] w ov w' c s
  obtain ⟨hk_9, h⟩ := h
  refine rn_cal0 (ins := .invokevirtual 148) (rest := []) rfl rfl rfl rfl (zinv_v (fs := _) L0 rfl rfl rfl rfl) rfl rfl hk_9 ?_
  show Zr sc 69 4 [zp a0, zmk, zmk, zmk] [] w ov w' c s
  refine Zr_st (q := (5, [zp a0, zmk, zmk, zmk], [zp a0])) rfl rfl rfl ?_
  show Zr sc 69 5 [zp a0, zmk, zmk, zmk] [zp a0] w ov w' c s
  refine rl_gf rfl L0 rfl rfl ?_
  show Zr sc 69 8 [zp a0, zmk, zmk, zmk] [zp (a0 + 6)] w ov w' c s
  obtain ⟨fs_4, hl_3, h⟩ := h
  obtain ⟨w_5, hk_6, h⟩ := h
  refine rn_cal0 (ins := .invokevirtual 151) (rest := []) rfl rfl rfl rfl (zinv_v (fs := _) hl_3 rfl rfl rfl rfl) rfl rfl hk_6 ?_
  show Zr sc 69 11 [zp a0, zmk, zmk, zmk] [] w_5 ov w' c s
  refine rl_ic rfl ?_
  show Zr sc 69 12 [zp a0, zmk, zmk, zmk] [zj 0] w_5 ov w' c s
  refine Zr_st (q := (13, [zp a0, zj 0, zmk, zmk], [])) rfl rfl rfl ?_
  show Zr sc 69 13 [zp a0, zj 0, zmk, zmk] [] w_5 ov w' c s
  refine rl_ic rfl ?_
  show Zr sc 69 14 [zp a0, zj 0, zmk, zmk] [zj 0] w_5 ov w' c s
  refine Zr_st (q := (15, [zp a0, zj 0, zj 0, zmk], [])) rfl rfl rfl ?_
  show Zr sc 69 15 [zp a0, zj 0, zj 0, zmk] [] w_5 ov w' c s
  exact h
set_option maxRecDepth 100000 in
theorem V69_15_2 {sc : List Value} {w w' : List zE} {ov : Option Value} {c s : Nat} {a0 : Nat} {x1 : Int} {x2 : Int} {v3 : Value} {wy : Int} {st : Int} {hd : Int} {hn : Int} {sn : Int} {nm : Int} {ar : Int} {pk : Int} {dn : Int} (L0 : w[a0]? = some (zob 2 [zp (a0 + 1), zp (a0 + 6), zj wy, zj st, zj hd, zj hn, zj sn, zp (a0 + 9), zp (a0 + 10), zj nm, zj ar, zj pk, zj dn])) (h : (∃ fs_2 : List Value, w[(a0 + 1)]? = some (zob 0 fs_2) ∧ (∃ r_5 : Int, Zc sc 18 [zp (a0 + 1)] w (some (zj r_5)) w 0 0 ∧ ((zrg x2 ∧ zrg r_5) ∧ ((r_5 ≤ x2 → (∃ w_7 : List zE, Zc sc 78 [zp a0, zj x1, zj 1024] w none w_7 0 0 ∧ (ov = none ∧ w' = w_7 ∧ c = 0 ∧ s = 0))) ∧ (¬ (r_5 ≤ x2) → (∃ r_11 : Int, Zc sc 72 [zp (a0 + 1), zj x2] w (some (zj r_11)) w 0 0 ∧ (∃ r_14 : Int, Zc sc 9 [zp (a0 + 1), zj r_11] w (some (zj r_14)) w 0 0 ∧ (∃ w_15 : List zE, Zc sc 78 [zp a0, zj x1, zj r_14] w none w_15 0 0 ∧ (∃ wy_18 : Int, ∃ st_19 : Int, ∃ hd_20 : Int, ∃ hn_21 : Int, ∃ sn_22 : Int, ∃ nm_23 : Int, ∃ ar_24 : Int, ∃ pk_25 : Int, ∃ dn_26 : Int, w_15[a0]? = some (zob 2 [zp (a0 + 1), zp (a0 + 6), zj wy_18, zj st_19, zj hd_20, zj hn_21, zj sn_22, zp (a0 + 9), zp (a0 + 10), zj nm_23, zj ar_24, zj pk_25, zj dn_26]) ∧ (∃ fs_28 : List Value, w_15[(a0 + 1)]? = some (zob 0 fs_28) ∧ (∃ r_31 : Int, Zc sc 16 [zp (a0 + 1), zj r_11] w_15 (some (zj r_31)) w_15 0 0 ∧ Zr sc 69 15 [zp a0, zj r_31, zj (x2 + 1), zj r_11] [] w_15 ov w' c s)))))))))))) : Zr sc 69 15 [zp a0, zj x1, zj x2, v3] [] w ov w' c s := by
  refine Zr_st (q := (16, [zp a0, zj x1, zj x2, v3], [zj x2])) rfl rfl rfl ?_
  show Zr sc 69 16 [zp a0, zj x1, zj x2, v3] [zj x2] w ov w' c s
  refine Zr_st (q := (17, [zp a0, zj x1, zj x2, v3], [zp a0, zj x2])) rfl rfl rfl ?_
  show Zr sc 69 17 [zp a0, zj x1, zj x2, v3] [zp a0, zj x2] w ov w' c s
  refine rl_gf rfl L0 rfl rfl ?_
  show Zr sc 69 20 [zp a0, zj x1, zj x2, v3] [zp (a0 + 1), zj x2] w ov w' c s
  obtain ⟨fs_2, hl_1, h⟩ := h
  obtain ⟨r_5, hk_9, h⟩ := h
  refine rn_cal0 (ins := .invokevirtual 152) (rest := [zj x2]) rfl rfl rfl rfl (zinv_v (fs := _) hl_1 rfl rfl rfl rfl) rfl rfl hk_9 ?_
  show Zr sc 69 23 [zp a0, zj x1, zj x2, v3] [zj r_5, zj x2] w ov w' c s
  obtain ⟨hr_6, h⟩ := h
  refine Zr_br (p := r_5 ≤ x2) rfl rfl (zcmp_j (cnd := .ge) hr_6.1 hr_6.2) (fun hp => ?_) (fun hp => ?_)
  · replace h := h.1 hp
    show Zr sc 69 63 [zp a0, zj x1, zj x2, v3] [] w ov w' c s
    refine Zr_st (q := (64, [zp a0, zj x1, zj x2, v3], [zp a0])) rfl rfl rfl ?_
    show Zr sc 69 64 [zp a0, zj x1, zj x2, v3] [zp a0] w ov w' c s
    refine Zr_st (q := (65, [zp a0, zj x1, zj x2, v3], [zj x1, zp a0])) rfl rfl rfl ?_
    show Zr sc 69 65 [zp a0, zj x1, zj x2, v3] [zj x1, zp a0] w ov w' c s
    refine rl_si rfl (by decide) ?_
    show Zr sc 69 68 [zp a0, zj x1, zj x2, v3] [zj 1024, zj x1, zp a0] w ov w' c s
    obtain ⟨w_7, hk_8, h⟩ := h
    refine rn_cal0 (ins := .invokevirtual 156) (rest := []) rfl rfl rfl rfl (zinv_v (fs := _) L0 rfl rfl rfl rfl) rfl rfl hk_8 ?_
    show Zr sc 69 71 [zp a0, zj x1, zj x2, v3] [] w_7 ov w' c s
    obtain ⟨h1, h2, h3, h4⟩ := h
    subst h1; subst h2; subst h3; subst h4
    exact Zr_ret (ins := .return_) rfl rfl
  · replace h := h.2 hp
    show Zr sc 69 26 [zp a0, zj x1, zj x2, v3] [] w ov w' c s
    refine Zr_st (q := (27, [zp a0, zj x1, zj x2, v3], [zp a0])) rfl rfl rfl ?_
    show Zr sc 69 27 [zp a0, zj x1, zj x2, v3] [zp a0] w ov w' c s
    refine rl_gf rfl L0 rfl rfl ?_
    show Zr sc 69 30 [zp a0, zj x1, zj x2, v3] [zp (a0 + 1)] w ov w' c s
    refine Zr_st (q := (31, [zp a0, zj x1, zj x2, v3], [zj x2, zp (a0 + 1)])) rfl rfl rfl ?_
    show Zr sc 69 31 [zp a0, zj x1, zj x2, v3] [zj x2, zp (a0 + 1)] w ov w' c s
    obtain ⟨r_11, hk_9, h⟩ := h
    refine rn_cal0 (ins := .invokevirtual 153) (rest := []) rfl rfl rfl rfl (zinv_v (fs := _) hl_1 rfl rfl rfl rfl) rfl rfl hk_9 ?_
    show Zr sc 69 34 [zp a0, zj x1, zj x2, v3] [zj r_11] w ov w' c s
    refine Zr_st (q := (35, [zp a0, zj x1, zj x2, zj r_11], [])) rfl rfl rfl ?_
    show Zr sc 69 35 [zp a0, zj x1, zj x2, zj r_11] [] w ov w' c s
    refine Zr_st (q := (36, [zp a0, zj x1, zj x2, zj r_11], [zp a0])) rfl rfl rfl ?_
    show Zr sc 69 36 [zp a0, zj x1, zj x2, zj r_11] [zp a0] w ov w' c s
    refine Zr_st (q := (37, [zp a0, zj x1, zj x2, zj r_11], [zj x1, zp a0])) rfl rfl rfl ?_
    show Zr sc 69 37 [zp a0, zj x1, zj x2, zj r_11] [zj x1, zp a0] w ov w' c s
    refine Zr_st (q := (38, [zp a0, zj x1, zj x2, zj r_11], [zp a0, zj x1, zp a0])) rfl rfl rfl ?_
    show Zr sc 69 38 [zp a0, zj x1, zj x2, zj r_11] [zp a0, zj x1, zp a0] w ov w' c s
    refine rl_gf rfl L0 rfl rfl ?_
    show Zr sc 69 41 [zp a0, zj x1, zj x2, zj r_11] [zp (a0 + 1), zj x1, zp a0] w ov w' c s
    refine Zr_st (q := (42, [zp a0, zj x1, zj x2, zj r_11], [zj r_11, zp (a0 + 1), zj x1, zp a0])) rfl rfl rfl ?_
    show Zr sc 69 42 [zp a0, zj x1, zj x2, zj r_11] [zj r_11, zp (a0 + 1), zj x1, zp a0] w ov w' c s
    obtain ⟨r_14, hk_9, h⟩ := h
    refine rn_cal0 (ins := .invokevirtual 136) (rest := [zj x1, zp a0]) rfl rfl rfl rfl (zinv_v (fs := _) hl_1 rfl rfl rfl rfl) rfl rfl hk_9 ?_
    show Zr sc 69 45 [zp a0, zj x1, zj x2, zj r_11] [zj r_14, zj x1, zp a0] w ov w' c s
    obtain ⟨w_15, hk_16, h⟩ := h
    refine rn_cal0 (ins := .invokevirtual 156) (rest := []) rfl rfl rfl rfl (zinv_v (fs := _) L0 rfl rfl rfl rfl) rfl rfl hk_16 ?_
    show Zr sc 69 48 [zp a0, zj x1, zj x2, zj r_11] [] w_15 ov w' c s
    refine Zr_st (q := (49, [zp a0, zj x1, zj x2, zj r_11], [zp a0])) rfl rfl rfl ?_
    show Zr sc 69 49 [zp a0, zj x1, zj x2, zj r_11] [zp a0] w_15 ov w' c s
    obtain ⟨wy_18, st_19, hd_20, hn_21, sn_22, nm_23, ar_24, pk_25, dn_26, hw_17, h⟩ := h
    refine rl_gf rfl hw_17 rfl rfl ?_
    show Zr sc 69 52 [zp a0, zj x1, zj x2, zj r_11] [zp (a0 + 1)] w_15 ov w' c s
    refine Zr_st (q := (53, [zp a0, zj x1, zj x2, zj r_11], [zj r_11, zp (a0 + 1)])) rfl rfl rfl ?_
    show Zr sc 69 53 [zp a0, zj x1, zj x2, zj r_11] [zj r_11, zp (a0 + 1)] w_15 ov w' c s
    obtain ⟨fs_28, hl_27, h⟩ := h
    obtain ⟨r_31, hk_9, h⟩ := h
    refine rn_cal0 (ins := .invokevirtual 159) (rest := []) rfl rfl rfl rfl (zinv_v (fs := _) hl_27 rfl rfl rfl rfl) rfl rfl hk_9 ?_
    show Zr sc 69 56 [zp a0, zj x1, zj x2, zj r_11] [zj r_31] w_15 ov w' c s
    refine Zr_st (q := (57, [zp a0, zj r_31, zj x2, zj r_11], [])) rfl rfl rfl ?_
    show Zr sc 69 57 [zp a0, zj r_31, zj x2, zj r_11] [] w_15 ov w' c s
    refine rl_inc rfl rfl rfl rfl ?_
    show Zr sc 69 60 [zp a0, zj r_31, zj (x2 + 1), zj r_11] [] w_15 ov w' c s
    refine Zr_st (q := (15, [zp a0, zj r_31, zj (x2 + 1), zj r_11], [])) rfl rfl rfl ?_
    show Zr sc 69 15 [zp a0, zj r_31, zj (x2 + 1), zj r_11] [] w_15 ov w' c s
    exact h

-- HeapwrightLab$Memory.layOut()V
set_option maxRecDepth 100000 in
theorem V69_0_4 {sc : List Value} {w w' : List zE} {ov : Option Value} {c s : Nat} {a0 : Nat} {wy : Int} {st : Int} {hd : Int} {hn : Int} {sn : Int} {nm : Int} {ar : Int} {pk : Int} {dn : Int} (L0 : w[a0]? = some (zob 4 [zp (a0 + 1), zp (a0 + 6), zj wy, zj st, zj hd, zj hn, zj sn, zp (a0 + 9), zp (a0 + 10), zj nm, zj ar, zj pk, zj dn, zp (a0 + 11)])) (h : (∃ w_1 : List zE, Zc sc 70 [zp a0] w none w_1 0 0 ∧ (∃ wy_4 : Int, ∃ st_5 : Int, ∃ hd_6 : Int, ∃ hn_7 : Int, ∃ sn_8 : Int, ∃ nm_9 : Int, ∃ ar_10 : Int, ∃ pk_11 : Int, ∃ dn_12 : Int, w_1[a0]? = some (zob 4 [zp (a0 + 1), zp (a0 + 6), zj wy_4, zj st_5, zj hd_6, zj hn_7, zj sn_8, zp (a0 + 9), zp (a0 + 10), zj nm_9, zj ar_10, zj pk_11, zj dn_12, zp (a0 + 11)]) ∧ (∃ fs_14 : List Value, w_1[(a0 + 6)]? = some (zob 3 fs_14) ∧ (∃ w_15 : List zE, Zc sc 74 [zp (a0 + 6)] w_1 none w_15 0 0 ∧ Zr sc 69 15 [zp a0, zj 0, zj 0, zmk] [] w_15 ov w' c s))))) : Zr sc 69 0 [zp a0, zmk, zmk, zmk] [] w ov w' c s := by
  refine Zr_st (q := (1, [zp a0, zmk, zmk, zmk], [zp a0])) rfl rfl rfl ?_
  show Zr sc 69 1 [zp a0, zmk, zmk, zmk] [zp a0] w ov w' c s
  obtain ⟨w_1, hk_2, h⟩ := h
  refine rn_cal0 (ins := .invokevirtual 148) (rest := []) rfl rfl rfl rfl (zinv_v (fs := _) L0 rfl rfl rfl rfl) rfl rfl hk_2 ?_
  show Zr sc 69 4 [zp a0, zmk, zmk, zmk] [] w_1 ov w' c s
  refine Zr_st (q := (5, [zp a0, zmk, zmk, zmk], [zp a0])) rfl rfl rfl ?_
  show Zr sc 69 5 [zp a0, zmk, zmk, zmk] [zp a0] w_1 ov w' c s
  obtain ⟨wy_4, st_5, hd_6, hn_7, sn_8, nm_9, ar_10, pk_11, dn_12, hw_3, h⟩ := h
  refine rl_gf rfl hw_3 rfl rfl ?_
  show Zr sc 69 8 [zp a0, zmk, zmk, zmk] [zp (a0 + 6)] w_1 ov w' c s
  obtain ⟨fs_14, hl_13, h⟩ := h
  obtain ⟨w_15, hk_16, h⟩ := h
  refine rn_cal0 (ins := .invokevirtual 151) (rest := []) rfl rfl rfl rfl (zinv_v (fs := _) hl_13 rfl rfl rfl rfl) rfl rfl hk_16 ?_
  show Zr sc 69 11 [zp a0, zmk, zmk, zmk] [] w_15 ov w' c s
  refine rl_ic rfl ?_
  show Zr sc 69 12 [zp a0, zmk, zmk, zmk] [zj 0] w_15 ov w' c s
  refine Zr_st (q := (13, [zp a0, zj 0, zmk, zmk], [])) rfl rfl rfl ?_
  show Zr sc 69 13 [zp a0, zj 0, zmk, zmk] [] w_15 ov w' c s
  refine rl_ic rfl ?_
  show Zr sc 69 14 [zp a0, zj 0, zmk, zmk] [zj 0] w_15 ov w' c s
  refine Zr_st (q := (15, [zp a0, zj 0, zj 0, zmk], [])) rfl rfl rfl ?_
  show Zr sc 69 15 [zp a0, zj 0, zj 0, zmk] [] w_15 ov w' c s
  exact h
set_option maxRecDepth 100000 in
theorem V69_15_4 {sc : List Value} {w w' : List zE} {ov : Option Value} {c s : Nat} {a0 : Nat} {x1 : Int} {x2 : Int} {v3 : Value} {wy : Int} {st : Int} {hd : Int} {hn : Int} {sn : Int} {nm : Int} {ar : Int} {pk : Int} {dn : Int} (L0 : w[a0]? = some (zob 4 [zp (a0 + 1), zp (a0 + 6), zj wy, zj st, zj hd, zj hn, zj sn, zp (a0 + 9), zp (a0 + 10), zj nm, zj ar, zj pk, zj dn, zp (a0 + 11)])) (h : (∃ fs_2 : List Value, w[(a0 + 1)]? = some (zob 0 fs_2) ∧ (∃ r_5 : Int, Zc sc 18 [zp (a0 + 1)] w (some (zj r_5)) w 0 0 ∧ ((zrg x2 ∧ zrg r_5) ∧ ((r_5 ≤ x2 → (∃ w_7 : List zE, Zc sc 79 [zp a0, zj x1, zj 1024] w none w_7 0 0 ∧ (ov = none ∧ w' = w_7 ∧ c = 0 ∧ s = 0))) ∧ (¬ (r_5 ≤ x2) → (∃ r_11 : Int, Zc sc 72 [zp (a0 + 1), zj x2] w (some (zj r_11)) w 0 0 ∧ (∃ r_14 : Int, Zc sc 9 [zp (a0 + 1), zj r_11] w (some (zj r_14)) w 0 0 ∧ (∃ w_15 : List zE, Zc sc 79 [zp a0, zj x1, zj r_14] w none w_15 0 0 ∧ (∃ wy_18 : Int, ∃ st_19 : Int, ∃ hd_20 : Int, ∃ hn_21 : Int, ∃ sn_22 : Int, ∃ nm_23 : Int, ∃ ar_24 : Int, ∃ pk_25 : Int, ∃ dn_26 : Int, w_15[a0]? = some (zob 4 [zp (a0 + 1), zp (a0 + 6), zj wy_18, zj st_19, zj hd_20, zj hn_21, zj sn_22, zp (a0 + 9), zp (a0 + 10), zj nm_23, zj ar_24, zj pk_25, zj dn_26, zp (a0 + 11)]) ∧ (∃ fs_28 : List Value, w_15[(a0 + 1)]? = some (zob 0 fs_28) ∧ (∃ r_31 : Int, Zc sc 16 [zp (a0 + 1), zj r_11] w_15 (some (zj r_31)) w_15 0 0 ∧ Zr sc 69 15 [zp a0, zj r_31, zj (x2 + 1), zj r_11] [] w_15 ov w' c s)))))))))))) : Zr sc 69 15 [zp a0, zj x1, zj x2, v3] [] w ov w' c s := by
  refine Zr_st (q := (16, [zp a0, zj x1, zj x2, v3], [zj x2])) rfl rfl rfl ?_
  show Zr sc 69 16 [zp a0, zj x1, zj x2, v3] [zj x2] w ov w' c s
  refine Zr_st (q := (17, [zp a0, zj x1, zj x2, v3], [zp a0, zj x2])) rfl rfl rfl ?_
  show Zr sc 69 17 [zp a0, zj x1, zj x2, v3] [zp a0, zj x2] w ov w' c s
  refine rl_gf rfl L0 rfl rfl ?_
  show Zr sc 69 20 [zp a0, zj x1, zj x2, v3] [zp (a0 + 1), zj x2] w ov w' c s
  obtain ⟨fs_2, hl_1, h⟩ := h
  obtain ⟨r_5, hk_9, h⟩ := h
  refine rn_cal0 (ins := .invokevirtual 152) (rest := [zj x2]) rfl rfl rfl rfl (zinv_v (fs := _) hl_1 rfl rfl rfl rfl) rfl rfl hk_9 ?_
  show Zr sc 69 23 [zp a0, zj x1, zj x2, v3] [zj r_5, zj x2] w ov w' c s
  obtain ⟨hr_6, h⟩ := h
  refine Zr_br (p := r_5 ≤ x2) rfl rfl (zcmp_j (cnd := .ge) hr_6.1 hr_6.2) (fun hp => ?_) (fun hp => ?_)
  · replace h := h.1 hp
    show Zr sc 69 63 [zp a0, zj x1, zj x2, v3] [] w ov w' c s
    refine Zr_st (q := (64, [zp a0, zj x1, zj x2, v3], [zp a0])) rfl rfl rfl ?_
    show Zr sc 69 64 [zp a0, zj x1, zj x2, v3] [zp a0] w ov w' c s
    refine Zr_st (q := (65, [zp a0, zj x1, zj x2, v3], [zj x1, zp a0])) rfl rfl rfl ?_
    show Zr sc 69 65 [zp a0, zj x1, zj x2, v3] [zj x1, zp a0] w ov w' c s
    refine rl_si rfl (by decide) ?_
    show Zr sc 69 68 [zp a0, zj x1, zj x2, v3] [zj 1024, zj x1, zp a0] w ov w' c s
    obtain ⟨w_7, hk_8, h⟩ := h
    refine rn_cal0 (ins := .invokevirtual 156) (rest := []) rfl rfl rfl rfl (zinv_v (fs := _) L0 rfl rfl rfl rfl) rfl rfl hk_8 ?_
    show Zr sc 69 71 [zp a0, zj x1, zj x2, v3] [] w_7 ov w' c s
    obtain ⟨h1, h2, h3, h4⟩ := h
    subst h1; subst h2; subst h3; subst h4
    exact Zr_ret (ins := .return_) rfl rfl
  · replace h := h.2 hp
    show Zr sc 69 26 [zp a0, zj x1, zj x2, v3] [] w ov w' c s
    refine Zr_st (q := (27, [zp a0, zj x1, zj x2, v3], [zp a0])) rfl rfl rfl ?_
    show Zr sc 69 27 [zp a0, zj x1, zj x2, v3] [zp a0] w ov w' c s
    refine rl_gf rfl L0 rfl rfl ?_
    show Zr sc 69 30 [zp a0, zj x1, zj x2, v3] [zp (a0 + 1)] w ov w' c s
    refine Zr_st (q := (31, [zp a0, zj x1, zj x2, v3], [zj x2, zp (a0 + 1)])) rfl rfl rfl ?_
    show Zr sc 69 31 [zp a0, zj x1, zj x2, v3] [zj x2, zp (a0 + 1)] w ov w' c s
    obtain ⟨r_11, hk_9, h⟩ := h
    refine rn_cal0 (ins := .invokevirtual 153) (rest := []) rfl rfl rfl rfl (zinv_v (fs := _) hl_1 rfl rfl rfl rfl) rfl rfl hk_9 ?_
    show Zr sc 69 34 [zp a0, zj x1, zj x2, v3] [zj r_11] w ov w' c s
    refine Zr_st (q := (35, [zp a0, zj x1, zj x2, zj r_11], [])) rfl rfl rfl ?_
    show Zr sc 69 35 [zp a0, zj x1, zj x2, zj r_11] [] w ov w' c s
    refine Zr_st (q := (36, [zp a0, zj x1, zj x2, zj r_11], [zp a0])) rfl rfl rfl ?_
    show Zr sc 69 36 [zp a0, zj x1, zj x2, zj r_11] [zp a0] w ov w' c s
    refine Zr_st (q := (37, [zp a0, zj x1, zj x2, zj r_11], [zj x1, zp a0])) rfl rfl rfl ?_
    show Zr sc 69 37 [zp a0, zj x1, zj x2, zj r_11] [zj x1, zp a0] w ov w' c s
    refine Zr_st (q := (38, [zp a0, zj x1, zj x2, zj r_11], [zp a0, zj x1, zp a0])) rfl rfl rfl ?_
    show Zr sc 69 38 [zp a0, zj x1, zj x2, zj r_11] [zp a0, zj x1, zp a0] w ov w' c s
    refine rl_gf rfl L0 rfl rfl ?_
    show Zr sc 69 41 [zp a0, zj x1, zj x2, zj r_11] [zp (a0 + 1), zj x1, zp a0] w ov w' c s
    refine Zr_st (q := (42, [zp a0, zj x1, zj x2, zj r_11], [zj r_11, zp (a0 + 1), zj x1, zp a0])) rfl rfl rfl ?_
    show Zr sc 69 42 [zp a0, zj x1, zj x2, zj r_11] [zj r_11, zp (a0 + 1), zj x1, zp a0] w ov w' c s
    obtain ⟨r_14, hk_9, h⟩ := h
    refine rn_cal0 (ins := .invokevirtual 136) (rest := [zj x1, zp a0]) rfl rfl rfl rfl (zinv_v (fs := _) hl_1 rfl rfl rfl rfl) rfl rfl hk_9 ?_
    show Zr sc 69 45 [zp a0, zj x1, zj x2, zj r_11] [zj r_14, zj x1, zp a0] w ov w' c s
    obtain ⟨w_15, hk_16, h⟩ := h
    refine rn_cal0 (ins := .invokevirtual 156) (rest := []) rfl rfl rfl rfl (zinv_v (fs := _) L0 rfl rfl rfl rfl) rfl rfl hk_16 ?_
    show Zr sc 69 48 [zp a0, zj x1, zj x2, zj r_11] [] w_15 ov w' c s
    refine Zr_st (q := (49, [zp a0, zj x1, zj x2, zj r_11], [zp a0])) rfl rfl rfl ?_
    show Zr sc 69 49 [zp a0, zj x1, zj x2, zj r_11] [zp a0] w_15 ov w' c s
    obtain ⟨wy_18, st_19, hd_20, hn_21, sn_22, nm_23, ar_24, pk_25, dn_26, hw_17, h⟩ := h
    refine rl_gf rfl hw_17 rfl rfl ?_
    show Zr sc 69 52 [zp a0, zj x1, zj x2, zj r_11] [zp (a0 + 1)] w_15 ov w' c s
    refine Zr_st (q := (53, [zp a0, zj x1, zj x2, zj r_11], [zj r_11, zp (a0 + 1)])) rfl rfl rfl ?_
    show Zr sc 69 53 [zp a0, zj x1, zj x2, zj r_11] [zj r_11, zp (a0 + 1)] w_15 ov w' c s
    obtain ⟨fs_28, hl_27, h⟩ := h
    obtain ⟨r_31, hk_9, h⟩ := h
    refine rn_cal0 (ins := .invokevirtual 159) (rest := []) rfl rfl rfl rfl (zinv_v (fs := _) hl_27 rfl rfl rfl rfl) rfl rfl hk_9 ?_
    show Zr sc 69 56 [zp a0, zj x1, zj x2, zj r_11] [zj r_31] w_15 ov w' c s
    refine Zr_st (q := (57, [zp a0, zj r_31, zj x2, zj r_11], [])) rfl rfl rfl ?_
    show Zr sc 69 57 [zp a0, zj r_31, zj x2, zj r_11] [] w_15 ov w' c s
    refine rl_inc rfl rfl rfl rfl ?_
    show Zr sc 69 60 [zp a0, zj r_31, zj (x2 + 1), zj r_11] [] w_15 ov w' c s
    refine Zr_st (q := (15, [zp a0, zj r_31, zj (x2 + 1), zj r_11], [])) rfl rfl rfl ?_
    show Zr sc 69 15 [zp a0, zj r_31, zj (x2 + 1), zj r_11] [] w_15 ov w' c s
    exact h

-- HeapwrightLab$Slabs.sortPages()V
set_option maxRecDepth 100000 in
theorem V70_0 {sc : List Value} {w w' : List zE} {ov : Option Value} {c s : Nat} {a0 : Nat} {wy : Int} {st : Int} {hd : Int} {hn : Int} {sn : Int} {nm : Int} {ar : Int} {pk : Int} {dn : Int} (L0 : w[a0]? = some (zob 4 [zp (a0 + 1), zp (a0 + 6), zj wy, zj st, zj hd, zj hn, zj sn, zp (a0 + 9), zp (a0 + 10), zj nm, zj ar, zj pk, zj dn, zp (a0 + 11)])) (h : (∃ w_1 : List zE, Zc sc 71 [zp (a0 + 11), zj 0] w none w_1 0 0 ∧ Zr sc 70 10 [zp a0, zj 0, zmk, zmk, zmk, zmk] [] w_1 ov w' c s)) : Zr sc 70 0 [zp a0, zmk, zmk, zmk, zmk, zmk] [] w ov w' c s := by
  refine Zr_st (q := (1, [zp a0, zmk, zmk, zmk, zmk, zmk], [zp a0])) rfl rfl rfl ?_
  show Zr sc 70 1 [zp a0, zmk, zmk, zmk, zmk, zmk] [zp a0] w ov w' c s
  refine rl_gf rfl L0 rfl rfl ?_
  show Zr sc 70 4 [zp a0, zmk, zmk, zmk, zmk, zmk] [zp (a0 + 11)] w ov w' c s
  refine rl_ic rfl ?_
  show Zr sc 70 5 [zp a0, zmk, zmk, zmk, zmk, zmk] [zj 0, zp (a0 + 11)] w ov w' c s
  obtain ⟨w_1, hk_2, h⟩ := h
  refine rn_cal0 (ins := .invokestatic 57) (rest := []) rfl rfl rfl rfl (zinv_t rfl rfl rfl rfl) rfl rfl hk_2 ?_
  show Zr sc 70 8 [zp a0, zmk, zmk, zmk, zmk, zmk] [] w_1 ov w' c s
  refine rl_ic rfl ?_
  show Zr sc 70 9 [zp a0, zmk, zmk, zmk, zmk, zmk] [zj 0] w_1 ov w' c s
  refine Zr_st (q := (10, [zp a0, zj 0, zmk, zmk, zmk, zmk], [])) rfl rfl rfl ?_
  show Zr sc 70 10 [zp a0, zj 0, zmk, zmk, zmk, zmk] [] w_1 ov w' c s
  exact h
set_option maxRecDepth 100000 in
theorem V70_10 {sc : List Value} {w w' : List zE} {ov : Option Value} {c s : Nat} {a0 : Nat} {x1 : Int} {v2 : Value} {v3 : Value} {v4 : Value} {v5 : Value} {wy : Int} {st : Int} {hd : Int} {hn : Int} {sn : Int} {nm : Int} {ar : Int} {pk : Int} {dn : Int} (L0 : w[a0]? = some (zob 4 [zp (a0 + 1), zp (a0 + 6), zj wy, zj st, zj hd, zj hn, zj sn, zp (a0 + 9), zp (a0 + 10), zj nm, zj ar, zj pk, zj dn, zp (a0 + 11)])) (h : (∃ fs_2 : List Value, w[(a0 + 1)]? = some (zob 0 fs_2) ∧ (∃ r_5 : Int, Zc sc 18 [zp (a0 + 1)] w (some (zj r_5)) w 0 0 ∧ ((zrg x1 ∧ zrg r_5) ∧ ((r_5 ≤ x1 → (ov = none ∧ w' = w ∧ c = 0 ∧ s = 0)) ∧ (¬ (r_5 ≤ x1) → (∃ r_9 : Int, Zc sc 72 [zp (a0 + 1), zj x1] w (some (zj r_9)) w 0 0 ∧ (∃ r_12 : Int, Zc sc 13 [zp (a0 + 1), zj r_9] w (some (zj r_12)) w 0 0 ∧ ((zrg r_12 ∧ zrg 128) ∧ ((128 < r_12 → (∃ r_16 : Int, Zc sc 9 [zp (a0 + 1), zj r_9] w (some (zj r_16)) w 0 0 ∧ (((0 : Int) ≤ r_16 ∧ r_16 ≤ (2147483647 : Int) ∧ (0 : Int) < 128 ∧ 128 ≤ (2147483647 : Int)) ∧ ((zrg (r_16 / 128) ∧ zrg 0) ∧ Zr sc 70 79 [zp a0, zj x1, zj r_9, zj (-1), zj (max (r_16 / 128) 0), zj (max (r_16 / 128) 0)] [] w ov w' c s)))) ∧ (¬ (128 < r_12) → (∃ r_21 : Int, Zc sc 13 [zp (a0 + 1), zj r_9] w (some (zj r_21)) w 0 0 ∧ (∃ r_24 : Int, Zc sc 9 [zp (a0 + 1), zj r_9] w (some (zj r_24)) w 0 0 ∧ (((0 : Int) ≤ r_24 ∧ r_24 ≤ (2147483647 : Int) ∧ (0 : Int) < 128 ∧ 128 ≤ (2147483647 : Int)) ∧ ((zrg (r_24 / 128) ∧ zrg 0) ∧ Zr sc 70 79 [zp a0, zj x1, zj r_9, zj r_21, zj (max (r_24 / 128) 0), zj (max (r_24 / 128) 0)] [] w ov w' c s))))))))))))))) : Zr sc 70 10 [zp a0, zj x1, v2, v3, v4, v5] [] w ov w' c s := by
  refine Zr_st (q := (11, [zp a0, zj x1, v2, v3, v4, v5], [zj x1])) rfl rfl rfl ?_
  show Zr sc 70 11 [zp a0, zj x1, v2, v3, v4, v5] [zj x1] w ov w' c s
  refine Zr_st (q := (12, [zp a0, zj x1, v2, v3, v4, v5], [zp a0, zj x1])) rfl rfl rfl ?_
  show Zr sc 70 12 [zp a0, zj x1, v2, v3, v4, v5] [zp a0, zj x1] w ov w' c s
  refine rl_gf rfl L0 rfl rfl ?_
  show Zr sc 70 15 [zp a0, zj x1, v2, v3, v4, v5] [zp (a0 + 1), zj x1] w ov w' c s
  obtain ⟨fs_2, hl_1, h⟩ := h
  obtain ⟨r_5, hk_9, h⟩ := h
  refine rn_cal0 (ins := .invokevirtual 67) (rest := [zj x1]) rfl rfl rfl rfl (zinv_v (fs := _) hl_1 rfl rfl rfl rfl) rfl rfl hk_9 ?_
  show Zr sc 70 18 [zp a0, zj x1, v2, v3, v4, v5] [zj r_5, zj x1] w ov w' c s
  obtain ⟨hr_6, h⟩ := h
  refine Zr_br (p := r_5 ≤ x1) rfl rfl (zcmp_j (cnd := .ge) hr_6.1 hr_6.2) (fun hp => ?_) (fun hp => ?_)
  · replace h := h.1 hp
    show Zr sc 70 123 [zp a0, zj x1, v2, v3, v4, v5] [] w ov w' c s
    obtain ⟨h1, h2, h3, h4⟩ := h
    subst h1; subst h2; subst h3; subst h4
    exact Zr_ret (ins := .return_) rfl rfl
  · replace h := h.2 hp
    show Zr sc 70 21 [zp a0, zj x1, v2, v3, v4, v5] [] w ov w' c s
    refine Zr_st (q := (22, [zp a0, zj x1, v2, v3, v4, v5], [zp a0])) rfl rfl rfl ?_
    show Zr sc 70 22 [zp a0, zj x1, v2, v3, v4, v5] [zp a0] w ov w' c s
    refine rl_gf rfl L0 rfl rfl ?_
    show Zr sc 70 25 [zp a0, zj x1, v2, v3, v4, v5] [zp (a0 + 1)] w ov w' c s
    refine Zr_st (q := (26, [zp a0, zj x1, v2, v3, v4, v5], [zj x1, zp (a0 + 1)])) rfl rfl rfl ?_
    show Zr sc 70 26 [zp a0, zj x1, v2, v3, v4, v5] [zj x1, zp (a0 + 1)] w ov w' c s
    obtain ⟨r_9, hk_9, h⟩ := h
    refine rn_cal0 (ins := .invokevirtual 73) (rest := []) rfl rfl rfl rfl (zinv_v (fs := _) hl_1 rfl rfl rfl rfl) rfl rfl hk_9 ?_
    show Zr sc 70 29 [zp a0, zj x1, v2, v3, v4, v5] [zj r_9] w ov w' c s
    refine Zr_st (q := (30, [zp a0, zj x1, zj r_9, v3, v4, v5], [])) rfl rfl rfl ?_
    show Zr sc 70 30 [zp a0, zj x1, zj r_9, v3, v4, v5] [] w ov w' c s
    refine Zr_st (q := (31, [zp a0, zj x1, zj r_9, v3, v4, v5], [zp a0])) rfl rfl rfl ?_
    show Zr sc 70 31 [zp a0, zj x1, zj r_9, v3, v4, v5] [zp a0] w ov w' c s
    refine rl_gf rfl L0 rfl rfl ?_
    show Zr sc 70 34 [zp a0, zj x1, zj r_9, v3, v4, v5] [zp (a0 + 1)] w ov w' c s
    refine Zr_st (q := (35, [zp a0, zj x1, zj r_9, v3, v4, v5], [zj r_9, zp (a0 + 1)])) rfl rfl rfl ?_
    show Zr sc 70 35 [zp a0, zj x1, zj r_9, v3, v4, v5] [zj r_9, zp (a0 + 1)] w ov w' c s
    obtain ⟨r_12, hk_9, h⟩ := h
    refine rn_cal0 (ins := .invokevirtual 76) (rest := []) rfl rfl rfl rfl (zinv_v (fs := _) hl_1 rfl rfl rfl rfl) rfl rfl hk_9 ?_
    show Zr sc 70 38 [zp a0, zj x1, zj r_9, v3, v4, v5] [zj r_12] w ov w' c s
    refine rl_si rfl (by decide) ?_
    show Zr sc 70 41 [zp a0, zj x1, zj r_9, v3, v4, v5] [zj 128, zj r_12] w ov w' c s
    obtain ⟨hr_13, h⟩ := h
    refine Zr_br (p := 128 < r_12) rfl rfl (zcmp_j (cnd := .gt) hr_13.1 hr_13.2) (fun hp => ?_) (fun hp => ?_)
    · replace h := h.1 hp
      show Zr sc 70 55 [zp a0, zj x1, zj r_9, v3, v4, v5] [] w ov w' c s
      refine rl_ic rfl ?_
      show Zr sc 70 56 [zp a0, zj x1, zj r_9, v3, v4, v5] [zj (-1)] w ov w' c s
      refine Zr_st (q := (57, [zp a0, zj x1, zj r_9, zj (-1), v4, v5], [])) rfl rfl rfl ?_
      show Zr sc 70 57 [zp a0, zj x1, zj r_9, zj (-1), v4, v5] [] w ov w' c s
      refine Zr_st (q := (58, [zp a0, zj x1, zj r_9, zj (-1), v4, v5], [zp a0])) rfl rfl rfl ?_
      show Zr sc 70 58 [zp a0, zj x1, zj r_9, zj (-1), v4, v5] [zp a0] w ov w' c s
      refine rl_gf rfl L0 rfl rfl ?_
      show Zr sc 70 61 [zp a0, zj x1, zj r_9, zj (-1), v4, v5] [zp (a0 + 1)] w ov w' c s
      refine Zr_st (q := (62, [zp a0, zj x1, zj r_9, zj (-1), v4, v5], [zj r_9, zp (a0 + 1)])) rfl rfl rfl ?_
      show Zr sc 70 62 [zp a0, zj x1, zj r_9, zj (-1), v4, v5] [zj r_9, zp (a0 + 1)] w ov w' c s
      obtain ⟨r_16, hk_9, h⟩ := h
      refine rn_cal0 (ins := .invokevirtual 79) (rest := []) rfl rfl rfl rfl (zinv_v (fs := _) hl_1 rfl rfl rfl rfl) rfl rfl hk_9 ?_
      show Zr sc 70 65 [zp a0, zj x1, zj r_9, zj (-1), v4, v5] [zj r_16] w ov w' c s
      refine rl_si rfl (by decide) ?_
      show Zr sc 70 68 [zp a0, zj x1, zj r_9, zj (-1), v4, v5] [zj 128, zj r_16] w ov w' c s
      obtain ⟨hd_17, h⟩ := h
      refine rl_div rfl hd_17.1 hd_17.2.1 hd_17.2.2.1 hd_17.2.2.2 ?_
      show Zr sc 70 69 [zp a0, zj x1, zj r_9, zj (-1), v4, v5] [zj (r_16 / 128)] w ov w' c s
      refine rl_ic rfl ?_
      show Zr sc 70 70 [zp a0, zj x1, zj r_9, zj (-1), v4, v5] [zj 0, zj (r_16 / 128)] w ov w' c s
      obtain ⟨hm_18, h⟩ := h
      refine Zr_mx (b := true) (ins := .invokestatic 42) (rest := []) rfl rfl rfl rfl (zinv_t2 (rest := []) rfl rfl rfl rfl rfl) rfl (zmx_j hm_18.1 hm_18.2) ?_
      show Zr sc 70 73 [zp a0, zj x1, zj r_9, zj (-1), v4, v5] [zj (max (r_16 / 128) 0)] w ov w' c s
      refine Zr_st (q := (75, [zp a0, zj x1, zj r_9, zj (-1), zj (max (r_16 / 128) 0), v5], [])) rfl rfl rfl ?_
      show Zr sc 70 75 [zp a0, zj x1, zj r_9, zj (-1), zj (max (r_16 / 128) 0), v5] [] w ov w' c s
      refine Zr_st (q := (77, [zp a0, zj x1, zj r_9, zj (-1), zj (max (r_16 / 128) 0), v5], [zj (max (r_16 / 128) 0)])) rfl rfl rfl ?_
      show Zr sc 70 77 [zp a0, zj x1, zj r_9, zj (-1), zj (max (r_16 / 128) 0), v5] [zj (max (r_16 / 128) 0)] w ov w' c s
      refine Zr_st (q := (79, [zp a0, zj x1, zj r_9, zj (-1), zj (max (r_16 / 128) 0), zj (max (r_16 / 128) 0)], [])) rfl rfl rfl ?_
      show Zr sc 70 79 [zp a0, zj x1, zj r_9, zj (-1), zj (max (r_16 / 128) 0), zj (max (r_16 / 128) 0)] [] w ov w' c s
      exact h
    · replace h := h.2 hp
      show Zr sc 70 44 [zp a0, zj x1, zj r_9, v3, v4, v5] [] w ov w' c s
      refine Zr_st (q := (45, [zp a0, zj x1, zj r_9, v3, v4, v5], [zp a0])) rfl rfl rfl ?_
      show Zr sc 70 45 [zp a0, zj x1, zj r_9, v3, v4, v5] [zp a0] w ov w' c s
      refine rl_gf rfl L0 rfl rfl ?_
      show Zr sc 70 48 [zp a0, zj x1, zj r_9, v3, v4, v5] [zp (a0 + 1)] w ov w' c s
      refine Zr_st (q := (49, [zp a0, zj x1, zj r_9, v3, v4, v5], [zj r_9, zp (a0 + 1)])) rfl rfl rfl ?_
      show Zr sc 70 49 [zp a0, zj x1, zj r_9, v3, v4, v5] [zj r_9, zp (a0 + 1)] w ov w' c s
      obtain ⟨r_21, hk_9, h⟩ := h
      refine rn_cal0 (ins := .invokevirtual 76) (rest := []) rfl rfl rfl rfl (zinv_v (fs := _) hl_1 rfl rfl rfl rfl) rfl rfl hk_9 ?_
      show Zr sc 70 52 [zp a0, zj x1, zj r_9, v3, v4, v5] [zj r_21] w ov w' c s
      refine Zr_st (q := (56, [zp a0, zj x1, zj r_9, v3, v4, v5], [zj r_21])) rfl rfl rfl ?_
      show Zr sc 70 56 [zp a0, zj x1, zj r_9, v3, v4, v5] [zj r_21] w ov w' c s
      refine Zr_st (q := (57, [zp a0, zj x1, zj r_9, zj r_21, v4, v5], [])) rfl rfl rfl ?_
      show Zr sc 70 57 [zp a0, zj x1, zj r_9, zj r_21, v4, v5] [] w ov w' c s
      refine Zr_st (q := (58, [zp a0, zj x1, zj r_9, zj r_21, v4, v5], [zp a0])) rfl rfl rfl ?_
      show Zr sc 70 58 [zp a0, zj x1, zj r_9, zj r_21, v4, v5] [zp a0] w ov w' c s
      refine rl_gf rfl L0 rfl rfl ?_
      show Zr sc 70 61 [zp a0, zj x1, zj r_9, zj r_21, v4, v5] [zp (a0 + 1)] w ov w' c s
      refine Zr_st (q := (62, [zp a0, zj x1, zj r_9, zj r_21, v4, v5], [zj r_9, zp (a0 + 1)])) rfl rfl rfl ?_
      show Zr sc 70 62 [zp a0, zj x1, zj r_9, zj r_21, v4, v5] [zj r_9, zp (a0 + 1)] w ov w' c s
      obtain ⟨r_24, hk_9, h⟩ := h
      refine rn_cal0 (ins := .invokevirtual 79) (rest := []) rfl rfl rfl rfl (zinv_v (fs := _) hl_1 rfl rfl rfl rfl) rfl rfl hk_9 ?_
      show Zr sc 70 65 [zp a0, zj x1, zj r_9, zj r_21, v4, v5] [zj r_24] w ov w' c s
      refine rl_si rfl (by decide) ?_
      show Zr sc 70 68 [zp a0, zj x1, zj r_9, zj r_21, v4, v5] [zj 128, zj r_24] w ov w' c s
      obtain ⟨hd_25, h⟩ := h
      refine rl_div rfl hd_25.1 hd_25.2.1 hd_25.2.2.1 hd_25.2.2.2 ?_
      show Zr sc 70 69 [zp a0, zj x1, zj r_9, zj r_21, v4, v5] [zj (r_24 / 128)] w ov w' c s
      refine rl_ic rfl ?_
      show Zr sc 70 70 [zp a0, zj x1, zj r_9, zj r_21, v4, v5] [zj 0, zj (r_24 / 128)] w ov w' c s
      obtain ⟨hm_26, h⟩ := h
      refine Zr_mx (b := true) (ins := .invokestatic 42) (rest := []) rfl rfl rfl rfl (zinv_t2 (rest := []) rfl rfl rfl rfl rfl) rfl (zmx_j hm_26.1 hm_26.2) ?_
      show Zr sc 70 73 [zp a0, zj x1, zj r_9, zj r_21, v4, v5] [zj (max (r_24 / 128) 0)] w ov w' c s
      refine Zr_st (q := (75, [zp a0, zj x1, zj r_9, zj r_21, zj (max (r_24 / 128) 0), v5], [])) rfl rfl rfl ?_
      show Zr sc 70 75 [zp a0, zj x1, zj r_9, zj r_21, zj (max (r_24 / 128) 0), v5] [] w ov w' c s
      refine Zr_st (q := (77, [zp a0, zj x1, zj r_9, zj r_21, zj (max (r_24 / 128) 0), v5], [zj (max (r_24 / 128) 0)])) rfl rfl rfl ?_
      show Zr sc 70 77 [zp a0, zj x1, zj r_9, zj r_21, zj (max (r_24 / 128) 0), v5] [zj (max (r_24 / 128) 0)] w ov w' c s
      refine Zr_st (q := (79, [zp a0, zj x1, zj r_9, zj r_21, zj (max (r_24 / 128) 0), zj (max (r_24 / 128) 0)], [])) rfl rfl rfl ?_
      show Zr sc 70 79 [zp a0, zj x1, zj r_9, zj r_21, zj (max (r_24 / 128) 0), zj (max (r_24 / 128) 0)] [] w ov w' c s
      exact h
set_option maxRecDepth 100000 in
theorem V70_79 {sc : List Value} {w w' : List zE} {ov : Option Value} {c s : Nat} {a0 : Nat} {x1 : Int} {x2 : Int} {x3 : Int} {x4 : Int} {x5 : Int} {wy : Int} {st : Int} {hd : Int} {hn : Int} {sn : Int} {nm : Int} {ar : Int} {pk : Int} {dn : Int} {pg : List Int} (L0 : w[a0]? = some (zob 4 [zp (a0 + 1), zp (a0 + 6), zj wy, zj st, zj hd, zj hn, zj sn, zp (a0 + 9), zp (a0 + 10), zj nm, zj ar, zj pk, zj dn, zp (a0 + 11)])) (L11 : w[(a0 + 11)]? = some (za pg)) (h : ((zrg x5 ∧ zrg 8) ∧ ((8 ≤ x5 → Zr sc 70 10 [zp a0, zj (x1 + 1), zj x2, zj x3, zj x4, zj x5] [] w ov w' c s) ∧ (¬ (8 ≤ x5) → (∃ fs_3 : List Value, w[(a0 + 1)]? = some (zob 0 fs_3) ∧ (∃ r_6 : Int, Zc sc 16 [zp (a0 + 1), zj x2] w (some (zj r_6)) w 0 0 ∧ ((zrg (x5 * 128) ∧ zrg r_6) ∧ ((r_6 ≤ (x5 * 128) → Zr sc 70 10 [zp a0, zj (x1 + 1), zj x2, zj x3, zj x4, zj x5] [] w ov w' c s) ∧ (¬ (r_6 ≤ (x5 * 128)) → (((0 : Int) ≤ x5 ∧ x5 < (pg.length : Int) ∧ x5 ≤ (2147483647 : Int)) ∧ Zr sc 70 79 [zp a0, zj x1, zj x2, zj x3, zj x4, zj (x5 + 1)] [] (w.set (a0 + 11) (za (zsi pg x5 x3))) ov w' c s)))))))))) : Zr sc 70 79 [zp a0, zj x1, zj x2, zj x3, zj x4, zj x5] [] w ov w' c s := by
  refine Zr_st (q := (81, [zp a0, zj x1, zj x2, zj x3, zj x4, zj x5], [zj x5])) rfl rfl rfl ?_
  show Zr sc 70 81 [zp a0, zj x1, zj x2, zj x3, zj x4, zj x5] [zj x5] w ov w' c s
  refine rl_bi rfl (by decide) ?_
  show Zr sc 70 83 [zp a0, zj x1, zj x2, zj x3, zj x4, zj x5] [zj 8, zj x5] w ov w' c s
  obtain ⟨hr_1, h⟩ := h
  refine Zr_br (p := 8 ≤ x5) rfl rfl (zcmp_j (cnd := .ge) hr_1.1 hr_1.2) (fun hp => ?_) (fun hp => ?_)
  · replace h := h.1 hp
    show Zr sc 70 117 [zp a0, zj x1, zj x2, zj x3, zj x4, zj x5] [] w ov w' c s
    refine rl_inc rfl rfl rfl rfl ?_
    show Zr sc 70 120 [zp a0, zj (x1 + 1), zj x2, zj x3, zj x4, zj x5] [] w ov w' c s
    refine Zr_st (q := (10, [zp a0, zj (x1 + 1), zj x2, zj x3, zj x4, zj x5], [])) rfl rfl rfl ?_
    show Zr sc 70 10 [zp a0, zj (x1 + 1), zj x2, zj x3, zj x4, zj x5] [] w ov w' c s
    exact h
  · replace h := h.2 hp
    show Zr sc 70 86 [zp a0, zj x1, zj x2, zj x3, zj x4, zj x5] [] w ov w' c s
    refine Zr_st (q := (88, [zp a0, zj x1, zj x2, zj x3, zj x4, zj x5], [zj x5])) rfl rfl rfl ?_
    show Zr sc 70 88 [zp a0, zj x1, zj x2, zj x3, zj x4, zj x5] [zj x5] w ov w' c s
    refine rl_si rfl (by decide) ?_
    show Zr sc 70 91 [zp a0, zj x1, zj x2, zj x3, zj x4, zj x5] [zj 128, zj x5] w ov w' c s
    refine rl_mul rfl ?_
    show Zr sc 70 92 [zp a0, zj x1, zj x2, zj x3, zj x4, zj x5] [zj (x5 * 128)] w ov w' c s
    refine Zr_st (q := (93, [zp a0, zj x1, zj x2, zj x3, zj x4, zj x5], [zp a0, zj (x5 * 128)])) rfl rfl rfl ?_
    show Zr sc 70 93 [zp a0, zj x1, zj x2, zj x3, zj x4, zj x5] [zp a0, zj (x5 * 128)] w ov w' c s
    refine rl_gf rfl L0 rfl rfl ?_
    show Zr sc 70 96 [zp a0, zj x1, zj x2, zj x3, zj x4, zj x5] [zp (a0 + 1), zj (x5 * 128)] w ov w' c s
    refine Zr_st (q := (97, [zp a0, zj x1, zj x2, zj x3, zj x4, zj x5], [zj x2, zp (a0 + 1), zj (x5 * 128)])) rfl rfl rfl ?_
    show Zr sc 70 97 [zp a0, zj x1, zj x2, zj x3, zj x4, zj x5] [zj x2, zp (a0 + 1), zj (x5 * 128)] w ov w' c s
    obtain ⟨fs_3, hl_2, h⟩ := h
    obtain ⟨r_6, hk_9, h⟩ := h
    refine rn_cal0 (ins := .invokevirtual 80) (rest := [zj (x5 * 128)]) rfl rfl rfl rfl (zinv_v (fs := _) hl_2 rfl rfl rfl rfl) rfl rfl hk_9 ?_
    show Zr sc 70 100 [zp a0, zj x1, zj x2, zj x3, zj x4, zj x5] [zj r_6, zj (x5 * 128)] w ov w' c s
    obtain ⟨hr_7, h⟩ := h
    refine Zr_br (p := r_6 ≤ (x5 * 128)) rfl rfl (zcmp_j (cnd := .ge) hr_7.1 hr_7.2) (fun hp => ?_) (fun hp => ?_)
    · replace h := h.1 hp
      show Zr sc 70 117 [zp a0, zj x1, zj x2, zj x3, zj x4, zj x5] [] w ov w' c s
      refine rl_inc rfl rfl rfl rfl ?_
      show Zr sc 70 120 [zp a0, zj (x1 + 1), zj x2, zj x3, zj x4, zj x5] [] w ov w' c s
      refine Zr_st (q := (10, [zp a0, zj (x1 + 1), zj x2, zj x3, zj x4, zj x5], [])) rfl rfl rfl ?_
      show Zr sc 70 10 [zp a0, zj (x1 + 1), zj x2, zj x3, zj x4, zj x5] [] w ov w' c s
      exact h
    · replace h := h.2 hp
      show Zr sc 70 103 [zp a0, zj x1, zj x2, zj x3, zj x4, zj x5] [] w ov w' c s
      refine Zr_st (q := (104, [zp a0, zj x1, zj x2, zj x3, zj x4, zj x5], [zp a0])) rfl rfl rfl ?_
      show Zr sc 70 104 [zp a0, zj x1, zj x2, zj x3, zj x4, zj x5] [zp a0] w ov w' c s
      refine rl_gf rfl L0 rfl rfl ?_
      show Zr sc 70 107 [zp a0, zj x1, zj x2, zj x3, zj x4, zj x5] [zp (a0 + 11)] w ov w' c s
      refine Zr_st (q := (109, [zp a0, zj x1, zj x2, zj x3, zj x4, zj x5], [zj x5, zp (a0 + 11)])) rfl rfl rfl ?_
      show Zr sc 70 109 [zp a0, zj x1, zj x2, zj x3, zj x4, zj x5] [zj x5, zp (a0 + 11)] w ov w' c s
      refine Zr_st (q := (110, [zp a0, zj x1, zj x2, zj x3, zj x4, zj x5], [zj x3, zj x5, zp (a0 + 11)])) rfl rfl rfl ?_
      show Zr sc 70 110 [zp a0, zj x1, zj x2, zj x3, zj x4, zj x5] [zj x3, zj x5, zp (a0 + 11)] w ov w' c s
      obtain ⟨hi_8, h⟩ := h
      refine rl_is rfl L11 hi_8.1 hi_8.2.1 hi_8.2.2 ?_
      show Zr sc 70 111 [zp a0, zj x1, zj x2, zj x3, zj x4, zj x5] [] (w.set (a0 + 11) (za (zsi pg x5 x3))) ov w' c s
      refine rl_inc rfl rfl rfl rfl ?_
      show Zr sc 70 114 [zp a0, zj x1, zj x2, zj x3, zj x4, zj (x5 + 1)] [] (w.set (a0 + 11) (za (zsi pg x5 x3))) ov w' c s
      refine Zr_st (q := (79, [zp a0, zj x1, zj x2, zj x3, zj x4, zj (x5 + 1)], [])) rfl rfl rfl ?_
      show Zr sc 70 79 [zp a0, zj x1, zj x2, zj x3, zj x4, zj (x5 + 1)] [] (w.set (a0 + 11) (za (zsi pg x5 x3))) ov w' c s
      exact h

-- java/util/Arrays.fill([II)V
set_option maxRecDepth 100000 in
theorem V71_0 {sc : List Value} {w w' : List zE} {ov : Option Value} {c s : Nat} {a0 : Nat} {x1 : Int} (h : (∃ l_2 : List Int, w[a0]? = some (za l_2) ∧ Zr sc 71 5 [zp a0, zj x1, zj 0, zj (l_2.length : Int)] [] w ov w' c s)) : Zr sc 71 0 [zp a0, zj x1, zmk, zmk] [] w ov w' c s := by
  refine rl_ic rfl ?_
  show Zr sc 71 1 [zp a0, zj x1, zmk, zmk] [zj 0] w ov w' c s
  refine Zr_st (q := (2, [zp a0, zj x1, zj 0, zmk], [])) rfl rfl rfl ?_
  show Zr sc 71 2 [zp a0, zj x1, zj 0, zmk] [] w ov w' c s
  refine Zr_st (q := (3, [zp a0, zj x1, zj 0, zmk], [zp a0])) rfl rfl rfl ?_
  show Zr sc 71 3 [zp a0, zj x1, zj 0, zmk] [zp a0] w ov w' c s
  obtain ⟨l_2, hw_1, h⟩ := h
  refine rl_al rfl hw_1 ?_
  show Zr sc 71 4 [zp a0, zj x1, zj 0, zmk] [zj (l_2.length : Int)] w ov w' c s
  refine Zr_st (q := (5, [zp a0, zj x1, zj 0, zj (l_2.length : Int)], [])) rfl rfl rfl ?_
  show Zr sc 71 5 [zp a0, zj x1, zj 0, zj (l_2.length : Int)] [] w ov w' c s
  exact h
set_option maxRecDepth 100000 in
theorem V71_5 {sc : List Value} {w w' : List zE} {ov : Option Value} {c s : Nat} {a0 : Nat} {x1 : Int} {x2 : Int} {x3 : Int} (h : ((zrg x2 ∧ zrg x3) ∧ ((x3 ≤ x2 → (ov = none ∧ w' = w ∧ c = 0 ∧ s = 0)) ∧ (¬ (x3 ≤ x2) → (∃ l_4 : List Int, w[a0]? = some (za l_4) ∧ (((0 : Int) ≤ x2 ∧ x2 < (l_4.length : Int) ∧ x2 ≤ (2147483647 : Int)) ∧ Zr sc 71 5 [zp a0, zj x1, zj (x2 + 1), zj x3] [] (w.set a0 (za (zsi l_4 x2 x1))) ov w' c s)))))) : Zr sc 71 5 [zp a0, zj x1, zj x2, zj x3] [] w ov w' c s := by
  refine Zr_st (q := (6, [zp a0, zj x1, zj x2, zj x3], [zj x2])) rfl rfl rfl ?_
  show Zr sc 71 6 [zp a0, zj x1, zj x2, zj x3] [zj x2] w ov w' c s
  refine Zr_st (q := (7, [zp a0, zj x1, zj x2, zj x3], [zj x3, zj x2])) rfl rfl rfl ?_
  show Zr sc 71 7 [zp a0, zj x1, zj x2, zj x3] [zj x3, zj x2] w ov w' c s
  obtain ⟨hr_1, h⟩ := h
  refine Zr_br (p := x3 ≤ x2) rfl rfl (zcmp_j (cnd := .ge) hr_1.1 hr_1.2) (fun hp => ?_) (fun hp => ?_)
  · replace h := h.1 hp
    show Zr sc 71 20 [zp a0, zj x1, zj x2, zj x3] [] w ov w' c s
    obtain ⟨h1, h2, h3, h4⟩ := h
    subst h1; subst h2; subst h3; subst h4
    exact Zr_ret (ins := .return_) rfl rfl
  · replace h := h.2 hp
    show Zr sc 71 10 [zp a0, zj x1, zj x2, zj x3] [] w ov w' c s
    refine Zr_st (q := (11, [zp a0, zj x1, zj x2, zj x3], [zp a0])) rfl rfl rfl ?_
    show Zr sc 71 11 [zp a0, zj x1, zj x2, zj x3] [zp a0] w ov w' c s
    refine Zr_st (q := (12, [zp a0, zj x1, zj x2, zj x3], [zj x2, zp a0])) rfl rfl rfl ?_
    show Zr sc 71 12 [zp a0, zj x1, zj x2, zj x3] [zj x2, zp a0] w ov w' c s
    refine Zr_st (q := (13, [zp a0, zj x1, zj x2, zj x3], [zj x1, zj x2, zp a0])) rfl rfl rfl ?_
    show Zr sc 71 13 [zp a0, zj x1, zj x2, zj x3] [zj x1, zj x2, zp a0] w ov w' c s
    obtain ⟨l_4, hw_3, h⟩ := h
    obtain ⟨hi_2, h⟩ := h
    refine rl_is rfl hw_3 hi_2.1 hi_2.2.1 hi_2.2.2 ?_
    show Zr sc 71 14 [zp a0, zj x1, zj x2, zj x3] [] (w.set a0 (za (zsi l_4 x2 x1))) ov w' c s
    refine rl_inc rfl rfl rfl rfl ?_
    show Zr sc 71 17 [zp a0, zj x1, zj (x2 + 1), zj x3] [] (w.set a0 (za (zsi l_4 x2 x1))) ov w' c s
    refine Zr_st (q := (5, [zp a0, zj x1, zj (x2 + 1), zj x3], [])) rfl rfl rfl ?_
    show Zr sc 71 5 [zp a0, zj x1, zj (x2 + 1), zj x3] [] (w.set a0 (za (zsi l_4 x2 x1))) ov w' c s
    exact h

-- HeapwrightLab$Blocks.inOrder(I)I
set_option maxRecDepth 100000 in
theorem V72_0 {sc : List Value} {w w' : List zE} {ov : Option Value} {c s : Nat} {a0 : Nat} {x1 : Int} {ct : Int} {rt : Int} {bp : List Int} (L0 : w[a0]? = some (zob 0 [zp (a0 + 1), zp (a0 + 2), zp (a0 + 3), zp (a0 + 4), zj ct, zj rt])) (L4 : w[(a0 + 4)]? = some (za bp)) (h : ((zrg x1) ∧ ((x1 < 0 → (ov = some (zj (-1)) ∧ w' = w ∧ c = 0 ∧ s = 0)) ∧ (¬ (x1 < 0) → ((zrg x1 ∧ zrg ct) ∧ ((ct ≤ x1 → (ov = some (zj (-1)) ∧ w' = w ∧ c = 0 ∧ s = 0)) ∧ (¬ (ct ≤ x1) → (((0 : Int) ≤ x1 ∧ x1 < (bp.length : Int) ∧ x1 ≤ (2147483647 : Int)) ∧ (ov = some (zj (zgi bp x1)) ∧ w' = w ∧ c = 0 ∧ s = 0))))))))) : Zr sc 72 0 [zp a0, zj x1] [] w ov w' c s := by
  refine Zr_st (q := (1, [zp a0, zj x1], [zj x1])) rfl rfl rfl ?_
  show Zr sc 72 1 [zp a0, zj x1] [zj x1] w ov w' c s
  obtain ⟨hr_1, h⟩ := h
  refine Zr_b0 (p := x1 < 0) rfl rfl (zcmp_0 (cnd := .lt) hr_1) (fun hp => ?_) (fun hp => ?_)
  · replace h := h.1 hp
    show Zr sc 72 21 [zp a0, zj x1] [] w ov w' c s
    refine rl_ic rfl ?_
    show Zr sc 72 22 [zp a0, zj x1] [zj (-1)] w ov w' c s
    obtain ⟨h1, h2, h3, h4⟩ := h
    subst h1; subst h2; subst h3; subst h4
    exact Zr_ret (ins := .ireturn) rfl rfl
  · replace h := h.2 hp
    show Zr sc 72 4 [zp a0, zj x1] [] w ov w' c s
    refine Zr_st (q := (5, [zp a0, zj x1], [zj x1])) rfl rfl rfl ?_
    show Zr sc 72 5 [zp a0, zj x1] [zj x1] w ov w' c s
    refine Zr_st (q := (6, [zp a0, zj x1], [zp a0, zj x1])) rfl rfl rfl ?_
    show Zr sc 72 6 [zp a0, zj x1] [zp a0, zj x1] w ov w' c s
    refine rl_gf rfl L0 rfl rfl ?_
    show Zr sc 72 9 [zp a0, zj x1] [zj ct, zj x1] w ov w' c s
    obtain ⟨hr_2, h⟩ := h
    refine Zr_br (p := ct ≤ x1) rfl rfl (zcmp_j (cnd := .ge) hr_2.1 hr_2.2) (fun hp => ?_) (fun hp => ?_)
    · replace h := h.1 hp
      show Zr sc 72 21 [zp a0, zj x1] [] w ov w' c s
      refine rl_ic rfl ?_
      show Zr sc 72 22 [zp a0, zj x1] [zj (-1)] w ov w' c s
      obtain ⟨h1, h2, h3, h4⟩ := h
      subst h1; subst h2; subst h3; subst h4
      exact Zr_ret (ins := .ireturn) rfl rfl
    · replace h := h.2 hp
      show Zr sc 72 12 [zp a0, zj x1] [] w ov w' c s
      refine Zr_st (q := (13, [zp a0, zj x1], [zp a0])) rfl rfl rfl ?_
      show Zr sc 72 13 [zp a0, zj x1] [zp a0] w ov w' c s
      refine rl_gf rfl L0 rfl rfl ?_
      show Zr sc 72 16 [zp a0, zj x1] [zp (a0 + 4)] w ov w' c s
      refine Zr_st (q := (17, [zp a0, zj x1], [zj x1, zp (a0 + 4)])) rfl rfl rfl ?_
      show Zr sc 72 17 [zp a0, zj x1] [zj x1, zp (a0 + 4)] w ov w' c s
      obtain ⟨hi_3, h⟩ := h
      refine rl_ia rfl L4 hi_3.1 hi_3.2.1 hi_3.2.2 ?_
      show Zr sc 72 18 [zp a0, zj x1] [zj (zgi bp x1)] w ov w' c s
      refine Zr_st (q := (22, [zp a0, zj x1], [zj (zgi bp x1)])) rfl rfl rfl ?_
      show Zr sc 72 22 [zp a0, zj x1] [zj (zgi bp x1)] w ov w' c s
      obtain ⟨h1, h2, h3, h4⟩ := h
      subst h1; subst h2; subst h3; subst h4
      exact Zr_ret (ins := .ireturn) rfl rfl

-- HeapwrightLab$Memory.sortPages()V
set_option maxRecDepth 100000 in
theorem V73_0_1 {sc : List Value} {w w' : List zE} {ov : Option Value} {c s : Nat} {a0 : Nat} (h : (ov = none ∧ w' = w ∧ c = 0 ∧ s = 0)) : Zr sc 73 0 [zp a0] [] w ov w' c s := by
  obtain ⟨h1, h2, h3, h4⟩ := h
  subst h1; subst h2; subst h3; subst h4
  exact Zr_ret (ins := .return_) rfl rfl

-- HeapwrightLab$Memory.sortPages()V
set_option maxRecDepth 100000 in
theorem V73_0_2 {sc : List Value} {w w' : List zE} {ov : Option Value} {c s : Nat} {a0 : Nat} (h : (ov = none ∧ w' = w ∧ c = 0 ∧ s = 0)) : Zr sc 73 0 [zp a0] [] w ov w' c s := by
  obtain ⟨h1, h2, h3, h4⟩ := h
  subst h1; subst h2; subst h3; subst h4
  exact Zr_ret (ins := .return_) rfl rfl

-- HeapwrightLab$Holes.removeAll()V
set_option maxRecDepth 100000 in
theorem V74_0 {sc : List Value} {w w' : List zE} {ov : Option Value} {c s : Nat} {a0 : Nat} {ct : Int} (L0 : w[a0]? = some (zob 3 [zp (a0 + 1), zp (a0 + 2), zj ct])) (h : (ov = none ∧ w' = (w.set a0 (zob 3 [zp (a0 + 1), zp (a0 + 2), zj 0])) ∧ c = 0 ∧ s = 0)) : Zr sc 74 0 [zp a0] [] w ov w' c s := by
  refine Zr_st (q := (1, [zp a0], [zp a0])) rfl rfl rfl ?_
  show Zr sc 74 1 [zp a0] [zp a0] w ov w' c s
  refine rl_ic rfl ?_
  show Zr sc 74 2 [zp a0] [zj 0, zp a0] w ov w' c s
  refine rl_pf rfl L0 rfl rfl rfl ?_
  show Zr sc 74 5 [zp a0] [] (w.set a0 (zob 3 [zp (a0 + 1), zp (a0 + 2), zj 0])) ov w' c s
  obtain ⟨h1, h2, h3, h4⟩ := h
  subst h1; subst h2; subst h3; subst h4
  exact Zr_ret (ins := .return_) rfl rfl

-- HeapwrightLab$Buddies.addGap(II)V
set_option maxRecDepth 100000 in
theorem V75_0 {sc : List Value} {w w' : List zE} {ov : Option Value} {c s : Nat} {a0 : Nat} {x1 : Int} {x2 : Int} (h : Zr sc 75 5 [zp a0, zj x1, zj x2, zj x1, zj 0, zmk] [] w ov w' c s) : Zr sc 75 0 [zp a0, zj x1, zj x2, zmk, zmk, zmk] [] w ov w' c s := by
  refine Zr_st (q := (1, [zp a0, zj x1, zj x2, zmk, zmk, zmk], [zj x1])) rfl rfl rfl ?_
  show Zr sc 75 1 [zp a0, zj x1, zj x2, zmk, zmk, zmk] [zj x1] w ov w' c s
  refine Zr_st (q := (2, [zp a0, zj x1, zj x2, zj x1, zmk, zmk], [])) rfl rfl rfl ?_
  show Zr sc 75 2 [zp a0, zj x1, zj x2, zj x1, zmk, zmk] [] w ov w' c s
  refine rl_ic rfl ?_
  show Zr sc 75 3 [zp a0, zj x1, zj x2, zj x1, zmk, zmk] [zj 0] w ov w' c s
  refine Zr_st (q := (5, [zp a0, zj x1, zj x2, zj x1, zj 0, zmk], [])) rfl rfl rfl ?_
  show Zr sc 75 5 [zp a0, zj x1, zj x2, zj x1, zj 0, zmk] [] w ov w' c s
  exact h
set_option maxRecDepth 100000 in
theorem V75_5 {sc : List Value} {w w' : List zE} {ov : Option Value} {c s : Nat} {a0 : Nat} {x1 : Int} {x2 : Int} {x3 : Int} {x4 : Int} {v5 : Value} {wy : Int} {st : Int} {hd : Int} {hn : Int} {sn : Int} {nm : Int} {ar : Int} {pk : Int} {dn : Int} (L0 : w[a0]? = some (zob 1 [zp (a0 + 1), zp (a0 + 6), zj wy, zj st, zj hd, zj hn, zj sn, zp (a0 + 9), zp (a0 + 10), zj nm, zj ar, zj pk, zj dn])) (h : ((zrg x4 ∧ zrg 128) ∧ ((128 ≤ x4 → (ov = none ∧ w' = w ∧ c = 0 ∧ s = 0)) ∧ (¬ (128 ≤ x4) → ((zrg x3 ∧ zrg x2) ∧ ((x2 ≤ x3 → (ov = none ∧ w' = w ∧ c = 0 ∧ s = 0)) ∧ (¬ (x2 ≤ x3) → (∃ r_5 : Int, Zc sc 76 [zj x3, zj x2] w (some (zj r_5)) w 0 0 ∧ (∃ fs_7 : List Value, w[(a0 + 6)]? = some (zob 3 fs_7) ∧ (∃ w_8 : List zE, Zc sc 77 [zp (a0 + 6), zj x3, zj r_5] w none w_8 0 0 ∧ Zr sc 75 5 [zp a0, zj x1, zj x2, zj (x3 + r_5), zj (x4 + 1), zj r_5] [] w_8 ov w' c s)))))))))) : Zr sc 75 5 [zp a0, zj x1, zj x2, zj x3, zj x4, v5] [] w ov w' c s := by
  refine Zr_st (q := (7, [zp a0, zj x1, zj x2, zj x3, zj x4, v5], [zj x4])) rfl rfl rfl ?_
  show Zr sc 75 7 [zp a0, zj x1, zj x2, zj x3, zj x4, v5] [zj x4] w ov w' c s
  refine rl_si rfl (by decide) ?_
  show Zr sc 75 10 [zp a0, zj x1, zj x2, zj x3, zj x4, v5] [zj 128, zj x4] w ov w' c s
  obtain ⟨hr_1, h⟩ := h
  refine Zr_br (p := 128 ≤ x4) rfl rfl (zcmp_j (cnd := .ge) hr_1.1 hr_1.2) (fun hp => ?_) (fun hp => ?_)
  · replace h := h.1 hp
    show Zr sc 75 46 [zp a0, zj x1, zj x2, zj x3, zj x4, v5] [] w ov w' c s
    obtain ⟨h1, h2, h3, h4⟩ := h
    subst h1; subst h2; subst h3; subst h4
    exact Zr_ret (ins := .return_) rfl rfl
  · replace h := h.2 hp
    show Zr sc 75 13 [zp a0, zj x1, zj x2, zj x3, zj x4, v5] [] w ov w' c s
    refine Zr_st (q := (14, [zp a0, zj x1, zj x2, zj x3, zj x4, v5], [zj x3])) rfl rfl rfl ?_
    show Zr sc 75 14 [zp a0, zj x1, zj x2, zj x3, zj x4, v5] [zj x3] w ov w' c s
    refine Zr_st (q := (15, [zp a0, zj x1, zj x2, zj x3, zj x4, v5], [zj x2, zj x3])) rfl rfl rfl ?_
    show Zr sc 75 15 [zp a0, zj x1, zj x2, zj x3, zj x4, v5] [zj x2, zj x3] w ov w' c s
    obtain ⟨hr_2, h⟩ := h
    refine Zr_br (p := x2 ≤ x3) rfl rfl (zcmp_j (cnd := .ge) hr_2.1 hr_2.2) (fun hp => ?_) (fun hp => ?_)
    · replace h := h.1 hp
      show Zr sc 75 46 [zp a0, zj x1, zj x2, zj x3, zj x4, v5] [] w ov w' c s
      obtain ⟨h1, h2, h3, h4⟩ := h
      subst h1; subst h2; subst h3; subst h4
      exact Zr_ret (ins := .return_) rfl rfl
    · replace h := h.2 hp
      show Zr sc 75 18 [zp a0, zj x1, zj x2, zj x3, zj x4, v5] [] w ov w' c s
      refine Zr_st (q := (19, [zp a0, zj x1, zj x2, zj x3, zj x4, v5], [zj x3])) rfl rfl rfl ?_
      show Zr sc 75 19 [zp a0, zj x1, zj x2, zj x3, zj x4, v5] [zj x3] w ov w' c s
      refine Zr_st (q := (20, [zp a0, zj x1, zj x2, zj x3, zj x4, v5], [zj x2, zj x3])) rfl rfl rfl ?_
      show Zr sc 75 20 [zp a0, zj x1, zj x2, zj x3, zj x4, v5] [zj x2, zj x3] w ov w' c s
      obtain ⟨r_5, hk_9, h⟩ := h
      refine rn_cal0 (ins := .invokestatic 32) (rest := []) rfl rfl rfl rfl (zinv_t rfl rfl rfl rfl) rfl rfl hk_9 ?_
      show Zr sc 75 23 [zp a0, zj x1, zj x2, zj x3, zj x4, v5] [zj r_5] w ov w' c s
      refine Zr_st (q := (25, [zp a0, zj x1, zj x2, zj x3, zj x4, zj r_5], [])) rfl rfl rfl ?_
      show Zr sc 75 25 [zp a0, zj x1, zj x2, zj x3, zj x4, zj r_5] [] w ov w' c s
      refine Zr_st (q := (26, [zp a0, zj x1, zj x2, zj x3, zj x4, zj r_5], [zp a0])) rfl rfl rfl ?_
      show Zr sc 75 26 [zp a0, zj x1, zj x2, zj x3, zj x4, zj r_5] [zp a0] w ov w' c s
      refine rl_gf rfl L0 rfl rfl ?_
      show Zr sc 75 29 [zp a0, zj x1, zj x2, zj x3, zj x4, zj r_5] [zp (a0 + 6)] w ov w' c s
      refine Zr_st (q := (30, [zp a0, zj x1, zj x2, zj x3, zj x4, zj r_5], [zj x3, zp (a0 + 6)])) rfl rfl rfl ?_
      show Zr sc 75 30 [zp a0, zj x1, zj x2, zj x3, zj x4, zj r_5] [zj x3, zp (a0 + 6)] w ov w' c s
      refine Zr_st (q := (32, [zp a0, zj x1, zj x2, zj x3, zj x4, zj r_5], [zj r_5, zj x3, zp (a0 + 6)])) rfl rfl rfl ?_
      show Zr sc 75 32 [zp a0, zj x1, zj x2, zj x3, zj x4, zj r_5] [zj r_5, zj x3, zp (a0 + 6)] w ov w' c s
      obtain ⟨fs_7, hl_6, h⟩ := h
      obtain ⟨w_8, hk_9, h⟩ := h
      refine rn_cal0 (ins := .invokevirtual 36) (rest := []) rfl rfl rfl rfl (zinv_v (fs := _) hl_6 rfl rfl rfl rfl) rfl rfl hk_9 ?_
      show Zr sc 75 35 [zp a0, zj x1, zj x2, zj x3, zj x4, zj r_5] [] w_8 ov w' c s
      refine Zr_st (q := (36, [zp a0, zj x1, zj x2, zj x3, zj x4, zj r_5], [zj x3])) rfl rfl rfl ?_
      show Zr sc 75 36 [zp a0, zj x1, zj x2, zj x3, zj x4, zj r_5] [zj x3] w_8 ov w' c s
      refine Zr_st (q := (38, [zp a0, zj x1, zj x2, zj x3, zj x4, zj r_5], [zj r_5, zj x3])) rfl rfl rfl ?_
      show Zr sc 75 38 [zp a0, zj x1, zj x2, zj x3, zj x4, zj r_5] [zj r_5, zj x3] w_8 ov w' c s
      refine rl_add rfl ?_
      show Zr sc 75 39 [zp a0, zj x1, zj x2, zj x3, zj x4, zj r_5] [zj (x3 + r_5)] w_8 ov w' c s
      refine Zr_st (q := (40, [zp a0, zj x1, zj x2, zj (x3 + r_5), zj x4, zj r_5], [])) rfl rfl rfl ?_
      show Zr sc 75 40 [zp a0, zj x1, zj x2, zj (x3 + r_5), zj x4, zj r_5] [] w_8 ov w' c s
      refine rl_inc rfl rfl rfl rfl ?_
      show Zr sc 75 43 [zp a0, zj x1, zj x2, zj (x3 + r_5), zj (x4 + 1), zj r_5] [] w_8 ov w' c s
      refine Zr_st (q := (5, [zp a0, zj x1, zj x2, zj (x3 + r_5), zj (x4 + 1), zj r_5], [])) rfl rfl rfl ?_
      show Zr sc 75 5 [zp a0, zj x1, zj x2, zj (x3 + r_5), zj (x4 + 1), zj r_5] [] w_8 ov w' c s
      exact h

-- HeapwrightLab$Buddies.largestPart(II)I
set_option maxRecDepth 100000 in
theorem V76_0 {sc : List Value} {w w' : List zE} {ov : Option Value} {c s : Nat} {x0 : Int} {x1 : Int} (h : Zr sc 76 4 [zj x0, zj x1, zj 1024] [] w ov w' c s) : Zr sc 76 0 [zj x0, zj x1, zmk] [] w ov w' c s := by
  refine rl_si rfl (by decide) ?_
  show Zr sc 76 3 [zj x0, zj x1, zmk] [zj 1024] w ov w' c s
  refine Zr_st (q := (4, [zj x0, zj x1, zj 1024], [])) rfl rfl rfl ?_
  show Zr sc 76 4 [zj x0, zj x1, zj 1024] [] w ov w' c s
  exact h
set_option maxRecDepth 100000 in
theorem V76_4 {sc : List Value} {w w' : List zE} {ov : Option Value} {c s : Nat} {x0 : Int} {x1 : Int} {x2 : Int} (h : ((zrg x2 ∧ zrg 8) ∧ ((x2 ≤ 8 → (ov = some (zj 8) ∧ w' = w ∧ c = 0 ∧ s = 0)) ∧ (¬ (x2 ≤ 8) → (((0 : Int) ≤ x0 ∧ x0 ≤ (2147483647 : Int) ∧ (0 : Int) < x2 ∧ x2 ≤ (2147483647 : Int)) ∧ ((zrg (x0 % x2)) ∧ (((x0 % x2) ≠ 0 → (((0 : Int) ≤ x2 ∧ x2 ≤ (2147483647 : Int) ∧ (0 : Int) < 2 ∧ 2 ≤ (2147483647 : Int)) ∧ Zr sc 76 4 [zj x0, zj x1, zj (x2 / 2)] [] w ov w' c s)) ∧ (¬ ((x0 % x2) ≠ 0) → ((zrg x2 ∧ zrg (x1 - x0)) ∧ (((x1 - x0) < x2 → (((0 : Int) ≤ x2 ∧ x2 ≤ (2147483647 : Int) ∧ (0 : Int) < 2 ∧ 2 ≤ (2147483647 : Int)) ∧ Zr sc 76 4 [zj x0, zj x1, zj (x2 / 2)] [] w ov w' c s)) ∧ (¬ ((x1 - x0) < x2) → (ov = some (zj x2) ∧ w' = w ∧ c = 0 ∧ s = 0)))))))))))) : Zr sc 76 4 [zj x0, zj x1, zj x2] [] w ov w' c s := by
  refine Zr_st (q := (5, [zj x0, zj x1, zj x2], [zj x2])) rfl rfl rfl ?_
  show Zr sc 76 5 [zj x0, zj x1, zj x2] [zj x2] w ov w' c s
  refine rl_bi rfl (by decide) ?_
  show Zr sc 76 7 [zj x0, zj x1, zj x2] [zj 8, zj x2] w ov w' c s
  obtain ⟨hr_1, h⟩ := h
  refine Zr_br (p := x2 ≤ 8) rfl rfl (zcmp_j (cnd := .le) hr_1.1 hr_1.2) (fun hp => ?_) (fun hp => ?_)
  · replace h := h.1 hp
    show Zr sc 76 32 [zj x0, zj x1, zj x2] [] w ov w' c s
    refine rl_bi rfl (by decide) ?_
    show Zr sc 76 34 [zj x0, zj x1, zj x2] [zj 8] w ov w' c s
    obtain ⟨h1, h2, h3, h4⟩ := h
    subst h1; subst h2; subst h3; subst h4
    exact Zr_ret (ins := .ireturn) rfl rfl
  · replace h := h.2 hp
    show Zr sc 76 10 [zj x0, zj x1, zj x2] [] w ov w' c s
    refine Zr_st (q := (11, [zj x0, zj x1, zj x2], [zj x0])) rfl rfl rfl ?_
    show Zr sc 76 11 [zj x0, zj x1, zj x2] [zj x0] w ov w' c s
    refine Zr_st (q := (12, [zj x0, zj x1, zj x2], [zj x2, zj x0])) rfl rfl rfl ?_
    show Zr sc 76 12 [zj x0, zj x1, zj x2] [zj x2, zj x0] w ov w' c s
    obtain ⟨hd_2, h⟩ := h
    refine rl_rem rfl hd_2.1 hd_2.2.1 hd_2.2.2.1 hd_2.2.2.2 ?_
    show Zr sc 76 13 [zj x0, zj x1, zj x2] [zj (x0 % x2)] w ov w' c s
    obtain ⟨hr_3, h⟩ := h
    refine Zr_b0 (p := (x0 % x2) ≠ 0) rfl rfl (zcmp_0 (cnd := .ne) hr_3) (fun hp => ?_) (fun hp => ?_)
    · replace h := h.1 hp
      show Zr sc 76 25 [zj x0, zj x1, zj x2] [] w ov w' c s
      refine Zr_st (q := (26, [zj x0, zj x1, zj x2], [zj x2])) rfl rfl rfl ?_
      show Zr sc 76 26 [zj x0, zj x1, zj x2] [zj x2] w ov w' c s
      refine rl_ic rfl ?_
      show Zr sc 76 27 [zj x0, zj x1, zj x2] [zj 2, zj x2] w ov w' c s
      obtain ⟨hd_4, h⟩ := h
      refine rl_div rfl hd_4.1 hd_4.2.1 hd_4.2.2.1 hd_4.2.2.2 ?_
      show Zr sc 76 28 [zj x0, zj x1, zj x2] [zj (x2 / 2)] w ov w' c s
      refine Zr_st (q := (29, [zj x0, zj x1, zj (x2 / 2)], [])) rfl rfl rfl ?_
      show Zr sc 76 29 [zj x0, zj x1, zj (x2 / 2)] [] w ov w' c s
      refine Zr_st (q := (4, [zj x0, zj x1, zj (x2 / 2)], [])) rfl rfl rfl ?_
      show Zr sc 76 4 [zj x0, zj x1, zj (x2 / 2)] [] w ov w' c s
      exact h
    · replace h := h.2 hp
      show Zr sc 76 16 [zj x0, zj x1, zj x2] [] w ov w' c s
      refine Zr_st (q := (17, [zj x0, zj x1, zj x2], [zj x2])) rfl rfl rfl ?_
      show Zr sc 76 17 [zj x0, zj x1, zj x2] [zj x2] w ov w' c s
      refine Zr_st (q := (18, [zj x0, zj x1, zj x2], [zj x1, zj x2])) rfl rfl rfl ?_
      show Zr sc 76 18 [zj x0, zj x1, zj x2] [zj x1, zj x2] w ov w' c s
      refine Zr_st (q := (19, [zj x0, zj x1, zj x2], [zj x0, zj x1, zj x2])) rfl rfl rfl ?_
      show Zr sc 76 19 [zj x0, zj x1, zj x2] [zj x0, zj x1, zj x2] w ov w' c s
      refine rl_sub rfl ?_
      show Zr sc 76 20 [zj x0, zj x1, zj x2] [zj (x1 - x0), zj x2] w ov w' c s
      obtain ⟨hr_5, h⟩ := h
      refine Zr_br (p := (x1 - x0) < x2) rfl rfl (zcmp_j (cnd := .gt) hr_5.1 hr_5.2) (fun hp => ?_) (fun hp => ?_)
      · replace h := h.1 hp
        show Zr sc 76 25 [zj x0, zj x1, zj x2] [] w ov w' c s
        refine Zr_st (q := (26, [zj x0, zj x1, zj x2], [zj x2])) rfl rfl rfl ?_
        show Zr sc 76 26 [zj x0, zj x1, zj x2] [zj x2] w ov w' c s
        refine rl_ic rfl ?_
        show Zr sc 76 27 [zj x0, zj x1, zj x2] [zj 2, zj x2] w ov w' c s
        obtain ⟨hd_6, h⟩ := h
        refine rl_div rfl hd_6.1 hd_6.2.1 hd_6.2.2.1 hd_6.2.2.2 ?_
        show Zr sc 76 28 [zj x0, zj x1, zj x2] [zj (x2 / 2)] w ov w' c s
        refine Zr_st (q := (29, [zj x0, zj x1, zj (x2 / 2)], [])) rfl rfl rfl ?_
        show Zr sc 76 29 [zj x0, zj x1, zj (x2 / 2)] [] w ov w' c s
        refine Zr_st (q := (4, [zj x0, zj x1, zj (x2 / 2)], [])) rfl rfl rfl ?_
        show Zr sc 76 4 [zj x0, zj x1, zj (x2 / 2)] [] w ov w' c s
        exact h
      · replace h := h.2 hp
        show Zr sc 76 23 [zj x0, zj x1, zj x2] [] w ov w' c s
        refine Zr_st (q := (24, [zj x0, zj x1, zj x2], [zj x2])) rfl rfl rfl ?_
        show Zr sc 76 24 [zj x0, zj x1, zj x2] [zj x2] w ov w' c s
        obtain ⟨h1, h2, h3, h4⟩ := h
        subst h1; subst h2; subst h3; subst h4
        exact Zr_ret (ins := .ireturn) rfl rfl

-- HeapwrightLab$Holes.add(II)V
set_option maxRecDepth 100000 in
theorem V77_0 {sc : List Value} {w w' : List zE} {ov : Option Value} {c s : Nat} {a0 : Nat} {x1 : Int} {x2 : Int} {ct : Int} {op : List Int} {oz : List Int} (L0 : w[a0]? = some (zob 3 [zp (a0 + 1), zp (a0 + 2), zj ct])) (L1 : w[(a0 + 1)]? = some (za op)) (L2 : w[(a0 + 2)]? = some (za oz)) (h : ((zrg ct ∧ zrg 128) ∧ ((128 ≤ ct → (ov = none ∧ w' = w ∧ c = 0 ∧ s = 0)) ∧ (¬ (128 ≤ ct) → (((0 : Int) ≤ ct ∧ ct < (op.length : Int) ∧ ct ≤ (2147483647 : Int)) ∧ (((0 : Int) ≤ ct ∧ ct < (oz.length : Int) ∧ ct ≤ (2147483647 : Int)) ∧ (ov = none ∧ w' = (((w.set (a0 + 1) (za (zsi op ct x1))).set (a0 + 2) (za (zsi oz ct x2))).set a0 (zob 3 [zp (a0 + 1), zp (a0 + 2), zj (ct + 1)])) ∧ c = 0 ∧ s = 0))))))) : Zr sc 77 0 [zp a0, zj x1, zj x2] [] w ov w' c s := by
  refine Zr_st (q := (1, [zp a0, zj x1, zj x2], [zp a0])) rfl rfl rfl ?_
  show Zr sc 77 1 [zp a0, zj x1, zj x2] [zp a0] w ov w' c s
  refine rl_gf rfl L0 rfl rfl ?_
  show Zr sc 77 4 [zp a0, zj x1, zj x2] [zj ct] w ov w' c s
  refine rl_si rfl (by decide) ?_
  show Zr sc 77 7 [zp a0, zj x1, zj x2] [zj 128, zj ct] w ov w' c s
  obtain ⟨hr_1, h⟩ := h
  refine Zr_br (p := 128 ≤ ct) rfl rfl (zcmp_j (cnd := .ge) hr_1.1 hr_1.2) (fun hp => ?_) (fun hp => ?_)
  · replace h := h.1 hp
    show Zr sc 77 40 [zp a0, zj x1, zj x2] [] w ov w' c s
    obtain ⟨h1, h2, h3, h4⟩ := h
    subst h1; subst h2; subst h3; subst h4
    exact Zr_ret (ins := .return_) rfl rfl
  · replace h := h.2 hp
    show Zr sc 77 10 [zp a0, zj x1, zj x2] [] w ov w' c s
    refine Zr_st (q := (11, [zp a0, zj x1, zj x2], [zp a0])) rfl rfl rfl ?_
    show Zr sc 77 11 [zp a0, zj x1, zj x2] [zp a0] w ov w' c s
    refine rl_gf rfl L0 rfl rfl ?_
    show Zr sc 77 14 [zp a0, zj x1, zj x2] [zp (a0 + 1)] w ov w' c s
    refine Zr_st (q := (15, [zp a0, zj x1, zj x2], [zp a0, zp (a0 + 1)])) rfl rfl rfl ?_
    show Zr sc 77 15 [zp a0, zj x1, zj x2] [zp a0, zp (a0 + 1)] w ov w' c s
    refine rl_gf rfl L0 rfl rfl ?_
    show Zr sc 77 18 [zp a0, zj x1, zj x2] [zj ct, zp (a0 + 1)] w ov w' c s
    refine Zr_st (q := (19, [zp a0, zj x1, zj x2], [zj x1, zj ct, zp (a0 + 1)])) rfl rfl rfl ?_
    show Zr sc 77 19 [zp a0, zj x1, zj x2] [zj x1, zj ct, zp (a0 + 1)] w ov w' c s
    obtain ⟨hi_2, h⟩ := h
    refine rl_is rfl L1 hi_2.1 hi_2.2.1 hi_2.2.2 ?_
    show Zr sc 77 20 [zp a0, zj x1, zj x2] [] (w.set (a0 + 1) (za (zsi op ct x1))) ov w' c s
    refine Zr_st (q := (21, [zp a0, zj x1, zj x2], [zp a0])) rfl rfl rfl ?_
    show Zr sc 77 21 [zp a0, zj x1, zj x2] [zp a0] (w.set (a0 + 1) (za (zsi op ct x1))) ov w' c s
    refine rl_gf rfl (zw_o (by omega) L0) rfl rfl ?_
    show Zr sc 77 24 [zp a0, zj x1, zj x2] [zp (a0 + 2)] (w.set (a0 + 1) (za (zsi op ct x1))) ov w' c s
    refine Zr_st (q := (25, [zp a0, zj x1, zj x2], [zp a0, zp (a0 + 2)])) rfl rfl rfl ?_
    show Zr sc 77 25 [zp a0, zj x1, zj x2] [zp a0, zp (a0 + 2)] (w.set (a0 + 1) (za (zsi op ct x1))) ov w' c s
    refine rl_gf rfl (zw_o (by omega) L0) rfl rfl ?_
    show Zr sc 77 28 [zp a0, zj x1, zj x2] [zj ct, zp (a0 + 2)] (w.set (a0 + 1) (za (zsi op ct x1))) ov w' c s
    refine Zr_st (q := (29, [zp a0, zj x1, zj x2], [zj x2, zj ct, zp (a0 + 2)])) rfl rfl rfl ?_
    show Zr sc 77 29 [zp a0, zj x1, zj x2] [zj x2, zj ct, zp (a0 + 2)] (w.set (a0 + 1) (za (zsi op ct x1))) ov w' c s
    obtain ⟨hi_3, h⟩ := h
    refine rl_is rfl (zw_o (by omega) L2) hi_3.1 hi_3.2.1 hi_3.2.2 ?_
    show Zr sc 77 30 [zp a0, zj x1, zj x2] [] ((w.set (a0 + 1) (za (zsi op ct x1))).set (a0 + 2) (za (zsi oz ct x2))) ov w' c s
    refine Zr_st (q := (31, [zp a0, zj x1, zj x2], [zp a0])) rfl rfl rfl ?_
    show Zr sc 77 31 [zp a0, zj x1, zj x2] [zp a0] ((w.set (a0 + 1) (za (zsi op ct x1))).set (a0 + 2) (za (zsi oz ct x2))) ov w' c s
    refine Zr_st (q := (32, [zp a0, zj x1, zj x2], [zp a0, zp a0])) rfl rfl rfl ?_
    show Zr sc 77 32 [zp a0, zj x1, zj x2] [zp a0, zp a0] ((w.set (a0 + 1) (za (zsi op ct x1))).set (a0 + 2) (za (zsi oz ct x2))) ov w' c s
    refine rl_gf rfl (zw_o (by omega) (zw_o (by omega) L0)) rfl rfl ?_
    show Zr sc 77 35 [zp a0, zj x1, zj x2] [zj ct, zp a0] ((w.set (a0 + 1) (za (zsi op ct x1))).set (a0 + 2) (za (zsi oz ct x2))) ov w' c s
    refine rl_ic rfl ?_
    show Zr sc 77 36 [zp a0, zj x1, zj x2] [zj 1, zj ct, zp a0] ((w.set (a0 + 1) (za (zsi op ct x1))).set (a0 + 2) (za (zsi oz ct x2))) ov w' c s
    refine rl_add rfl ?_
    show Zr sc 77 37 [zp a0, zj x1, zj x2] [zj (ct + 1), zp a0] ((w.set (a0 + 1) (za (zsi op ct x1))).set (a0 + 2) (za (zsi oz ct x2))) ov w' c s
    refine rl_pf rfl (zw_o (by omega) (zw_o (by omega) L0)) rfl rfl rfl ?_
    show Zr sc 77 40 [zp a0, zj x1, zj x2] [] (((w.set (a0 + 1) (za (zsi op ct x1))).set (a0 + 2) (za (zsi oz ct x2))).set a0 (zob 3 [zp (a0 + 1), zp (a0 + 2), zj (ct + 1)])) ov w' c s
    obtain ⟨h1, h2, h3, h4⟩ := h
    subst h1; subst h2; subst h3; subst h4
    exact Zr_ret (ins := .return_) rfl rfl

-- HeapwrightLab$Fits.addGap(II)V
set_option maxRecDepth 100000 in
theorem V78_0 {sc : List Value} {w w' : List zE} {ov : Option Value} {c s : Nat} {a0 : Nat} {x1 : Int} {x2 : Int} {wy : Int} {st : Int} {hd : Int} {hn : Int} {sn : Int} {nm : Int} {ar : Int} {pk : Int} {dn : Int} (L0 : w[a0]? = some (zob 2 [zp (a0 + 1), zp (a0 + 6), zj wy, zj st, zj hd, zj hn, zj sn, zp (a0 + 9), zp (a0 + 10), zj nm, zj ar, zj pk, zj dn])) (h : ((zrg x1 ∧ zrg x2) ∧ ((x2 ≤ x1 → (ov = none ∧ w' = w ∧ c = 0 ∧ s = 0)) ∧ (¬ (x2 ≤ x1) → (∃ fs_3 : List Value, w[(a0 + 6)]? = some (zob 3 fs_3) ∧ (∃ w_4 : List zE, Zc sc 77 [zp (a0 + 6), zj x1, zj (x2 - x1)] w none w_4 0 0 ∧ (ov = none ∧ w' = w_4 ∧ c = 0 ∧ s = 0))))))) : Zr sc 78 0 [zp a0, zj x1, zj x2] [] w ov w' c s := by
  refine Zr_st (q := (1, [zp a0, zj x1, zj x2], [zj x1])) rfl rfl rfl ?_
  show Zr sc 78 1 [zp a0, zj x1, zj x2] [zj x1] w ov w' c s
  refine Zr_st (q := (2, [zp a0, zj x1, zj x2], [zj x2, zj x1])) rfl rfl rfl ?_
  show Zr sc 78 2 [zp a0, zj x1, zj x2] [zj x2, zj x1] w ov w' c s
  obtain ⟨hr_1, h⟩ := h
  refine Zr_br (p := x2 ≤ x1) rfl rfl (zcmp_j (cnd := .ge) hr_1.1 hr_1.2) (fun hp => ?_) (fun hp => ?_)
  · replace h := h.1 hp
    show Zr sc 78 16 [zp a0, zj x1, zj x2] [] w ov w' c s
    obtain ⟨h1, h2, h3, h4⟩ := h
    subst h1; subst h2; subst h3; subst h4
    exact Zr_ret (ins := .return_) rfl rfl
  · replace h := h.2 hp
    show Zr sc 78 5 [zp a0, zj x1, zj x2] [] w ov w' c s
    refine Zr_st (q := (6, [zp a0, zj x1, zj x2], [zp a0])) rfl rfl rfl ?_
    show Zr sc 78 6 [zp a0, zj x1, zj x2] [zp a0] w ov w' c s
    refine rl_gf rfl L0 rfl rfl ?_
    show Zr sc 78 9 [zp a0, zj x1, zj x2] [zp (a0 + 6)] w ov w' c s
    refine Zr_st (q := (10, [zp a0, zj x1, zj x2], [zj x1, zp (a0 + 6)])) rfl rfl rfl ?_
    show Zr sc 78 10 [zp a0, zj x1, zj x2] [zj x1, zp (a0 + 6)] w ov w' c s
    refine Zr_st (q := (11, [zp a0, zj x1, zj x2], [zj x2, zj x1, zp (a0 + 6)])) rfl rfl rfl ?_
    show Zr sc 78 11 [zp a0, zj x1, zj x2] [zj x2, zj x1, zp (a0 + 6)] w ov w' c s
    refine Zr_st (q := (12, [zp a0, zj x1, zj x2], [zj x1, zj x2, zj x1, zp (a0 + 6)])) rfl rfl rfl ?_
    show Zr sc 78 12 [zp a0, zj x1, zj x2] [zj x1, zj x2, zj x1, zp (a0 + 6)] w ov w' c s
    refine rl_sub rfl ?_
    show Zr sc 78 13 [zp a0, zj x1, zj x2] [zj (x2 - x1), zj x1, zp (a0 + 6)] w ov w' c s
    obtain ⟨fs_3, hl_2, h⟩ := h
    obtain ⟨w_4, hk_5, h⟩ := h
    refine rn_cal0 (ins := .invokevirtual 59) (rest := []) rfl rfl rfl rfl (zinv_v (fs := _) hl_2 rfl rfl rfl rfl) rfl rfl hk_5 ?_
    show Zr sc 78 16 [zp a0, zj x1, zj x2] [] w_4 ov w' c s
    obtain ⟨h1, h2, h3, h4⟩ := h
    subst h1; subst h2; subst h3; subst h4
    exact Zr_ret (ins := .return_) rfl rfl

-- HeapwrightLab$Slabs.addGap(II)V
set_option maxRecDepth 100000 in
theorem V79_0 {sc : List Value} {w w' : List zE} {ov : Option Value} {c s : Nat} {a0 : Nat} {x1 : Int} {x2 : Int} (h : Zr sc 79 5 [zp a0, zj x1, zj x2, zj x1, zj 0, zmk] [] w ov w' c s) : Zr sc 79 0 [zp a0, zj x1, zj x2, zmk, zmk, zmk] [] w ov w' c s := by
  refine Zr_st (q := (1, [zp a0, zj x1, zj x2, zmk, zmk, zmk], [zj x1])) rfl rfl rfl ?_
  show Zr sc 79 1 [zp a0, zj x1, zj x2, zmk, zmk, zmk] [zj x1] w ov w' c s
  refine Zr_st (q := (2, [zp a0, zj x1, zj x2, zj x1, zmk, zmk], [])) rfl rfl rfl ?_
  show Zr sc 79 2 [zp a0, zj x1, zj x2, zj x1, zmk, zmk] [] w ov w' c s
  refine rl_ic rfl ?_
  show Zr sc 79 3 [zp a0, zj x1, zj x2, zj x1, zmk, zmk] [zj 0] w ov w' c s
  refine Zr_st (q := (5, [zp a0, zj x1, zj x2, zj x1, zj 0, zmk], [])) rfl rfl rfl ?_
  show Zr sc 79 5 [zp a0, zj x1, zj x2, zj x1, zj 0, zmk] [] w ov w' c s
  exact h
set_option maxRecDepth 100000 in
theorem V79_5 {sc : List Value} {w w' : List zE} {ov : Option Value} {c s : Nat} {a0 : Nat} {x1 : Int} {x2 : Int} {x3 : Int} {x4 : Int} {v5 : Value} {wy : Int} {st : Int} {hd : Int} {hn : Int} {sn : Int} {nm : Int} {ar : Int} {pk : Int} {dn : Int} (L0 : w[a0]? = some (zob 4 [zp (a0 + 1), zp (a0 + 6), zj wy, zj st, zj hd, zj hn, zj sn, zp (a0 + 9), zp (a0 + 10), zj nm, zj ar, zj pk, zj dn, zp (a0 + 11)])) (h : ((zrg x4 ∧ zrg 128) ∧ ((128 ≤ x4 → (ov = none ∧ w' = w ∧ c = 0 ∧ s = 0)) ∧ (¬ (128 ≤ x4) → ((zrg x3 ∧ zrg x2) ∧ ((x2 ≤ x3 → (ov = none ∧ w' = w ∧ c = 0 ∧ s = 0)) ∧ (¬ (x2 ≤ x3) → (((0 : Int) ≤ x3 ∧ x3 ≤ (2147483647 : Int) ∧ (0 : Int) < 128 ∧ 128 ≤ (2147483647 : Int)) ∧ ((zrg (x3 % 128)) ∧ (((x3 % 128) ≠ 0 → (((0 : Int) ≤ x3 ∧ x3 ≤ (2147483647 : Int) ∧ (0 : Int) < 128 ∧ 128 ≤ (2147483647 : Int)) ∧ (∃ r_8 : Int, Zc sc 80 [zp a0, zj (x3 / 128)] w (some (zj r_8)) w 0 0 ∧ ((zrg r_8 ∧ zrg 8) ∧ (∃ fs_11 : List Value, w[(a0 + 6)]? = some (zob 3 fs_11) ∧ (∃ w_12 : List zE, Zc sc 77 [zp (a0 + 6), zj x3, zj (max r_8 8)] w none w_12 0 0 ∧ Zr sc 79 5 [zp a0, zj x1, zj x2, zj (x3 + (max r_8 8)), zj (x4 + 1), zj (max r_8 8)] [] w_12 ov w' c s)))))) ∧ (¬ ((x3 % 128) ≠ 0) → ((zrg (x2 - x3) ∧ zrg 128) ∧ (((x2 - x3) < 128 → (((0 : Int) ≤ x3 ∧ x3 ≤ (2147483647 : Int) ∧ (0 : Int) < 128 ∧ 128 ≤ (2147483647 : Int)) ∧ (∃ r_18 : Int, Zc sc 80 [zp a0, zj (x3 / 128)] w (some (zj r_18)) w 0 0 ∧ ((zrg r_18 ∧ zrg 8) ∧ (∃ fs_21 : List Value, w[(a0 + 6)]? = some (zob 3 fs_21) ∧ (∃ w_22 : List zE, Zc sc 77 [zp (a0 + 6), zj x3, zj (max r_18 8)] w none w_22 0 0 ∧ Zr sc 79 5 [zp a0, zj x1, zj x2, zj (x3 + (max r_18 8)), zj (x4 + 1), zj (max r_18 8)] [] w_22 ov w' c s)))))) ∧ (¬ ((x2 - x3) < 128) → (((0 : Int) ≤ (x2 - x3) ∧ (x2 - x3) ≤ (2147483647 : Int) ∧ (0 : Int) < 128 ∧ 128 ≤ (2147483647 : Int)) ∧ (∃ fs_26 : List Value, w[(a0 + 6)]? = some (zob 3 fs_26) ∧ (∃ w_27 : List zE, Zc sc 77 [zp (a0 + 6), zj x3, zj (((x2 - x3) / 128) * 128)] w none w_27 0 0 ∧ Zr sc 79 5 [zp a0, zj x1, zj x2, zj (x3 + (((x2 - x3) / 128) * 128)), zj (x4 + 1), zj (((x2 - x3) / 128) * 128)] [] w_27 ov w' c s))))))))))))))))) : Zr sc 79 5 [zp a0, zj x1, zj x2, zj x3, zj x4, v5] [] w ov w' c s := by
  refine Zr_st (q := (7, [zp a0, zj x1, zj x2, zj x3, zj x4, v5], [zj x4])) rfl rfl rfl ?_
  show Zr sc 79 7 [zp a0, zj x1, zj x2, zj x3, zj x4, v5] [zj x4] w ov w' c s
  refine rl_si rfl (by decide) ?_
  show Zr sc 79 10 [zp a0, zj x1, zj x2, zj x3, zj x4, v5] [zj 128, zj x4] w ov w' c s
  obtain ⟨hr_1, h⟩ := h
  refine Zr_br (p := 128 ≤ x4) rfl rfl (zcmp_j (cnd := .ge) hr_1.1 hr_1.2) (fun hp => ?_) (fun hp => ?_)
  · replace h := h.1 hp
    show Zr sc 79 88 [zp a0, zj x1, zj x2, zj x3, zj x4, v5] [] w ov w' c s
    obtain ⟨h1, h2, h3, h4⟩ := h
    subst h1; subst h2; subst h3; subst h4
    exact Zr_ret (ins := .return_) rfl rfl
  · replace h := h.2 hp
    show Zr sc 79 13 [zp a0, zj x1, zj x2, zj x3, zj x4, v5] [] w ov w' c s
    refine Zr_st (q := (14, [zp a0, zj x1, zj x2, zj x3, zj x4, v5], [zj x3])) rfl rfl rfl ?_
    show Zr sc 79 14 [zp a0, zj x1, zj x2, zj x3, zj x4, v5] [zj x3] w ov w' c s
    refine Zr_st (q := (15, [zp a0, zj x1, zj x2, zj x3, zj x4, v5], [zj x2, zj x3])) rfl rfl rfl ?_
    show Zr sc 79 15 [zp a0, zj x1, zj x2, zj x3, zj x4, v5] [zj x2, zj x3] w ov w' c s
    obtain ⟨hr_2, h⟩ := h
    refine Zr_br (p := x2 ≤ x3) rfl rfl (zcmp_j (cnd := .ge) hr_2.1 hr_2.2) (fun hp => ?_) (fun hp => ?_)
    · replace h := h.1 hp
      show Zr sc 79 88 [zp a0, zj x1, zj x2, zj x3, zj x4, v5] [] w ov w' c s
      obtain ⟨h1, h2, h3, h4⟩ := h
      subst h1; subst h2; subst h3; subst h4
      exact Zr_ret (ins := .return_) rfl rfl
    · replace h := h.2 hp
      show Zr sc 79 18 [zp a0, zj x1, zj x2, zj x3, zj x4, v5] [] w ov w' c s
      refine Zr_st (q := (19, [zp a0, zj x1, zj x2, zj x3, zj x4, v5], [zj x3])) rfl rfl rfl ?_
      show Zr sc 79 19 [zp a0, zj x1, zj x2, zj x3, zj x4, v5] [zj x3] w ov w' c s
      refine rl_si rfl (by decide) ?_
      show Zr sc 79 22 [zp a0, zj x1, zj x2, zj x3, zj x4, v5] [zj 128, zj x3] w ov w' c s
      obtain ⟨hd_3, h⟩ := h
      refine rl_rem rfl hd_3.1 hd_3.2.1 hd_3.2.2.1 hd_3.2.2.2 ?_
      show Zr sc 79 23 [zp a0, zj x1, zj x2, zj x3, zj x4, v5] [zj (x3 % 128)] w ov w' c s
      obtain ⟨hr_4, h⟩ := h
      refine Zr_b0 (p := (x3 % 128) ≠ 0) rfl rfl (zcmp_0 (cnd := .ne) hr_4) (fun hp => ?_) (fun hp => ?_)
      · replace h := h.1 hp
        show Zr sc 79 51 [zp a0, zj x1, zj x2, zj x3, zj x4, v5] [] w ov w' c s
        refine Zr_st (q := (52, [zp a0, zj x1, zj x2, zj x3, zj x4, v5], [zp a0])) rfl rfl rfl ?_
        show Zr sc 79 52 [zp a0, zj x1, zj x2, zj x3, zj x4, v5] [zp a0] w ov w' c s
        refine Zr_st (q := (53, [zp a0, zj x1, zj x2, zj x3, zj x4, v5], [zj x3, zp a0])) rfl rfl rfl ?_
        show Zr sc 79 53 [zp a0, zj x1, zj x2, zj x3, zj x4, v5] [zj x3, zp a0] w ov w' c s
        refine rl_si rfl (by decide) ?_
        show Zr sc 79 56 [zp a0, zj x1, zj x2, zj x3, zj x4, v5] [zj 128, zj x3, zp a0] w ov w' c s
        obtain ⟨hd_5, h⟩ := h
        refine rl_div rfl hd_5.1 hd_5.2.1 hd_5.2.2.1 hd_5.2.2.2 ?_
        show Zr sc 79 57 [zp a0, zj x1, zj x2, zj x3, zj x4, v5] [zj (x3 / 128), zp a0] w ov w' c s
        obtain ⟨r_8, hk_9, h⟩ := h
        refine rn_cal0 (ins := .invokevirtual 50) (rest := []) rfl rfl rfl rfl (zinv_v (fs := _) L0 rfl rfl rfl rfl) rfl rfl hk_9 ?_
        show Zr sc 79 60 [zp a0, zj x1, zj x2, zj x3, zj x4, v5] [zj r_8] w ov w' c s
        refine rl_bi rfl (by decide) ?_
        show Zr sc 79 62 [zp a0, zj x1, zj x2, zj x3, zj x4, v5] [zj 8, zj r_8] w ov w' c s
        obtain ⟨hm_9, h⟩ := h
        refine Zr_mx (b := true) (ins := .invokestatic 42) (rest := []) rfl rfl rfl rfl (zinv_t2 (rest := []) rfl rfl rfl rfl rfl) rfl (zmx_j hm_9.1 hm_9.2) ?_
        show Zr sc 79 65 [zp a0, zj x1, zj x2, zj x3, zj x4, v5] [zj (max r_8 8)] w ov w' c s
        refine Zr_st (q := (67, [zp a0, zj x1, zj x2, zj x3, zj x4, zj (max r_8 8)], [])) rfl rfl rfl ?_
        show Zr sc 79 67 [zp a0, zj x1, zj x2, zj x3, zj x4, zj (max r_8 8)] [] w ov w' c s
        refine Zr_st (q := (68, [zp a0, zj x1, zj x2, zj x3, zj x4, zj (max r_8 8)], [zp a0])) rfl rfl rfl ?_
        show Zr sc 79 68 [zp a0, zj x1, zj x2, zj x3, zj x4, zj (max r_8 8)] [zp a0] w ov w' c s
        refine rl_gf rfl L0 rfl rfl ?_
        show Zr sc 79 71 [zp a0, zj x1, zj x2, zj x3, zj x4, zj (max r_8 8)] [zp (a0 + 6)] w ov w' c s
        refine Zr_st (q := (72, [zp a0, zj x1, zj x2, zj x3, zj x4, zj (max r_8 8)], [zj x3, zp (a0 + 6)])) rfl rfl rfl ?_
        show Zr sc 79 72 [zp a0, zj x1, zj x2, zj x3, zj x4, zj (max r_8 8)] [zj x3, zp (a0 + 6)] w ov w' c s
        refine Zr_st (q := (74, [zp a0, zj x1, zj x2, zj x3, zj x4, zj (max r_8 8)], [zj (max r_8 8), zj x3, zp (a0 + 6)])) rfl rfl rfl ?_
        show Zr sc 79 74 [zp a0, zj x1, zj x2, zj x3, zj x4, zj (max r_8 8)] [zj (max r_8 8), zj x3, zp (a0 + 6)] w ov w' c s
        obtain ⟨fs_11, hl_10, h⟩ := h
        obtain ⟨w_12, hk_13, h⟩ := h
        refine rn_cal0 (ins := .invokevirtual 53) (rest := []) rfl rfl rfl rfl (zinv_v (fs := _) hl_10 rfl rfl rfl rfl) rfl rfl hk_13 ?_
        show Zr sc 79 77 [zp a0, zj x1, zj x2, zj x3, zj x4, zj (max r_8 8)] [] w_12 ov w' c s
        refine Zr_st (q := (78, [zp a0, zj x1, zj x2, zj x3, zj x4, zj (max r_8 8)], [zj x3])) rfl rfl rfl ?_
        show Zr sc 79 78 [zp a0, zj x1, zj x2, zj x3, zj x4, zj (max r_8 8)] [zj x3] w_12 ov w' c s
        refine Zr_st (q := (80, [zp a0, zj x1, zj x2, zj x3, zj x4, zj (max r_8 8)], [zj (max r_8 8), zj x3])) rfl rfl rfl ?_
        show Zr sc 79 80 [zp a0, zj x1, zj x2, zj x3, zj x4, zj (max r_8 8)] [zj (max r_8 8), zj x3] w_12 ov w' c s
        refine rl_add rfl ?_
        show Zr sc 79 81 [zp a0, zj x1, zj x2, zj x3, zj x4, zj (max r_8 8)] [zj (x3 + (max r_8 8))] w_12 ov w' c s
        refine Zr_st (q := (82, [zp a0, zj x1, zj x2, zj (x3 + (max r_8 8)), zj x4, zj (max r_8 8)], [])) rfl rfl rfl ?_
        show Zr sc 79 82 [zp a0, zj x1, zj x2, zj (x3 + (max r_8 8)), zj x4, zj (max r_8 8)] [] w_12 ov w' c s
        refine rl_inc rfl rfl rfl rfl ?_
        show Zr sc 79 85 [zp a0, zj x1, zj x2, zj (x3 + (max r_8 8)), zj (x4 + 1), zj (max r_8 8)] [] w_12 ov w' c s
        refine Zr_st (q := (5, [zp a0, zj x1, zj x2, zj (x3 + (max r_8 8)), zj (x4 + 1), zj (max r_8 8)], [])) rfl rfl rfl ?_
        show Zr sc 79 5 [zp a0, zj x1, zj x2, zj (x3 + (max r_8 8)), zj (x4 + 1), zj (max r_8 8)] [] w_12 ov w' c s
        exact h
      · replace h := h.2 hp
        show Zr sc 79 26 [zp a0, zj x1, zj x2, zj x3, zj x4, v5] [] w ov w' c s
        refine Zr_st (q := (27, [zp a0, zj x1, zj x2, zj x3, zj x4, v5], [zj x2])) rfl rfl rfl ?_
        show Zr sc 79 27 [zp a0, zj x1, zj x2, zj x3, zj x4, v5] [zj x2] w ov w' c s
        refine Zr_st (q := (28, [zp a0, zj x1, zj x2, zj x3, zj x4, v5], [zj x3, zj x2])) rfl rfl rfl ?_
        show Zr sc 79 28 [zp a0, zj x1, zj x2, zj x3, zj x4, v5] [zj x3, zj x2] w ov w' c s
        refine rl_sub rfl ?_
        show Zr sc 79 29 [zp a0, zj x1, zj x2, zj x3, zj x4, v5] [zj (x2 - x3)] w ov w' c s
        refine rl_si rfl (by decide) ?_
        show Zr sc 79 32 [zp a0, zj x1, zj x2, zj x3, zj x4, v5] [zj 128, zj (x2 - x3)] w ov w' c s
        obtain ⟨hr_14, h⟩ := h
        refine Zr_br (p := (x2 - x3) < 128) rfl rfl (zcmp_j (cnd := .lt) hr_14.1 hr_14.2) (fun hp => ?_) (fun hp => ?_)
        · replace h := h.1 hp
          show Zr sc 79 51 [zp a0, zj x1, zj x2, zj x3, zj x4, v5] [] w ov w' c s
          refine Zr_st (q := (52, [zp a0, zj x1, zj x2, zj x3, zj x4, v5], [zp a0])) rfl rfl rfl ?_
          show Zr sc 79 52 [zp a0, zj x1, zj x2, zj x3, zj x4, v5] [zp a0] w ov w' c s
          refine Zr_st (q := (53, [zp a0, zj x1, zj x2, zj x3, zj x4, v5], [zj x3, zp a0])) rfl rfl rfl ?_
          show Zr sc 79 53 [zp a0, zj x1, zj x2, zj x3, zj x4, v5] [zj x3, zp a0] w ov w' c s
          refine rl_si rfl (by decide) ?_
          show Zr sc 79 56 [zp a0, zj x1, zj x2, zj x3, zj x4, v5] [zj 128, zj x3, zp a0] w ov w' c s
          obtain ⟨hd_15, h⟩ := h
          refine rl_div rfl hd_15.1 hd_15.2.1 hd_15.2.2.1 hd_15.2.2.2 ?_
          show Zr sc 79 57 [zp a0, zj x1, zj x2, zj x3, zj x4, v5] [zj (x3 / 128), zp a0] w ov w' c s
          obtain ⟨r_18, hk_9, h⟩ := h
          refine rn_cal0 (ins := .invokevirtual 50) (rest := []) rfl rfl rfl rfl (zinv_v (fs := _) L0 rfl rfl rfl rfl) rfl rfl hk_9 ?_
          show Zr sc 79 60 [zp a0, zj x1, zj x2, zj x3, zj x4, v5] [zj r_18] w ov w' c s
          refine rl_bi rfl (by decide) ?_
          show Zr sc 79 62 [zp a0, zj x1, zj x2, zj x3, zj x4, v5] [zj 8, zj r_18] w ov w' c s
          obtain ⟨hm_19, h⟩ := h
          refine Zr_mx (b := true) (ins := .invokestatic 42) (rest := []) rfl rfl rfl rfl (zinv_t2 (rest := []) rfl rfl rfl rfl rfl) rfl (zmx_j hm_19.1 hm_19.2) ?_
          show Zr sc 79 65 [zp a0, zj x1, zj x2, zj x3, zj x4, v5] [zj (max r_18 8)] w ov w' c s
          refine Zr_st (q := (67, [zp a0, zj x1, zj x2, zj x3, zj x4, zj (max r_18 8)], [])) rfl rfl rfl ?_
          show Zr sc 79 67 [zp a0, zj x1, zj x2, zj x3, zj x4, zj (max r_18 8)] [] w ov w' c s
          refine Zr_st (q := (68, [zp a0, zj x1, zj x2, zj x3, zj x4, zj (max r_18 8)], [zp a0])) rfl rfl rfl ?_
          show Zr sc 79 68 [zp a0, zj x1, zj x2, zj x3, zj x4, zj (max r_18 8)] [zp a0] w ov w' c s
          refine rl_gf rfl L0 rfl rfl ?_
          show Zr sc 79 71 [zp a0, zj x1, zj x2, zj x3, zj x4, zj (max r_18 8)] [zp (a0 + 6)] w ov w' c s
          refine Zr_st (q := (72, [zp a0, zj x1, zj x2, zj x3, zj x4, zj (max r_18 8)], [zj x3, zp (a0 + 6)])) rfl rfl rfl ?_
          show Zr sc 79 72 [zp a0, zj x1, zj x2, zj x3, zj x4, zj (max r_18 8)] [zj x3, zp (a0 + 6)] w ov w' c s
          refine Zr_st (q := (74, [zp a0, zj x1, zj x2, zj x3, zj x4, zj (max r_18 8)], [zj (max r_18 8), zj x3, zp (a0 + 6)])) rfl rfl rfl ?_
          show Zr sc 79 74 [zp a0, zj x1, zj x2, zj x3, zj x4, zj (max r_18 8)] [zj (max r_18 8), zj x3, zp (a0 + 6)] w ov w' c s
          obtain ⟨fs_21, hl_20, h⟩ := h
          obtain ⟨w_22, hk_23, h⟩ := h
          refine rn_cal0 (ins := .invokevirtual 53) (rest := []) rfl rfl rfl rfl (zinv_v (fs := _) hl_20 rfl rfl rfl rfl) rfl rfl hk_23 ?_
          show Zr sc 79 77 [zp a0, zj x1, zj x2, zj x3, zj x4, zj (max r_18 8)] [] w_22 ov w' c s
          refine Zr_st (q := (78, [zp a0, zj x1, zj x2, zj x3, zj x4, zj (max r_18 8)], [zj x3])) rfl rfl rfl ?_
          show Zr sc 79 78 [zp a0, zj x1, zj x2, zj x3, zj x4, zj (max r_18 8)] [zj x3] w_22 ov w' c s
          refine Zr_st (q := (80, [zp a0, zj x1, zj x2, zj x3, zj x4, zj (max r_18 8)], [zj (max r_18 8), zj x3])) rfl rfl rfl ?_
          show Zr sc 79 80 [zp a0, zj x1, zj x2, zj x3, zj x4, zj (max r_18 8)] [zj (max r_18 8), zj x3] w_22 ov w' c s
          refine rl_add rfl ?_
          show Zr sc 79 81 [zp a0, zj x1, zj x2, zj x3, zj x4, zj (max r_18 8)] [zj (x3 + (max r_18 8))] w_22 ov w' c s
          refine Zr_st (q := (82, [zp a0, zj x1, zj x2, zj (x3 + (max r_18 8)), zj x4, zj (max r_18 8)], [])) rfl rfl rfl ?_
          show Zr sc 79 82 [zp a0, zj x1, zj x2, zj (x3 + (max r_18 8)), zj x4, zj (max r_18 8)] [] w_22 ov w' c s
          refine rl_inc rfl rfl rfl rfl ?_
          show Zr sc 79 85 [zp a0, zj x1, zj x2, zj (x3 + (max r_18 8)), zj (x4 + 1), zj (max r_18 8)] [] w_22 ov w' c s
          refine Zr_st (q := (5, [zp a0, zj x1, zj x2, zj (x3 + (max r_18 8)), zj (x4 + 1), zj (max r_18 8)], [])) rfl rfl rfl ?_
          show Zr sc 79 5 [zp a0, zj x1, zj x2, zj (x3 + (max r_18 8)), zj (x4 + 1), zj (max r_18 8)] [] w_22 ov w' c s
          exact h
        · replace h := h.2 hp
          show Zr sc 79 35 [zp a0, zj x1, zj x2, zj x3, zj x4, v5] [] w ov w' c s
          refine Zr_st (q := (36, [zp a0, zj x1, zj x2, zj x3, zj x4, v5], [zj x2])) rfl rfl rfl ?_
          show Zr sc 79 36 [zp a0, zj x1, zj x2, zj x3, zj x4, v5] [zj x2] w ov w' c s
          refine Zr_st (q := (37, [zp a0, zj x1, zj x2, zj x3, zj x4, v5], [zj x3, zj x2])) rfl rfl rfl ?_
          show Zr sc 79 37 [zp a0, zj x1, zj x2, zj x3, zj x4, v5] [zj x3, zj x2] w ov w' c s
          refine rl_sub rfl ?_
          show Zr sc 79 38 [zp a0, zj x1, zj x2, zj x3, zj x4, v5] [zj (x2 - x3)] w ov w' c s
          refine rl_si rfl (by decide) ?_
          show Zr sc 79 41 [zp a0, zj x1, zj x2, zj x3, zj x4, v5] [zj 128, zj (x2 - x3)] w ov w' c s
          obtain ⟨hd_24, h⟩ := h
          refine rl_div rfl hd_24.1 hd_24.2.1 hd_24.2.2.1 hd_24.2.2.2 ?_
          show Zr sc 79 42 [zp a0, zj x1, zj x2, zj x3, zj x4, v5] [zj ((x2 - x3) / 128)] w ov w' c s
          refine rl_si rfl (by decide) ?_
          show Zr sc 79 45 [zp a0, zj x1, zj x2, zj x3, zj x4, v5] [zj 128, zj ((x2 - x3) / 128)] w ov w' c s
          refine rl_mul rfl ?_
          show Zr sc 79 46 [zp a0, zj x1, zj x2, zj x3, zj x4, v5] [zj (((x2 - x3) / 128) * 128)] w ov w' c s
          refine Zr_st (q := (48, [zp a0, zj x1, zj x2, zj x3, zj x4, zj (((x2 - x3) / 128) * 128)], [])) rfl rfl rfl ?_
          show Zr sc 79 48 [zp a0, zj x1, zj x2, zj x3, zj x4, zj (((x2 - x3) / 128) * 128)] [] w ov w' c s
          refine Zr_st (q := (67, [zp a0, zj x1, zj x2, zj x3, zj x4, zj (((x2 - x3) / 128) * 128)], [])) rfl rfl rfl ?_
          show Zr sc 79 67 [zp a0, zj x1, zj x2, zj x3, zj x4, zj (((x2 - x3) / 128) * 128)] [] w ov w' c s
          refine Zr_st (q := (68, [zp a0, zj x1, zj x2, zj x3, zj x4, zj (((x2 - x3) / 128) * 128)], [zp a0])) rfl rfl rfl ?_
          show Zr sc 79 68 [zp a0, zj x1, zj x2, zj x3, zj x4, zj (((x2 - x3) / 128) * 128)] [zp a0] w ov w' c s
          refine rl_gf rfl L0 rfl rfl ?_
          show Zr sc 79 71 [zp a0, zj x1, zj x2, zj x3, zj x4, zj (((x2 - x3) / 128) * 128)] [zp (a0 + 6)] w ov w' c s
          refine Zr_st (q := (72, [zp a0, zj x1, zj x2, zj x3, zj x4, zj (((x2 - x3) / 128) * 128)], [zj x3, zp (a0 + 6)])) rfl rfl rfl ?_
          show Zr sc 79 72 [zp a0, zj x1, zj x2, zj x3, zj x4, zj (((x2 - x3) / 128) * 128)] [zj x3, zp (a0 + 6)] w ov w' c s
          refine Zr_st (q := (74, [zp a0, zj x1, zj x2, zj x3, zj x4, zj (((x2 - x3) / 128) * 128)], [zj (((x2 - x3) / 128) * 128), zj x3, zp (a0 + 6)])) rfl rfl rfl ?_
          show Zr sc 79 74 [zp a0, zj x1, zj x2, zj x3, zj x4, zj (((x2 - x3) / 128) * 128)] [zj (((x2 - x3) / 128) * 128), zj x3, zp (a0 + 6)] w ov w' c s
          obtain ⟨fs_26, hl_25, h⟩ := h
          obtain ⟨w_27, hk_28, h⟩ := h
          refine rn_cal0 (ins := .invokevirtual 53) (rest := []) rfl rfl rfl rfl (zinv_v (fs := _) hl_25 rfl rfl rfl rfl) rfl rfl hk_28 ?_
          show Zr sc 79 77 [zp a0, zj x1, zj x2, zj x3, zj x4, zj (((x2 - x3) / 128) * 128)] [] w_27 ov w' c s
          refine Zr_st (q := (78, [zp a0, zj x1, zj x2, zj x3, zj x4, zj (((x2 - x3) / 128) * 128)], [zj x3])) rfl rfl rfl ?_
          show Zr sc 79 78 [zp a0, zj x1, zj x2, zj x3, zj x4, zj (((x2 - x3) / 128) * 128)] [zj x3] w_27 ov w' c s
          refine Zr_st (q := (80, [zp a0, zj x1, zj x2, zj x3, zj x4, zj (((x2 - x3) / 128) * 128)], [zj (((x2 - x3) / 128) * 128), zj x3])) rfl rfl rfl ?_
          show Zr sc 79 80 [zp a0, zj x1, zj x2, zj x3, zj x4, zj (((x2 - x3) / 128) * 128)] [zj (((x2 - x3) / 128) * 128), zj x3] w_27 ov w' c s
          refine rl_add rfl ?_
          show Zr sc 79 81 [zp a0, zj x1, zj x2, zj x3, zj x4, zj (((x2 - x3) / 128) * 128)] [zj (x3 + (((x2 - x3) / 128) * 128))] w_27 ov w' c s
          refine Zr_st (q := (82, [zp a0, zj x1, zj x2, zj (x3 + (((x2 - x3) / 128) * 128)), zj x4, zj (((x2 - x3) / 128) * 128)], [])) rfl rfl rfl ?_
          show Zr sc 79 82 [zp a0, zj x1, zj x2, zj (x3 + (((x2 - x3) / 128) * 128)), zj x4, zj (((x2 - x3) / 128) * 128)] [] w_27 ov w' c s
          refine rl_inc rfl rfl rfl rfl ?_
          show Zr sc 79 85 [zp a0, zj x1, zj x2, zj (x3 + (((x2 - x3) / 128) * 128)), zj (x4 + 1), zj (((x2 - x3) / 128) * 128)] [] w_27 ov w' c s
          refine Zr_st (q := (5, [zp a0, zj x1, zj x2, zj (x3 + (((x2 - x3) / 128) * 128)), zj (x4 + 1), zj (((x2 - x3) / 128) * 128)], [])) rfl rfl rfl ?_
          show Zr sc 79 5 [zp a0, zj x1, zj x2, zj (x3 + (((x2 - x3) / 128) * 128)), zj (x4 + 1), zj (((x2 - x3) / 128) * 128)] [] w_27 ov w' c s
          exact h

-- HeapwrightLab$Slabs.classOf(I)I
set_option maxRecDepth 100000 in
theorem V80_0 {sc : List Value} {w w' : List zE} {ov : Option Value} {c s : Nat} {a0 : Nat} {x1 : Int} {wy : Int} {st : Int} {hd : Int} {hn : Int} {sn : Int} {nm : Int} {ar : Int} {pk : Int} {dn : Int} {pg : List Int} (L0 : w[a0]? = some (zob 4 [zp (a0 + 1), zp (a0 + 6), zj wy, zj st, zj hd, zj hn, zj sn, zp (a0 + 9), zp (a0 + 10), zj nm, zj ar, zj pk, zj dn, zp (a0 + 11)])) (L11 : w[(a0 + 11)]? = some (za pg)) (h : ((zrg x1) ∧ ((x1 < 0 → (ov = some (zj (-1)) ∧ w' = w ∧ c = 0 ∧ s = 0)) ∧ (¬ (x1 < 0) → ((zrg x1 ∧ zrg 8) ∧ ((8 ≤ x1 → (ov = some (zj (-1)) ∧ w' = w ∧ c = 0 ∧ s = 0)) ∧ (¬ (8 ≤ x1) → (((0 : Int) ≤ x1 ∧ x1 < (pg.length : Int) ∧ x1 ≤ (2147483647 : Int)) ∧ (ov = some (zj (zgi pg x1)) ∧ w' = w ∧ c = 0 ∧ s = 0))))))))) : Zr sc 80 0 [zp a0, zj x1] [] w ov w' c s := by
  refine Zr_st (q := (1, [zp a0, zj x1], [zj x1])) rfl rfl rfl ?_
  show Zr sc 80 1 [zp a0, zj x1] [zj x1] w ov w' c s
  obtain ⟨hr_1, h⟩ := h
  refine Zr_b0 (p := x1 < 0) rfl rfl (zcmp_0 (cnd := .lt) hr_1) (fun hp => ?_) (fun hp => ?_)
  · replace h := h.1 hp
    show Zr sc 80 19 [zp a0, zj x1] [] w ov w' c s
    refine rl_ic rfl ?_
    show Zr sc 80 20 [zp a0, zj x1] [zj (-1)] w ov w' c s
    obtain ⟨h1, h2, h3, h4⟩ := h
    subst h1; subst h2; subst h3; subst h4
    exact Zr_ret (ins := .ireturn) rfl rfl
  · replace h := h.2 hp
    show Zr sc 80 4 [zp a0, zj x1] [] w ov w' c s
    refine Zr_st (q := (5, [zp a0, zj x1], [zj x1])) rfl rfl rfl ?_
    show Zr sc 80 5 [zp a0, zj x1] [zj x1] w ov w' c s
    refine rl_bi rfl (by decide) ?_
    show Zr sc 80 7 [zp a0, zj x1] [zj 8, zj x1] w ov w' c s
    obtain ⟨hr_2, h⟩ := h
    refine Zr_br (p := 8 ≤ x1) rfl rfl (zcmp_j (cnd := .ge) hr_2.1 hr_2.2) (fun hp => ?_) (fun hp => ?_)
    · replace h := h.1 hp
      show Zr sc 80 19 [zp a0, zj x1] [] w ov w' c s
      refine rl_ic rfl ?_
      show Zr sc 80 20 [zp a0, zj x1] [zj (-1)] w ov w' c s
      obtain ⟨h1, h2, h3, h4⟩ := h
      subst h1; subst h2; subst h3; subst h4
      exact Zr_ret (ins := .ireturn) rfl rfl
    · replace h := h.2 hp
      show Zr sc 80 10 [zp a0, zj x1] [] w ov w' c s
      refine Zr_st (q := (11, [zp a0, zj x1], [zp a0])) rfl rfl rfl ?_
      show Zr sc 80 11 [zp a0, zj x1] [zp a0] w ov w' c s
      refine rl_gf rfl L0 rfl rfl ?_
      show Zr sc 80 14 [zp a0, zj x1] [zp (a0 + 11)] w ov w' c s
      refine Zr_st (q := (15, [zp a0, zj x1], [zj x1, zp (a0 + 11)])) rfl rfl rfl ?_
      show Zr sc 80 15 [zp a0, zj x1] [zj x1, zp (a0 + 11)] w ov w' c s
      obtain ⟨hi_3, h⟩ := h
      refine rl_ia rfl L11 hi_3.1 hi_3.2.1 hi_3.2.2 ?_
      show Zr sc 80 16 [zp a0, zj x1] [zj (zgi pg x1)] w ov w' c s
      refine Zr_st (q := (20, [zp a0, zj x1], [zj (zgi pg x1)])) rfl rfl rfl ?_
      show Zr sc 80 20 [zp a0, zj x1] [zj (zgi pg x1)] w ov w' c s
      obtain ⟨h1, h2, h3, h4⟩ := h
      subst h1; subst h2; subst h3; subst h4
      exact Zr_ret (ins := .ireturn) rfl rfl

-- HeapwrightLab$Memory.handBehind(I)V
set_option maxRecDepth 100000 in
theorem V81_0_1 {sc : List Value} {w w' : List zE} {ov : Option Value} {c s : Nat} {a0 : Nat} {x1 : Int} {wy : Int} {st : Int} {hd : Int} {hn : Int} {sn : Int} {nm : Int} {ar : Int} {pk : Int} {dn : Int} (L0 : w[a0]? = some (zob 1 [zp (a0 + 1), zp (a0 + 6), zj wy, zj st, zj hd, zj hn, zj sn, zp (a0 + 9), zp (a0 + 10), zj nm, zj ar, zj pk, zj dn])) (h : ((zrg x1 ∧ zrg 1024) ∧ ((1024 ≤ x1 → (ov = none ∧ w' = (w.set a0 (zob 1 [zp (a0 + 1), zp (a0 + 6), zj wy, zj st, zj hd, zj 0, zj sn, zp (a0 + 9), zp (a0 + 10), zj nm, zj ar, zj pk, zj dn])) ∧ c = 0 ∧ s = 0)) ∧ (¬ (1024 ≤ x1) → (ov = none ∧ w' = (w.set a0 (zob 1 [zp (a0 + 1), zp (a0 + 6), zj wy, zj st, zj hd, zj x1, zj sn, zp (a0 + 9), zp (a0 + 10), zj nm, zj ar, zj pk, zj dn])) ∧ c = 0 ∧ s = 0))))) : Zr sc 81 0 [zp a0, zj x1] [] w ov w' c s := by
  refine Zr_st (q := (1, [zp a0, zj x1], [zp a0])) rfl rfl rfl ?_
  show Zr sc 81 1 [zp a0, zj x1] [zp a0] w ov w' c s
  refine Zr_st (q := (2, [zp a0, zj x1], [zj x1, zp a0])) rfl rfl rfl ?_
  show Zr sc 81 2 [zp a0, zj x1] [zj x1, zp a0] w ov w' c s
  refine rl_si rfl (by decide) ?_
  show Zr sc 81 5 [zp a0, zj x1] [zj 1024, zj x1, zp a0] w ov w' c s
  obtain ⟨hr_1, h⟩ := h
  refine Zr_br (p := 1024 ≤ x1) rfl rfl (zcmp_j (cnd := .ge) hr_1.1 hr_1.2) (fun hp => ?_) (fun hp => ?_)
  · replace h := h.1 hp
    show Zr sc 81 12 [zp a0, zj x1] [zp a0] w ov w' c s
    refine rl_ic rfl ?_
    show Zr sc 81 13 [zp a0, zj x1] [zj 0, zp a0] w ov w' c s
    refine rl_pf rfl L0 rfl rfl rfl ?_
    show Zr sc 81 16 [zp a0, zj x1] [] (w.set a0 (zob 1 [zp (a0 + 1), zp (a0 + 6), zj wy, zj st, zj hd, zj 0, zj sn, zp (a0 + 9), zp (a0 + 10), zj nm, zj ar, zj pk, zj dn])) ov w' c s
    obtain ⟨h1, h2, h3, h4⟩ := h
    subst h1; subst h2; subst h3; subst h4
    exact Zr_ret (ins := .return_) rfl rfl
  · replace h := h.2 hp
    show Zr sc 81 8 [zp a0, zj x1] [zp a0] w ov w' c s
    refine Zr_st (q := (9, [zp a0, zj x1], [zj x1, zp a0])) rfl rfl rfl ?_
    show Zr sc 81 9 [zp a0, zj x1] [zj x1, zp a0] w ov w' c s
    refine Zr_st (q := (13, [zp a0, zj x1], [zj x1, zp a0])) rfl rfl rfl ?_
    show Zr sc 81 13 [zp a0, zj x1] [zj x1, zp a0] w ov w' c s
    refine rl_pf rfl L0 rfl rfl rfl ?_
    show Zr sc 81 16 [zp a0, zj x1] [] (w.set a0 (zob 1 [zp (a0 + 1), zp (a0 + 6), zj wy, zj st, zj hd, zj x1, zj sn, zp (a0 + 9), zp (a0 + 10), zj nm, zj ar, zj pk, zj dn])) ov w' c s
    obtain ⟨h1, h2, h3, h4⟩ := h
    subst h1; subst h2; subst h3; subst h4
    exact Zr_ret (ins := .return_) rfl rfl

-- HeapwrightLab$Memory.handBehind(I)V
set_option maxRecDepth 100000 in
theorem V81_0_2 {sc : List Value} {w w' : List zE} {ov : Option Value} {c s : Nat} {a0 : Nat} {x1 : Int} {wy : Int} {st : Int} {hd : Int} {hn : Int} {sn : Int} {nm : Int} {ar : Int} {pk : Int} {dn : Int} (L0 : w[a0]? = some (zob 2 [zp (a0 + 1), zp (a0 + 6), zj wy, zj st, zj hd, zj hn, zj sn, zp (a0 + 9), zp (a0 + 10), zj nm, zj ar, zj pk, zj dn])) (h : ((zrg x1 ∧ zrg 1024) ∧ ((1024 ≤ x1 → (ov = none ∧ w' = (w.set a0 (zob 2 [zp (a0 + 1), zp (a0 + 6), zj wy, zj st, zj hd, zj 0, zj sn, zp (a0 + 9), zp (a0 + 10), zj nm, zj ar, zj pk, zj dn])) ∧ c = 0 ∧ s = 0)) ∧ (¬ (1024 ≤ x1) → (ov = none ∧ w' = (w.set a0 (zob 2 [zp (a0 + 1), zp (a0 + 6), zj wy, zj st, zj hd, zj x1, zj sn, zp (a0 + 9), zp (a0 + 10), zj nm, zj ar, zj pk, zj dn])) ∧ c = 0 ∧ s = 0))))) : Zr sc 81 0 [zp a0, zj x1] [] w ov w' c s := by
  refine Zr_st (q := (1, [zp a0, zj x1], [zp a0])) rfl rfl rfl ?_
  show Zr sc 81 1 [zp a0, zj x1] [zp a0] w ov w' c s
  refine Zr_st (q := (2, [zp a0, zj x1], [zj x1, zp a0])) rfl rfl rfl ?_
  show Zr sc 81 2 [zp a0, zj x1] [zj x1, zp a0] w ov w' c s
  refine rl_si rfl (by decide) ?_
  show Zr sc 81 5 [zp a0, zj x1] [zj 1024, zj x1, zp a0] w ov w' c s
  obtain ⟨hr_1, h⟩ := h
  refine Zr_br (p := 1024 ≤ x1) rfl rfl (zcmp_j (cnd := .ge) hr_1.1 hr_1.2) (fun hp => ?_) (fun hp => ?_)
  · replace h := h.1 hp
    show Zr sc 81 12 [zp a0, zj x1] [zp a0] w ov w' c s
    refine rl_ic rfl ?_
    show Zr sc 81 13 [zp a0, zj x1] [zj 0, zp a0] w ov w' c s
    refine rl_pf rfl L0 rfl rfl rfl ?_
    show Zr sc 81 16 [zp a0, zj x1] [] (w.set a0 (zob 2 [zp (a0 + 1), zp (a0 + 6), zj wy, zj st, zj hd, zj 0, zj sn, zp (a0 + 9), zp (a0 + 10), zj nm, zj ar, zj pk, zj dn])) ov w' c s
    obtain ⟨h1, h2, h3, h4⟩ := h
    subst h1; subst h2; subst h3; subst h4
    exact Zr_ret (ins := .return_) rfl rfl
  · replace h := h.2 hp
    show Zr sc 81 8 [zp a0, zj x1] [zp a0] w ov w' c s
    refine Zr_st (q := (9, [zp a0, zj x1], [zj x1, zp a0])) rfl rfl rfl ?_
    show Zr sc 81 9 [zp a0, zj x1] [zj x1, zp a0] w ov w' c s
    refine Zr_st (q := (13, [zp a0, zj x1], [zj x1, zp a0])) rfl rfl rfl ?_
    show Zr sc 81 13 [zp a0, zj x1] [zj x1, zp a0] w ov w' c s
    refine rl_pf rfl L0 rfl rfl rfl ?_
    show Zr sc 81 16 [zp a0, zj x1] [] (w.set a0 (zob 2 [zp (a0 + 1), zp (a0 + 6), zj wy, zj st, zj hd, zj x1, zj sn, zp (a0 + 9), zp (a0 + 10), zj nm, zj ar, zj pk, zj dn])) ov w' c s
    obtain ⟨h1, h2, h3, h4⟩ := h
    subst h1; subst h2; subst h3; subst h4
    exact Zr_ret (ins := .return_) rfl rfl

-- HeapwrightLab$Memory.handBehind(I)V
set_option maxRecDepth 100000 in
theorem V81_0_4 {sc : List Value} {w w' : List zE} {ov : Option Value} {c s : Nat} {a0 : Nat} {x1 : Int} {wy : Int} {st : Int} {hd : Int} {hn : Int} {sn : Int} {nm : Int} {ar : Int} {pk : Int} {dn : Int} (L0 : w[a0]? = some (zob 4 [zp (a0 + 1), zp (a0 + 6), zj wy, zj st, zj hd, zj hn, zj sn, zp (a0 + 9), zp (a0 + 10), zj nm, zj ar, zj pk, zj dn, zp (a0 + 11)])) (h : ((zrg x1 ∧ zrg 1024) ∧ ((1024 ≤ x1 → (ov = none ∧ w' = (w.set a0 (zob 4 [zp (a0 + 1), zp (a0 + 6), zj wy, zj st, zj hd, zj 0, zj sn, zp (a0 + 9), zp (a0 + 10), zj nm, zj ar, zj pk, zj dn, zp (a0 + 11)])) ∧ c = 0 ∧ s = 0)) ∧ (¬ (1024 ≤ x1) → (ov = none ∧ w' = (w.set a0 (zob 4 [zp (a0 + 1), zp (a0 + 6), zj wy, zj st, zj hd, zj x1, zj sn, zp (a0 + 9), zp (a0 + 10), zj nm, zj ar, zj pk, zj dn, zp (a0 + 11)])) ∧ c = 0 ∧ s = 0))))) : Zr sc 81 0 [zp a0, zj x1] [] w ov w' c s := by
  refine Zr_st (q := (1, [zp a0, zj x1], [zp a0])) rfl rfl rfl ?_
  show Zr sc 81 1 [zp a0, zj x1] [zp a0] w ov w' c s
  refine Zr_st (q := (2, [zp a0, zj x1], [zj x1, zp a0])) rfl rfl rfl ?_
  show Zr sc 81 2 [zp a0, zj x1] [zj x1, zp a0] w ov w' c s
  refine rl_si rfl (by decide) ?_
  show Zr sc 81 5 [zp a0, zj x1] [zj 1024, zj x1, zp a0] w ov w' c s
  obtain ⟨hr_1, h⟩ := h
  refine Zr_br (p := 1024 ≤ x1) rfl rfl (zcmp_j (cnd := .ge) hr_1.1 hr_1.2) (fun hp => ?_) (fun hp => ?_)
  · replace h := h.1 hp
    show Zr sc 81 12 [zp a0, zj x1] [zp a0] w ov w' c s
    refine rl_ic rfl ?_
    show Zr sc 81 13 [zp a0, zj x1] [zj 0, zp a0] w ov w' c s
    refine rl_pf rfl L0 rfl rfl rfl ?_
    show Zr sc 81 16 [zp a0, zj x1] [] (w.set a0 (zob 4 [zp (a0 + 1), zp (a0 + 6), zj wy, zj st, zj hd, zj 0, zj sn, zp (a0 + 9), zp (a0 + 10), zj nm, zj ar, zj pk, zj dn, zp (a0 + 11)])) ov w' c s
    obtain ⟨h1, h2, h3, h4⟩ := h
    subst h1; subst h2; subst h3; subst h4
    exact Zr_ret (ins := .return_) rfl rfl
  · replace h := h.2 hp
    show Zr sc 81 8 [zp a0, zj x1] [zp a0] w ov w' c s
    refine Zr_st (q := (9, [zp a0, zj x1], [zj x1, zp a0])) rfl rfl rfl ?_
    show Zr sc 81 9 [zp a0, zj x1] [zj x1, zp a0] w ov w' c s
    refine Zr_st (q := (13, [zp a0, zj x1], [zj x1, zp a0])) rfl rfl rfl ?_
    show Zr sc 81 13 [zp a0, zj x1] [zj x1, zp a0] w ov w' c s
    refine rl_pf rfl L0 rfl rfl rfl ?_
    show Zr sc 81 16 [zp a0, zj x1] [] (w.set a0 (zob 4 [zp (a0 + 1), zp (a0 + 6), zj wy, zj st, zj hd, zj x1, zj sn, zp (a0 + 9), zp (a0 + 10), zj nm, zj ar, zj pk, zj dn, zp (a0 + 11)])) ov w' c s
    obtain ⟨h1, h2, h3, h4⟩ := h
    subst h1; subst h2; subst h3; subst h4
    exact Zr_ret (ins := .return_) rfl rfl

-- HeapwrightLab$Trace.nameOf(I)I
set_option maxRecDepth 100000 in
theorem V82_0 {sc : List Value} {w w' : List zE} {ov : Option Value} {c s : Nat} {a0 : Nat} {x1 : Int} {len : Int} {tn : List Int} (L0 : w[a0]? = some (zob 5 [zp (a0 + 1), zp (a0 + 2), zp (a0 + 3), zj len])) (L2 : w[(a0 + 2)]? = some (za tn)) (h : (∃ r_3 : Int, Zc sc 60 [zp a0, zj x1] w (some (zj r_3)) w 0 0 ∧ ((zrg r_3) ∧ ((r_3 = 0 → (ov = some (zj (-1)) ∧ w' = w ∧ c = 0 ∧ s = 0)) ∧ (¬ (r_3 = 0) → (((0 : Int) ≤ x1 ∧ x1 < (tn.length : Int) ∧ x1 ≤ (2147483647 : Int)) ∧ (ov = some (zj (zgi tn x1)) ∧ w' = w ∧ c = 0 ∧ s = 0))))))) : Zr sc 82 0 [zp a0, zj x1] [] w ov w' c s := by
  refine Zr_st (q := (1, [zp a0, zj x1], [zp a0])) rfl rfl rfl ?_
  show Zr sc 82 1 [zp a0, zj x1] [zp a0] w ov w' c s
  refine Zr_st (q := (2, [zp a0, zj x1], [zj x1, zp a0])) rfl rfl rfl ?_
  show Zr sc 82 2 [zp a0, zj x1] [zj x1, zp a0] w ov w' c s
  obtain ⟨r_3, hk_9, h⟩ := h
  refine rn_cal0 (ins := .invokevirtual 25) (rest := []) rfl rfl rfl rfl (zinv_v (fs := _) L0 rfl rfl rfl rfl) rfl rfl hk_9 ?_
  show Zr sc 82 5 [zp a0, zj x1] [zj r_3] w ov w' c s
  obtain ⟨hr_4, h⟩ := h
  refine Zr_b0 (p := r_3 = 0) rfl rfl (zcmp_0 (cnd := .eq) hr_4) (fun hp => ?_) (fun hp => ?_)
  · replace h := h.1 hp
    show Zr sc 82 17 [zp a0, zj x1] [] w ov w' c s
    refine rl_ic rfl ?_
    show Zr sc 82 18 [zp a0, zj x1] [zj (-1)] w ov w' c s
    obtain ⟨h1, h2, h3, h4⟩ := h
    subst h1; subst h2; subst h3; subst h4
    exact Zr_ret (ins := .ireturn) rfl rfl
  · replace h := h.2 hp
    show Zr sc 82 8 [zp a0, zj x1] [] w ov w' c s
    refine Zr_st (q := (9, [zp a0, zj x1], [zp a0])) rfl rfl rfl ?_
    show Zr sc 82 9 [zp a0, zj x1] [zp a0] w ov w' c s
    refine rl_gf rfl L0 rfl rfl ?_
    show Zr sc 82 12 [zp a0, zj x1] [zp (a0 + 2)] w ov w' c s
    refine Zr_st (q := (13, [zp a0, zj x1], [zj x1, zp (a0 + 2)])) rfl rfl rfl ?_
    show Zr sc 82 13 [zp a0, zj x1] [zj x1, zp (a0 + 2)] w ov w' c s
    obtain ⟨hi_5, h⟩ := h
    refine rl_ia rfl L2 hi_5.1 hi_5.2.1 hi_5.2.2 ?_
    show Zr sc 82 14 [zp a0, zj x1] [zj (zgi tn x1)] w ov w' c s
    refine Zr_st (q := (18, [zp a0, zj x1], [zj (zgi tn x1)])) rfl rfl rfl ?_
    show Zr sc 82 18 [zp a0, zj x1] [zj (zgi tn x1)] w ov w' c s
    obtain ⟨h1, h2, h3, h4⟩ := h
    subst h1; subst h2; subst h3; subst h4
    exact Zr_ret (ins := .ireturn) rfl rfl

-- HeapwrightLab$Memory.release(I)V
set_option maxRecDepth 100000 in
theorem V83_0_1 {sc : List Value} {w w' : List zE} {ov : Option Value} {c s : Nat} {a0 : Nat} {x1 : Int} {wy : Int} {st : Int} {hd : Int} {hn : Int} {sn : Int} {nm : Int} {ar : Int} {pk : Int} {dn : Int} (L0 : w[a0]? = some (zob 1 [zp (a0 + 1), zp (a0 + 6), zj wy, zj st, zj hd, zj hn, zj sn, zp (a0 + 9), zp (a0 + 10), zj nm, zj ar, zj pk, zj dn])) (h : (∃ fs_2 : List Value, w[(a0 + 1)]? = some (zob 0 fs_2) ∧ (∃ r_5 : Int, Zc sc 7 [zp (a0 + 1), zj x1] w (some (zj r_5)) w 0 0 ∧ ((zrg r_5) ∧ ((r_5 ≠ 0 → (∃ r_9 : Int, Zc sc 9 [zp (a0 + 1), zj x1] w (some (zj r_9)) w 0 0 ∧ (∃ r_12 : Int, Zc sc 13 [zp (a0 + 1), zj x1] w (some (zj r_12)) w 0 0 ∧ (∃ w_13 : List zE, Zc sc 84 [zp (a0 + 1), zj x1] w none w_13 0 0 ∧ (∃ fs_16 : List Value, w_13[a0]? = some (zob 1 fs_16) ∧ (∃ w_17 : List zE, Zc sc 69 [zp a0] w_13 none w_17 0 0 ∧ (∃ fs_20 : List Value, w_17[a0]? = some (zob 1 fs_20) ∧ (∃ r_23 : Int, Zc sc 87 [zp a0, zj r_9, zj r_12] w_17 (some (zj r_23)) w_17 0 0 ∧ (∃ w_24 : List zE, Zc sc 64 [zp a0, zj 2, zj r_23] w_17 none w_24 0 0 ∧ (ov = none ∧ w' = w_24 ∧ c = 0 ∧ s = 0)))))))))) ∧ (¬ (r_5 ≠ 0) → (ov = none ∧ w' = w ∧ c = 0 ∧ s = 0))))))) : Zr sc 83 0 [zp a0, zj x1, zmk, zmk] [] w ov w' c s := by
  refine Zr_st (q := (1, [zp a0, zj x1, zmk, zmk], [zp a0])) rfl rfl rfl ?_
  show Zr sc 83 1 [zp a0, zj x1, zmk, zmk] [zp a0] w ov w' c s
  refine rl_gf rfl L0 rfl rfl ?_
  show Zr sc 83 4 [zp a0, zj x1, zmk, zmk] [zp (a0 + 1)] w ov w' c s
  refine Zr_st (q := (5, [zp a0, zj x1, zmk, zmk], [zj x1, zp (a0 + 1)])) rfl rfl rfl ?_
  show Zr sc 83 5 [zp a0, zj x1, zmk, zmk] [zj x1, zp (a0 + 1)] w ov w' c s
  obtain ⟨fs_2, hl_1, h⟩ := h
  obtain ⟨r_5, hk_9, h⟩ := h
  refine rn_cal0 (ins := .invokevirtual 175) (rest := []) rfl rfl rfl rfl (zinv_v (fs := _) hl_1 rfl rfl rfl rfl) rfl rfl hk_9 ?_
  show Zr sc 83 8 [zp a0, zj x1, zmk, zmk] [zj r_5] w ov w' c s
  obtain ⟨hr_6, h⟩ := h
  refine Zr_b0 (p := r_5 ≠ 0) rfl rfl (zcmp_0 (cnd := .ne) hr_6) (fun hp => ?_) (fun hp => ?_)
  · replace h := h.1 hp
    show Zr sc 83 12 [zp a0, zj x1, zmk, zmk] [] w ov w' c s
    refine Zr_st (q := (13, [zp a0, zj x1, zmk, zmk], [zp a0])) rfl rfl rfl ?_
    show Zr sc 83 13 [zp a0, zj x1, zmk, zmk] [zp a0] w ov w' c s
    refine rl_gf rfl L0 rfl rfl ?_
    show Zr sc 83 16 [zp a0, zj x1, zmk, zmk] [zp (a0 + 1)] w ov w' c s
    refine Zr_st (q := (17, [zp a0, zj x1, zmk, zmk], [zj x1, zp (a0 + 1)])) rfl rfl rfl ?_
    show Zr sc 83 17 [zp a0, zj x1, zmk, zmk] [zj x1, zp (a0 + 1)] w ov w' c s
    obtain ⟨r_9, hk_9, h⟩ := h
    refine rn_cal0 (ins := .invokevirtual 136) (rest := []) rfl rfl rfl rfl (zinv_v (fs := _) hl_1 rfl rfl rfl rfl) rfl rfl hk_9 ?_
    show Zr sc 83 20 [zp a0, zj x1, zmk, zmk] [zj r_9] w ov w' c s
    refine Zr_st (q := (21, [zp a0, zj x1, zj r_9, zmk], [])) rfl rfl rfl ?_
    show Zr sc 83 21 [zp a0, zj x1, zj r_9, zmk] [] w ov w' c s
    refine Zr_st (q := (22, [zp a0, zj x1, zj r_9, zmk], [zp a0])) rfl rfl rfl ?_
    show Zr sc 83 22 [zp a0, zj x1, zj r_9, zmk] [zp a0] w ov w' c s
    refine rl_gf rfl L0 rfl rfl ?_
    show Zr sc 83 25 [zp a0, zj x1, zj r_9, zmk] [zp (a0 + 1)] w ov w' c s
    refine Zr_st (q := (26, [zp a0, zj x1, zj r_9, zmk], [zj x1, zp (a0 + 1)])) rfl rfl rfl ?_
    show Zr sc 83 26 [zp a0, zj x1, zj r_9, zmk] [zj x1, zp (a0 + 1)] w ov w' c s
    obtain ⟨r_12, hk_9, h⟩ := h
    refine rn_cal0 (ins := .invokevirtual 138) (rest := []) rfl rfl rfl rfl (zinv_v (fs := _) hl_1 rfl rfl rfl rfl) rfl rfl hk_9 ?_
    show Zr sc 83 29 [zp a0, zj x1, zj r_9, zmk] [zj r_12] w ov w' c s
    refine Zr_st (q := (30, [zp a0, zj x1, zj r_9, zj r_12], [])) rfl rfl rfl ?_
    show Zr sc 83 30 [zp a0, zj x1, zj r_9, zj r_12] [] w ov w' c s
    refine Zr_st (q := (31, [zp a0, zj x1, zj r_9, zj r_12], [zp a0])) rfl rfl rfl ?_
    show Zr sc 83 31 [zp a0, zj x1, zj r_9, zj r_12] [zp a0] w ov w' c s
    refine rl_gf rfl L0 rfl rfl ?_
    show Zr sc 83 34 [zp a0, zj x1, zj r_9, zj r_12] [zp (a0 + 1)] w ov w' c s
    refine Zr_st (q := (35, [zp a0, zj x1, zj r_9, zj r_12], [zj x1, zp (a0 + 1)])) rfl rfl rfl ?_
    show Zr sc 83 35 [zp a0, zj x1, zj r_9, zj r_12] [zj x1, zp (a0 + 1)] w ov w' c s
    obtain ⟨w_13, hk_14, h⟩ := h
    refine rn_cal0 (ins := .invokevirtual 141) (rest := []) rfl rfl rfl rfl (zinv_v (fs := _) hl_1 rfl rfl rfl rfl) rfl rfl hk_14 ?_
    show Zr sc 83 38 [zp a0, zj x1, zj r_9, zj r_12] [] w_13 ov w' c s
    refine Zr_st (q := (39, [zp a0, zj x1, zj r_9, zj r_12], [zp a0])) rfl rfl rfl ?_
    show Zr sc 83 39 [zp a0, zj x1, zj r_9, zj r_12] [zp a0] w_13 ov w' c s
    obtain ⟨fs_16, hl_15, h⟩ := h
    obtain ⟨w_17, hk_18, h⟩ := h
    refine rn_cal0 (ins := .invokevirtual 77) (rest := []) rfl rfl rfl rfl (zinv_v (fs := _) hl_15 rfl rfl rfl rfl) rfl rfl hk_18 ?_
    show Zr sc 83 42 [zp a0, zj x1, zj r_9, zj r_12] [] w_17 ov w' c s
    refine Zr_st (q := (43, [zp a0, zj x1, zj r_9, zj r_12], [zp a0])) rfl rfl rfl ?_
    show Zr sc 83 43 [zp a0, zj x1, zj r_9, zj r_12] [zp a0] w_17 ov w' c s
    refine rl_ic rfl ?_
    show Zr sc 83 44 [zp a0, zj x1, zj r_9, zj r_12] [zj 2, zp a0] w_17 ov w' c s
    refine Zr_st (q := (45, [zp a0, zj x1, zj r_9, zj r_12], [zp a0, zj 2, zp a0])) rfl rfl rfl ?_
    show Zr sc 83 45 [zp a0, zj x1, zj r_9, zj r_12] [zp a0, zj 2, zp a0] w_17 ov w' c s
    refine Zr_st (q := (46, [zp a0, zj x1, zj r_9, zj r_12], [zj r_9, zp a0, zj 2, zp a0])) rfl rfl rfl ?_
    show Zr sc 83 46 [zp a0, zj x1, zj r_9, zj r_12] [zj r_9, zp a0, zj 2, zp a0] w_17 ov w' c s
    refine Zr_st (q := (47, [zp a0, zj x1, zj r_9, zj r_12], [zj r_12, zj r_9, zp a0, zj 2, zp a0])) rfl rfl rfl ?_
    show Zr sc 83 47 [zp a0, zj x1, zj r_9, zj r_12] [zj r_12, zj r_9, zp a0, zj 2, zp a0] w_17 ov w' c s
    obtain ⟨fs_20, hl_19, h⟩ := h
    obtain ⟨r_23, hk_9, h⟩ := h
    refine rn_cal0 (ins := .invokevirtual 179) (rest := [zj 2, zp a0]) rfl rfl rfl rfl (zinv_v (fs := _) hl_19 rfl rfl rfl rfl) rfl rfl hk_9 ?_
    show Zr sc 83 50 [zp a0, zj x1, zj r_9, zj r_12] [zj r_23, zj 2, zp a0] w_17 ov w' c s
    obtain ⟨w_24, hk_25, h⟩ := h
    refine rn_cal0 (ins := .invokevirtual 169) (rest := []) rfl rfl rfl rfl (zinv_v (fs := _) hl_19 rfl rfl rfl rfl) rfl rfl hk_25 ?_
    show Zr sc 83 53 [zp a0, zj x1, zj r_9, zj r_12] [] w_24 ov w' c s
    obtain ⟨h1, h2, h3, h4⟩ := h
    subst h1; subst h2; subst h3; subst h4
    exact Zr_ret (ins := .return_) rfl rfl
  · replace h := h.2 hp
    show Zr sc 83 11 [zp a0, zj x1, zmk, zmk] [] w ov w' c s
    obtain ⟨h1, h2, h3, h4⟩ := h
    subst h1; subst h2; subst h3; subst h4
    exact Zr_ret (ins := .return_) rfl rfl

-- HeapwrightLab$Memory.release(I)V
set_option maxRecDepth 100000 in
theorem V83_0_2 {sc : List Value} {w w' : List zE} {ov : Option Value} {c s : Nat} {a0 : Nat} {x1 : Int} {wy : Int} {st : Int} {hd : Int} {hn : Int} {sn : Int} {nm : Int} {ar : Int} {pk : Int} {dn : Int} (L0 : w[a0]? = some (zob 2 [zp (a0 + 1), zp (a0 + 6), zj wy, zj st, zj hd, zj hn, zj sn, zp (a0 + 9), zp (a0 + 10), zj nm, zj ar, zj pk, zj dn])) (h : (∃ fs_2 : List Value, w[(a0 + 1)]? = some (zob 0 fs_2) ∧ (∃ r_5 : Int, Zc sc 7 [zp (a0 + 1), zj x1] w (some (zj r_5)) w 0 0 ∧ ((zrg r_5) ∧ ((r_5 ≠ 0 → (∃ r_9 : Int, Zc sc 9 [zp (a0 + 1), zj x1] w (some (zj r_9)) w 0 0 ∧ (∃ r_12 : Int, Zc sc 13 [zp (a0 + 1), zj x1] w (some (zj r_12)) w 0 0 ∧ (∃ w_13 : List zE, Zc sc 84 [zp (a0 + 1), zj x1] w none w_13 0 0 ∧ (∃ fs_16 : List Value, w_13[a0]? = some (zob 2 fs_16) ∧ (∃ w_17 : List zE, Zc sc 69 [zp a0] w_13 none w_17 0 0 ∧ (∃ fs_20 : List Value, w_17[a0]? = some (zob 2 fs_20) ∧ (∃ r_23 : Int, Zc sc 86 [zp a0, zj r_9, zj r_12] w_17 (some (zj r_23)) w_17 0 0 ∧ (∃ w_24 : List zE, Zc sc 64 [zp a0, zj 2, zj r_23] w_17 none w_24 0 0 ∧ (ov = none ∧ w' = w_24 ∧ c = 0 ∧ s = 0)))))))))) ∧ (¬ (r_5 ≠ 0) → (ov = none ∧ w' = w ∧ c = 0 ∧ s = 0))))))) : Zr sc 83 0 [zp a0, zj x1, zmk, zmk] [] w ov w' c s := by
  refine Zr_st (q := (1, [zp a0, zj x1, zmk, zmk], [zp a0])) rfl rfl rfl ?_
  show Zr sc 83 1 [zp a0, zj x1, zmk, zmk] [zp a0] w ov w' c s
  refine rl_gf rfl L0 rfl rfl ?_
  show Zr sc 83 4 [zp a0, zj x1, zmk, zmk] [zp (a0 + 1)] w ov w' c s
  refine Zr_st (q := (5, [zp a0, zj x1, zmk, zmk], [zj x1, zp (a0 + 1)])) rfl rfl rfl ?_
  show Zr sc 83 5 [zp a0, zj x1, zmk, zmk] [zj x1, zp (a0 + 1)] w ov w' c s
  obtain ⟨fs_2, hl_1, h⟩ := h
  obtain ⟨r_5, hk_9, h⟩ := h
  refine rn_cal0 (ins := .invokevirtual 175) (rest := []) rfl rfl rfl rfl (zinv_v (fs := _) hl_1 rfl rfl rfl rfl) rfl rfl hk_9 ?_
  show Zr sc 83 8 [zp a0, zj x1, zmk, zmk] [zj r_5] w ov w' c s
  obtain ⟨hr_6, h⟩ := h
  refine Zr_b0 (p := r_5 ≠ 0) rfl rfl (zcmp_0 (cnd := .ne) hr_6) (fun hp => ?_) (fun hp => ?_)
  · replace h := h.1 hp
    show Zr sc 83 12 [zp a0, zj x1, zmk, zmk] [] w ov w' c s
    refine Zr_st (q := (13, [zp a0, zj x1, zmk, zmk], [zp a0])) rfl rfl rfl ?_
    show Zr sc 83 13 [zp a0, zj x1, zmk, zmk] [zp a0] w ov w' c s
    refine rl_gf rfl L0 rfl rfl ?_
    show Zr sc 83 16 [zp a0, zj x1, zmk, zmk] [zp (a0 + 1)] w ov w' c s
    refine Zr_st (q := (17, [zp a0, zj x1, zmk, zmk], [zj x1, zp (a0 + 1)])) rfl rfl rfl ?_
    show Zr sc 83 17 [zp a0, zj x1, zmk, zmk] [zj x1, zp (a0 + 1)] w ov w' c s
    obtain ⟨r_9, hk_9, h⟩ := h
    refine rn_cal0 (ins := .invokevirtual 136) (rest := []) rfl rfl rfl rfl (zinv_v (fs := _) hl_1 rfl rfl rfl rfl) rfl rfl hk_9 ?_
    show Zr sc 83 20 [zp a0, zj x1, zmk, zmk] [zj r_9] w ov w' c s
    refine Zr_st (q := (21, [zp a0, zj x1, zj r_9, zmk], [])) rfl rfl rfl ?_
    show Zr sc 83 21 [zp a0, zj x1, zj r_9, zmk] [] w ov w' c s
    refine Zr_st (q := (22, [zp a0, zj x1, zj r_9, zmk], [zp a0])) rfl rfl rfl ?_
    show Zr sc 83 22 [zp a0, zj x1, zj r_9, zmk] [zp a0] w ov w' c s
    refine rl_gf rfl L0 rfl rfl ?_
    show Zr sc 83 25 [zp a0, zj x1, zj r_9, zmk] [zp (a0 + 1)] w ov w' c s
    refine Zr_st (q := (26, [zp a0, zj x1, zj r_9, zmk], [zj x1, zp (a0 + 1)])) rfl rfl rfl ?_
    show Zr sc 83 26 [zp a0, zj x1, zj r_9, zmk] [zj x1, zp (a0 + 1)] w ov w' c s
    obtain ⟨r_12, hk_9, h⟩ := h
    refine rn_cal0 (ins := .invokevirtual 138) (rest := []) rfl rfl rfl rfl (zinv_v (fs := _) hl_1 rfl rfl rfl rfl) rfl rfl hk_9 ?_
    show Zr sc 83 29 [zp a0, zj x1, zj r_9, zmk] [zj r_12] w ov w' c s
    refine Zr_st (q := (30, [zp a0, zj x1, zj r_9, zj r_12], [])) rfl rfl rfl ?_
    show Zr sc 83 30 [zp a0, zj x1, zj r_9, zj r_12] [] w ov w' c s
    refine Zr_st (q := (31, [zp a0, zj x1, zj r_9, zj r_12], [zp a0])) rfl rfl rfl ?_
    show Zr sc 83 31 [zp a0, zj x1, zj r_9, zj r_12] [zp a0] w ov w' c s
    refine rl_gf rfl L0 rfl rfl ?_
    show Zr sc 83 34 [zp a0, zj x1, zj r_9, zj r_12] [zp (a0 + 1)] w ov w' c s
    refine Zr_st (q := (35, [zp a0, zj x1, zj r_9, zj r_12], [zj x1, zp (a0 + 1)])) rfl rfl rfl ?_
    show Zr sc 83 35 [zp a0, zj x1, zj r_9, zj r_12] [zj x1, zp (a0 + 1)] w ov w' c s
    obtain ⟨w_13, hk_14, h⟩ := h
    refine rn_cal0 (ins := .invokevirtual 141) (rest := []) rfl rfl rfl rfl (zinv_v (fs := _) hl_1 rfl rfl rfl rfl) rfl rfl hk_14 ?_
    show Zr sc 83 38 [zp a0, zj x1, zj r_9, zj r_12] [] w_13 ov w' c s
    refine Zr_st (q := (39, [zp a0, zj x1, zj r_9, zj r_12], [zp a0])) rfl rfl rfl ?_
    show Zr sc 83 39 [zp a0, zj x1, zj r_9, zj r_12] [zp a0] w_13 ov w' c s
    obtain ⟨fs_16, hl_15, h⟩ := h
    obtain ⟨w_17, hk_18, h⟩ := h
    refine rn_cal0 (ins := .invokevirtual 77) (rest := []) rfl rfl rfl rfl (zinv_v (fs := _) hl_15 rfl rfl rfl rfl) rfl rfl hk_18 ?_
    show Zr sc 83 42 [zp a0, zj x1, zj r_9, zj r_12] [] w_17 ov w' c s
    refine Zr_st (q := (43, [zp a0, zj x1, zj r_9, zj r_12], [zp a0])) rfl rfl rfl ?_
    show Zr sc 83 43 [zp a0, zj x1, zj r_9, zj r_12] [zp a0] w_17 ov w' c s
    refine rl_ic rfl ?_
    show Zr sc 83 44 [zp a0, zj x1, zj r_9, zj r_12] [zj 2, zp a0] w_17 ov w' c s
    refine Zr_st (q := (45, [zp a0, zj x1, zj r_9, zj r_12], [zp a0, zj 2, zp a0])) rfl rfl rfl ?_
    show Zr sc 83 45 [zp a0, zj x1, zj r_9, zj r_12] [zp a0, zj 2, zp a0] w_17 ov w' c s
    refine Zr_st (q := (46, [zp a0, zj x1, zj r_9, zj r_12], [zj r_9, zp a0, zj 2, zp a0])) rfl rfl rfl ?_
    show Zr sc 83 46 [zp a0, zj x1, zj r_9, zj r_12] [zj r_9, zp a0, zj 2, zp a0] w_17 ov w' c s
    refine Zr_st (q := (47, [zp a0, zj x1, zj r_9, zj r_12], [zj r_12, zj r_9, zp a0, zj 2, zp a0])) rfl rfl rfl ?_
    show Zr sc 83 47 [zp a0, zj x1, zj r_9, zj r_12] [zj r_12, zj r_9, zp a0, zj 2, zp a0] w_17 ov w' c s
    obtain ⟨fs_20, hl_19, h⟩ := h
    obtain ⟨r_23, hk_9, h⟩ := h
    refine rn_cal0 (ins := .invokevirtual 179) (rest := [zj 2, zp a0]) rfl rfl rfl rfl (zinv_v (fs := _) hl_19 rfl rfl rfl rfl) rfl rfl hk_9 ?_
    show Zr sc 83 50 [zp a0, zj x1, zj r_9, zj r_12] [zj r_23, zj 2, zp a0] w_17 ov w' c s
    obtain ⟨w_24, hk_25, h⟩ := h
    refine rn_cal0 (ins := .invokevirtual 169) (rest := []) rfl rfl rfl rfl (zinv_v (fs := _) hl_19 rfl rfl rfl rfl) rfl rfl hk_25 ?_
    show Zr sc 83 53 [zp a0, zj x1, zj r_9, zj r_12] [] w_24 ov w' c s
    obtain ⟨h1, h2, h3, h4⟩ := h
    subst h1; subst h2; subst h3; subst h4
    exact Zr_ret (ins := .return_) rfl rfl
  · replace h := h.2 hp
    show Zr sc 83 11 [zp a0, zj x1, zmk, zmk] [] w ov w' c s
    obtain ⟨h1, h2, h3, h4⟩ := h
    subst h1; subst h2; subst h3; subst h4
    exact Zr_ret (ins := .return_) rfl rfl

-- HeapwrightLab$Memory.release(I)V
set_option maxRecDepth 100000 in
theorem V83_0_4 {sc : List Value} {w w' : List zE} {ov : Option Value} {c s : Nat} {a0 : Nat} {x1 : Int} {wy : Int} {st : Int} {hd : Int} {hn : Int} {sn : Int} {nm : Int} {ar : Int} {pk : Int} {dn : Int} (L0 : w[a0]? = some (zob 4 [zp (a0 + 1), zp (a0 + 6), zj wy, zj st, zj hd, zj hn, zj sn, zp (a0 + 9), zp (a0 + 10), zj nm, zj ar, zj pk, zj dn, zp (a0 + 11)])) (h : (∃ fs_2 : List Value, w[(a0 + 1)]? = some (zob 0 fs_2) ∧ (∃ r_5 : Int, Zc sc 7 [zp (a0 + 1), zj x1] w (some (zj r_5)) w 0 0 ∧ ((zrg r_5) ∧ ((r_5 ≠ 0 → (∃ r_9 : Int, Zc sc 9 [zp (a0 + 1), zj x1] w (some (zj r_9)) w 0 0 ∧ (∃ r_12 : Int, Zc sc 13 [zp (a0 + 1), zj x1] w (some (zj r_12)) w 0 0 ∧ (∃ w_13 : List zE, Zc sc 84 [zp (a0 + 1), zj x1] w none w_13 0 0 ∧ (∃ fs_16 : List Value, w_13[a0]? = some (zob 4 fs_16) ∧ (∃ w_17 : List zE, Zc sc 69 [zp a0] w_13 none w_17 0 0 ∧ (∃ fs_20 : List Value, w_17[a0]? = some (zob 4 fs_20) ∧ (∃ r_23 : Int, Zc sc 87 [zp a0, zj r_9, zj r_12] w_17 (some (zj r_23)) w_17 0 0 ∧ (∃ w_24 : List zE, Zc sc 64 [zp a0, zj 2, zj r_23] w_17 none w_24 0 0 ∧ (ov = none ∧ w' = w_24 ∧ c = 0 ∧ s = 0)))))))))) ∧ (¬ (r_5 ≠ 0) → (ov = none ∧ w' = w ∧ c = 0 ∧ s = 0))))))) : Zr sc 83 0 [zp a0, zj x1, zmk, zmk] [] w ov w' c s := by
  refine Zr_st (q := (1, [zp a0, zj x1, zmk, zmk], [zp a0])) rfl rfl rfl ?_
  show Zr sc 83 1 [zp a0, zj x1, zmk, zmk] [zp a0] w ov w' c s
  refine rl_gf rfl L0 rfl rfl ?_
  show Zr sc 83 4 [zp a0, zj x1, zmk, zmk] [zp (a0 + 1)] w ov w' c s
  refine Zr_st (q := (5, [zp a0, zj x1, zmk, zmk], [zj x1, zp (a0 + 1)])) rfl rfl rfl ?_
  show Zr sc 83 5 [zp a0, zj x1, zmk, zmk] [zj x1, zp (a0 + 1)] w ov w' c s
  obtain ⟨fs_2, hl_1, h⟩ := h
  obtain ⟨r_5, hk_9, h⟩ := h
  refine rn_cal0 (ins := .invokevirtual 175) (rest := []) rfl rfl rfl rfl (zinv_v (fs := _) hl_1 rfl rfl rfl rfl) rfl rfl hk_9 ?_
  show Zr sc 83 8 [zp a0, zj x1, zmk, zmk] [zj r_5] w ov w' c s
  obtain ⟨hr_6, h⟩ := h
  refine Zr_b0 (p := r_5 ≠ 0) rfl rfl (zcmp_0 (cnd := .ne) hr_6) (fun hp => ?_) (fun hp => ?_)
  · replace h := h.1 hp
    show Zr sc 83 12 [zp a0, zj x1, zmk, zmk] [] w ov w' c s
    refine Zr_st (q := (13, [zp a0, zj x1, zmk, zmk], [zp a0])) rfl rfl rfl ?_
    show Zr sc 83 13 [zp a0, zj x1, zmk, zmk] [zp a0] w ov w' c s
    refine rl_gf rfl L0 rfl rfl ?_
    show Zr sc 83 16 [zp a0, zj x1, zmk, zmk] [zp (a0 + 1)] w ov w' c s
    refine Zr_st (q := (17, [zp a0, zj x1, zmk, zmk], [zj x1, zp (a0 + 1)])) rfl rfl rfl ?_
    show Zr sc 83 17 [zp a0, zj x1, zmk, zmk] [zj x1, zp (a0 + 1)] w ov w' c s
    obtain ⟨r_9, hk_9, h⟩ := h
    refine rn_cal0 (ins := .invokevirtual 136) (rest := []) rfl rfl rfl rfl (zinv_v (fs := _) hl_1 rfl rfl rfl rfl) rfl rfl hk_9 ?_
    show Zr sc 83 20 [zp a0, zj x1, zmk, zmk] [zj r_9] w ov w' c s
    refine Zr_st (q := (21, [zp a0, zj x1, zj r_9, zmk], [])) rfl rfl rfl ?_
    show Zr sc 83 21 [zp a0, zj x1, zj r_9, zmk] [] w ov w' c s
    refine Zr_st (q := (22, [zp a0, zj x1, zj r_9, zmk], [zp a0])) rfl rfl rfl ?_
    show Zr sc 83 22 [zp a0, zj x1, zj r_9, zmk] [zp a0] w ov w' c s
    refine rl_gf rfl L0 rfl rfl ?_
    show Zr sc 83 25 [zp a0, zj x1, zj r_9, zmk] [zp (a0 + 1)] w ov w' c s
    refine Zr_st (q := (26, [zp a0, zj x1, zj r_9, zmk], [zj x1, zp (a0 + 1)])) rfl rfl rfl ?_
    show Zr sc 83 26 [zp a0, zj x1, zj r_9, zmk] [zj x1, zp (a0 + 1)] w ov w' c s
    obtain ⟨r_12, hk_9, h⟩ := h
    refine rn_cal0 (ins := .invokevirtual 138) (rest := []) rfl rfl rfl rfl (zinv_v (fs := _) hl_1 rfl rfl rfl rfl) rfl rfl hk_9 ?_
    show Zr sc 83 29 [zp a0, zj x1, zj r_9, zmk] [zj r_12] w ov w' c s
    refine Zr_st (q := (30, [zp a0, zj x1, zj r_9, zj r_12], [])) rfl rfl rfl ?_
    show Zr sc 83 30 [zp a0, zj x1, zj r_9, zj r_12] [] w ov w' c s
    refine Zr_st (q := (31, [zp a0, zj x1, zj r_9, zj r_12], [zp a0])) rfl rfl rfl ?_
    show Zr sc 83 31 [zp a0, zj x1, zj r_9, zj r_12] [zp a0] w ov w' c s
    refine rl_gf rfl L0 rfl rfl ?_
    show Zr sc 83 34 [zp a0, zj x1, zj r_9, zj r_12] [zp (a0 + 1)] w ov w' c s
    refine Zr_st (q := (35, [zp a0, zj x1, zj r_9, zj r_12], [zj x1, zp (a0 + 1)])) rfl rfl rfl ?_
    show Zr sc 83 35 [zp a0, zj x1, zj r_9, zj r_12] [zj x1, zp (a0 + 1)] w ov w' c s
    obtain ⟨w_13, hk_14, h⟩ := h
    refine rn_cal0 (ins := .invokevirtual 141) (rest := []) rfl rfl rfl rfl (zinv_v (fs := _) hl_1 rfl rfl rfl rfl) rfl rfl hk_14 ?_
    show Zr sc 83 38 [zp a0, zj x1, zj r_9, zj r_12] [] w_13 ov w' c s
    refine Zr_st (q := (39, [zp a0, zj x1, zj r_9, zj r_12], [zp a0])) rfl rfl rfl ?_
    show Zr sc 83 39 [zp a0, zj x1, zj r_9, zj r_12] [zp a0] w_13 ov w' c s
    obtain ⟨fs_16, hl_15, h⟩ := h
    obtain ⟨w_17, hk_18, h⟩ := h
    refine rn_cal0 (ins := .invokevirtual 77) (rest := []) rfl rfl rfl rfl (zinv_v (fs := _) hl_15 rfl rfl rfl rfl) rfl rfl hk_18 ?_
    show Zr sc 83 42 [zp a0, zj x1, zj r_9, zj r_12] [] w_17 ov w' c s
    refine Zr_st (q := (43, [zp a0, zj x1, zj r_9, zj r_12], [zp a0])) rfl rfl rfl ?_
    show Zr sc 83 43 [zp a0, zj x1, zj r_9, zj r_12] [zp a0] w_17 ov w' c s
    refine rl_ic rfl ?_
    show Zr sc 83 44 [zp a0, zj x1, zj r_9, zj r_12] [zj 2, zp a0] w_17 ov w' c s
    refine Zr_st (q := (45, [zp a0, zj x1, zj r_9, zj r_12], [zp a0, zj 2, zp a0])) rfl rfl rfl ?_
    show Zr sc 83 45 [zp a0, zj x1, zj r_9, zj r_12] [zp a0, zj 2, zp a0] w_17 ov w' c s
    refine Zr_st (q := (46, [zp a0, zj x1, zj r_9, zj r_12], [zj r_9, zp a0, zj 2, zp a0])) rfl rfl rfl ?_
    show Zr sc 83 46 [zp a0, zj x1, zj r_9, zj r_12] [zj r_9, zp a0, zj 2, zp a0] w_17 ov w' c s
    refine Zr_st (q := (47, [zp a0, zj x1, zj r_9, zj r_12], [zj r_12, zj r_9, zp a0, zj 2, zp a0])) rfl rfl rfl ?_
    show Zr sc 83 47 [zp a0, zj x1, zj r_9, zj r_12] [zj r_12, zj r_9, zp a0, zj 2, zp a0] w_17 ov w' c s
    obtain ⟨fs_20, hl_19, h⟩ := h
    obtain ⟨r_23, hk_9, h⟩ := h
    refine rn_cal0 (ins := .invokevirtual 179) (rest := [zj 2, zp a0]) rfl rfl rfl rfl (zinv_v (fs := _) hl_19 rfl rfl rfl rfl) rfl rfl hk_9 ?_
    show Zr sc 83 50 [zp a0, zj x1, zj r_9, zj r_12] [zj r_23, zj 2, zp a0] w_17 ov w' c s
    obtain ⟨w_24, hk_25, h⟩ := h
    refine rn_cal0 (ins := .invokevirtual 169) (rest := []) rfl rfl rfl rfl (zinv_v (fs := _) hl_19 rfl rfl rfl rfl) rfl rfl hk_25 ?_
    show Zr sc 83 53 [zp a0, zj x1, zj r_9, zj r_12] [] w_24 ov w' c s
    obtain ⟨h1, h2, h3, h4⟩ := h
    subst h1; subst h2; subst h3; subst h4
    exact Zr_ret (ins := .return_) rfl rfl
  · replace h := h.2 hp
    show Zr sc 83 11 [zp a0, zj x1, zmk, zmk] [] w ov w' c s
    obtain ⟨h1, h2, h3, h4⟩ := h
    subst h1; subst h2; subst h3; subst h4
    exact Zr_ret (ins := .return_) rfl rfl

-- HeapwrightLab$Blocks.remove(I)V
set_option maxRecDepth 100000 in
theorem V84_0 {sc : List Value} {w w' : List zE} {ov : Option Value} {c s : Nat} {a0 : Nat} {x1 : Int} {ct : Int} {rt : Int} (L0 : w[a0]? = some (zob 0 [zp (a0 + 1), zp (a0 + 2), zp (a0 + 3), zp (a0 + 4), zj ct, zj rt])) (h : (∃ r_3 : Int, Zc sc 7 [zp a0, zj x1] w (some (zj r_3)) w 0 0 ∧ ((zrg r_3) ∧ ((r_3 ≠ 0 → (∃ r_7 : Int, Zc sc 85 [zp a0, zj x1] w (some (zj r_7)) w 0 0 ∧ Zr sc 84 15 [zp a0, zj x1, zj r_7] [] w ov w' c s)) ∧ (¬ (r_3 ≠ 0) → (ov = none ∧ w' = w ∧ c = 0 ∧ s = 0)))))) : Zr sc 84 0 [zp a0, zj x1, zmk] [] w ov w' c s := by
  refine Zr_st (q := (1, [zp a0, zj x1, zmk], [zp a0])) rfl rfl rfl ?_
  show Zr sc 84 1 [zp a0, zj x1, zmk] [zp a0] w ov w' c s
  refine Zr_st (q := (2, [zp a0, zj x1, zmk], [zj x1, zp a0])) rfl rfl rfl ?_
  show Zr sc 84 2 [zp a0, zj x1, zmk] [zj x1, zp a0] w ov w' c s
  obtain ⟨r_3, hk_9, h⟩ := h
  refine rn_cal0 (ins := .invokevirtual 37) (rest := []) rfl rfl rfl rfl (zinv_v (fs := _) L0 rfl rfl rfl rfl) rfl rfl hk_9 ?_
  show Zr sc 84 5 [zp a0, zj x1, zmk] [zj r_3] w ov w' c s
  obtain ⟨hr_4, h⟩ := h
  refine Zr_b0 (p := r_3 ≠ 0) rfl rfl (zcmp_0 (cnd := .ne) hr_4) (fun hp => ?_) (fun hp => ?_)
  · replace h := h.1 hp
    show Zr sc 84 9 [zp a0, zj x1, zmk] [] w ov w' c s
    refine Zr_st (q := (10, [zp a0, zj x1, zmk], [zp a0])) rfl rfl rfl ?_
    show Zr sc 84 10 [zp a0, zj x1, zmk] [zp a0] w ov w' c s
    refine Zr_st (q := (11, [zp a0, zj x1, zmk], [zj x1, zp a0])) rfl rfl rfl ?_
    show Zr sc 84 11 [zp a0, zj x1, zmk] [zj x1, zp a0] w ov w' c s
    obtain ⟨r_7, hk_9, h⟩ := h
    refine rn_cal0 (ins := .invokevirtual 51) (rest := []) rfl rfl rfl rfl (zinv_v (fs := _) L0 rfl rfl rfl rfl) rfl rfl hk_9 ?_
    show Zr sc 84 14 [zp a0, zj x1, zmk] [zj r_7] w ov w' c s
    refine Zr_st (q := (15, [zp a0, zj x1, zj r_7], [])) rfl rfl rfl ?_
    show Zr sc 84 15 [zp a0, zj x1, zj r_7] [] w ov w' c s
    exact h
  · replace h := h.2 hp
    show Zr sc 84 8 [zp a0, zj x1, zmk] [] w ov w' c s
    obtain ⟨h1, h2, h3, h4⟩ := h
    subst h1; subst h2; subst h3; subst h4
    exact Zr_ret (ins := .return_) rfl rfl
set_option maxRecDepth 100000 in
theorem V84_15 {sc : List Value} {w w' : List zE} {ov : Option Value} {c s : Nat} {a0 : Nat} {x1 : Int} {x2 : Int} {ct : Int} {rt : Int} {rm : List Int} {bp : List Int} (L0 : w[a0]? = some (zob 0 [zp (a0 + 1), zp (a0 + 2), zp (a0 + 3), zp (a0 + 4), zj ct, zj rt])) (L3 : w[(a0 + 3)]? = some (za rm)) (L4 : w[(a0 + 4)]? = some (za bp)) (h : ((zrg x2 ∧ zrg (ct - 1)) ∧ (((ct - 1) ≤ x2 → (((0 : Int) ≤ x1 ∧ x1 < (rm.length : Int) ∧ x1 ≤ (2147483647 : Int)) ∧ (((0 : Int) ≤ x1 ∧ x1 < (rm.length : Int) ∧ x1 ≤ (2147483647 : Int)) ∧ (ov = none ∧ w' = (((w.set a0 (zob 0 [zp (a0 + 1), zp (a0 + 2), zp (a0 + 3), zp (a0 + 4), zj (ct - 1), zj rt])).set a0 (zob 0 [zp (a0 + 1), zp (a0 + 2), zp (a0 + 3), zp (a0 + 4), zj (ct - 1), zj (rt - (zgi rm x1))])).set (a0 + 3) (za (zsi rm x1 0))) ∧ c = 0 ∧ s = 0)))) ∧ (¬ ((ct - 1) ≤ x2) → (((0 : Int) ≤ (x2 + 1) ∧ (x2 + 1) < (bp.length : Int) ∧ (x2 + 1) ≤ (2147483647 : Int)) ∧ (((0 : Int) ≤ x2 ∧ x2 < (bp.length : Int) ∧ x2 ≤ (2147483647 : Int)) ∧ Zr sc 84 15 [zp a0, zj x1, zj (x2 + 1)] [] (w.set (a0 + 4) (za (zsi bp x2 (zgi bp (x2 + 1))))) ov w' c s)))))) : Zr sc 84 15 [zp a0, zj x1, zj x2] [] w ov w' c s := by
  refine Zr_st (q := (16, [zp a0, zj x1, zj x2], [zj x2])) rfl rfl rfl ?_
  show Zr sc 84 16 [zp a0, zj x1, zj x2] [zj x2] w ov w' c s
  refine Zr_st (q := (17, [zp a0, zj x1, zj x2], [zp a0, zj x2])) rfl rfl rfl ?_
  show Zr sc 84 17 [zp a0, zj x1, zj x2] [zp a0, zj x2] w ov w' c s
  refine rl_gf rfl L0 rfl rfl ?_
  show Zr sc 84 20 [zp a0, zj x1, zj x2] [zj ct, zj x2] w ov w' c s
  refine rl_ic rfl ?_
  show Zr sc 84 21 [zp a0, zj x1, zj x2] [zj 1, zj ct, zj x2] w ov w' c s
  refine rl_sub rfl ?_
  show Zr sc 84 22 [zp a0, zj x1, zj x2] [zj (ct - 1), zj x2] w ov w' c s
  obtain ⟨hr_1, h⟩ := h
  refine Zr_br (p := (ct - 1) ≤ x2) rfl rfl (zcmp_j (cnd := .ge) hr_1.1 hr_1.2) (fun hp => ?_) (fun hp => ?_)
  · replace h := h.1 hp
    show Zr sc 84 45 [zp a0, zj x1, zj x2] [] w ov w' c s
    refine Zr_st (q := (46, [zp a0, zj x1, zj x2], [zp a0])) rfl rfl rfl ?_
    show Zr sc 84 46 [zp a0, zj x1, zj x2] [zp a0] w ov w' c s
    refine Zr_st (q := (47, [zp a0, zj x1, zj x2], [zp a0, zp a0])) rfl rfl rfl ?_
    show Zr sc 84 47 [zp a0, zj x1, zj x2] [zp a0, zp a0] w ov w' c s
    refine rl_gf rfl L0 rfl rfl ?_
    show Zr sc 84 50 [zp a0, zj x1, zj x2] [zj ct, zp a0] w ov w' c s
    refine rl_ic rfl ?_
    show Zr sc 84 51 [zp a0, zj x1, zj x2] [zj 1, zj ct, zp a0] w ov w' c s
    refine rl_sub rfl ?_
    show Zr sc 84 52 [zp a0, zj x1, zj x2] [zj (ct - 1), zp a0] w ov w' c s
    refine rl_pf rfl L0 rfl rfl rfl ?_
    show Zr sc 84 55 [zp a0, zj x1, zj x2] [] (w.set a0 (zob 0 [zp (a0 + 1), zp (a0 + 2), zp (a0 + 3), zp (a0 + 4), zj (ct - 1), zj rt])) ov w' c s
    refine Zr_st (q := (56, [zp a0, zj x1, zj x2], [zp a0])) rfl rfl rfl ?_
    show Zr sc 84 56 [zp a0, zj x1, zj x2] [zp a0] (w.set a0 (zob 0 [zp (a0 + 1), zp (a0 + 2), zp (a0 + 3), zp (a0 + 4), zj (ct - 1), zj rt])) ov w' c s
    refine Zr_st (q := (57, [zp a0, zj x1, zj x2], [zp a0, zp a0])) rfl rfl rfl ?_
    show Zr sc 84 57 [zp a0, zj x1, zj x2] [zp a0, zp a0] (w.set a0 (zob 0 [zp (a0 + 1), zp (a0 + 2), zp (a0 + 3), zp (a0 + 4), zj (ct - 1), zj rt])) ov w' c s
    refine rl_gf rfl (zw_s L0) rfl rfl ?_
    show Zr sc 84 60 [zp a0, zj x1, zj x2] [zj rt, zp a0] (w.set a0 (zob 0 [zp (a0 + 1), zp (a0 + 2), zp (a0 + 3), zp (a0 + 4), zj (ct - 1), zj rt])) ov w' c s
    refine Zr_st (q := (61, [zp a0, zj x1, zj x2], [zp a0, zj rt, zp a0])) rfl rfl rfl ?_
    show Zr sc 84 61 [zp a0, zj x1, zj x2] [zp a0, zj rt, zp a0] (w.set a0 (zob 0 [zp (a0 + 1), zp (a0 + 2), zp (a0 + 3), zp (a0 + 4), zj (ct - 1), zj rt])) ov w' c s
    refine rl_gf rfl (zw_s L0) rfl rfl ?_
    show Zr sc 84 64 [zp a0, zj x1, zj x2] [zp (a0 + 3), zj rt, zp a0] (w.set a0 (zob 0 [zp (a0 + 1), zp (a0 + 2), zp (a0 + 3), zp (a0 + 4), zj (ct - 1), zj rt])) ov w' c s
    refine Zr_st (q := (65, [zp a0, zj x1, zj x2], [zj x1, zp (a0 + 3), zj rt, zp a0])) rfl rfl rfl ?_
    show Zr sc 84 65 [zp a0, zj x1, zj x2] [zj x1, zp (a0 + 3), zj rt, zp a0] (w.set a0 (zob 0 [zp (a0 + 1), zp (a0 + 2), zp (a0 + 3), zp (a0 + 4), zj (ct - 1), zj rt])) ov w' c s
    obtain ⟨hi_2, h⟩ := h
    refine rl_ia rfl (zw_o (by omega) L3) hi_2.1 hi_2.2.1 hi_2.2.2 ?_
    show Zr sc 84 66 [zp a0, zj x1, zj x2] [zj (zgi rm x1), zj rt, zp a0] (w.set a0 (zob 0 [zp (a0 + 1), zp (a0 + 2), zp (a0 + 3), zp (a0 + 4), zj (ct - 1), zj rt])) ov w' c s
    refine rl_sub rfl ?_
    show Zr sc 84 67 [zp a0, zj x1, zj x2] [zj (rt - (zgi rm x1)), zp a0] (w.set a0 (zob 0 [zp (a0 + 1), zp (a0 + 2), zp (a0 + 3), zp (a0 + 4), zj (ct - 1), zj rt])) ov w' c s
    refine rl_pf rfl (zw_s L0) rfl rfl rfl ?_
    show Zr sc 84 70 [zp a0, zj x1, zj x2] [] ((w.set a0 (zob 0 [zp (a0 + 1), zp (a0 + 2), zp (a0 + 3), zp (a0 + 4), zj (ct - 1), zj rt])).set a0 (zob 0 [zp (a0 + 1), zp (a0 + 2), zp (a0 + 3), zp (a0 + 4), zj (ct - 1), zj (rt - (zgi rm x1))])) ov w' c s
    refine Zr_st (q := (71, [zp a0, zj x1, zj x2], [zp a0])) rfl rfl rfl ?_
    show Zr sc 84 71 [zp a0, zj x1, zj x2] [zp a0] ((w.set a0 (zob 0 [zp (a0 + 1), zp (a0 + 2), zp (a0 + 3), zp (a0 + 4), zj (ct - 1), zj rt])).set a0 (zob 0 [zp (a0 + 1), zp (a0 + 2), zp (a0 + 3), zp (a0 + 4), zj (ct - 1), zj (rt - (zgi rm x1))])) ov w' c s
    refine rl_gf rfl (zw_s (zw_s L0)) rfl rfl ?_
    show Zr sc 84 74 [zp a0, zj x1, zj x2] [zp (a0 + 3)] ((w.set a0 (zob 0 [zp (a0 + 1), zp (a0 + 2), zp (a0 + 3), zp (a0 + 4), zj (ct - 1), zj rt])).set a0 (zob 0 [zp (a0 + 1), zp (a0 + 2), zp (a0 + 3), zp (a0 + 4), zj (ct - 1), zj (rt - (zgi rm x1))])) ov w' c s
    refine Zr_st (q := (75, [zp a0, zj x1, zj x2], [zj x1, zp (a0 + 3)])) rfl rfl rfl ?_
    show Zr sc 84 75 [zp a0, zj x1, zj x2] [zj x1, zp (a0 + 3)] ((w.set a0 (zob 0 [zp (a0 + 1), zp (a0 + 2), zp (a0 + 3), zp (a0 + 4), zj (ct - 1), zj rt])).set a0 (zob 0 [zp (a0 + 1), zp (a0 + 2), zp (a0 + 3), zp (a0 + 4), zj (ct - 1), zj (rt - (zgi rm x1))])) ov w' c s
    refine rl_ic rfl ?_
    show Zr sc 84 76 [zp a0, zj x1, zj x2] [zj 0, zj x1, zp (a0 + 3)] ((w.set a0 (zob 0 [zp (a0 + 1), zp (a0 + 2), zp (a0 + 3), zp (a0 + 4), zj (ct - 1), zj rt])).set a0 (zob 0 [zp (a0 + 1), zp (a0 + 2), zp (a0 + 3), zp (a0 + 4), zj (ct - 1), zj (rt - (zgi rm x1))])) ov w' c s
    obtain ⟨hi_3, h⟩ := h
    refine rl_is rfl (zw_o (by omega) (zw_o (by omega) L3)) hi_3.1 hi_3.2.1 hi_3.2.2 ?_
    show Zr sc 84 77 [zp a0, zj x1, zj x2] [] (((w.set a0 (zob 0 [zp (a0 + 1), zp (a0 + 2), zp (a0 + 3), zp (a0 + 4), zj (ct - 1), zj rt])).set a0 (zob 0 [zp (a0 + 1), zp (a0 + 2), zp (a0 + 3), zp (a0 + 4), zj (ct - 1), zj (rt - (zgi rm x1))])).set (a0 + 3) (za (zsi rm x1 0))) ov w' c s
    obtain ⟨h1, h2, h3, h4⟩ := h
    subst h1; subst h2; subst h3; subst h4
    exact Zr_ret (ins := .return_) rfl rfl
  · replace h := h.2 hp
    show Zr sc 84 25 [zp a0, zj x1, zj x2] [] w ov w' c s
    refine Zr_st (q := (26, [zp a0, zj x1, zj x2], [zp a0])) rfl rfl rfl ?_
    show Zr sc 84 26 [zp a0, zj x1, zj x2] [zp a0] w ov w' c s
    refine rl_gf rfl L0 rfl rfl ?_
    show Zr sc 84 29 [zp a0, zj x1, zj x2] [zp (a0 + 4)] w ov w' c s
    refine Zr_st (q := (30, [zp a0, zj x1, zj x2], [zj x2, zp (a0 + 4)])) rfl rfl rfl ?_
    show Zr sc 84 30 [zp a0, zj x1, zj x2] [zj x2, zp (a0 + 4)] w ov w' c s
    refine Zr_st (q := (31, [zp a0, zj x1, zj x2], [zp a0, zj x2, zp (a0 + 4)])) rfl rfl rfl ?_
    show Zr sc 84 31 [zp a0, zj x1, zj x2] [zp a0, zj x2, zp (a0 + 4)] w ov w' c s
    refine rl_gf rfl L0 rfl rfl ?_
    show Zr sc 84 34 [zp a0, zj x1, zj x2] [zp (a0 + 4), zj x2, zp (a0 + 4)] w ov w' c s
    refine Zr_st (q := (35, [zp a0, zj x1, zj x2], [zj x2, zp (a0 + 4), zj x2, zp (a0 + 4)])) rfl rfl rfl ?_
    show Zr sc 84 35 [zp a0, zj x1, zj x2] [zj x2, zp (a0 + 4), zj x2, zp (a0 + 4)] w ov w' c s
    refine rl_ic rfl ?_
    show Zr sc 84 36 [zp a0, zj x1, zj x2] [zj 1, zj x2, zp (a0 + 4), zj x2, zp (a0 + 4)] w ov w' c s
    refine rl_add rfl ?_
    show Zr sc 84 37 [zp a0, zj x1, zj x2] [zj (x2 + 1), zp (a0 + 4), zj x2, zp (a0 + 4)] w ov w' c s
    obtain ⟨hi_4, h⟩ := h
    refine rl_ia rfl L4 hi_4.1 hi_4.2.1 hi_4.2.2 ?_
    show Zr sc 84 38 [zp a0, zj x1, zj x2] [zj (zgi bp (x2 + 1)), zj x2, zp (a0 + 4)] w ov w' c s
    obtain ⟨hi_5, h⟩ := h
    refine rl_is rfl L4 hi_5.1 hi_5.2.1 hi_5.2.2 ?_
    show Zr sc 84 39 [zp a0, zj x1, zj x2] [] (w.set (a0 + 4) (za (zsi bp x2 (zgi bp (x2 + 1))))) ov w' c s
    refine rl_inc rfl rfl rfl rfl ?_
    show Zr sc 84 42 [zp a0, zj x1, zj (x2 + 1)] [] (w.set (a0 + 4) (za (zsi bp x2 (zgi bp (x2 + 1))))) ov w' c s
    refine Zr_st (q := (15, [zp a0, zj x1, zj (x2 + 1)], [])) rfl rfl rfl ?_
    show Zr sc 84 15 [zp a0, zj x1, zj (x2 + 1)] [] (w.set (a0 + 4) (za (zsi bp x2 (zgi bp (x2 + 1))))) ov w' c s
    exact h

-- HeapwrightLab$Blocks.indexOf(I)I
set_option maxRecDepth 100000 in
theorem V85_0 {sc : List Value} {w w' : List zE} {ov : Option Value} {c s : Nat} {a0 : Nat} {x1 : Int} (h : Zr sc 85 2 [zp a0, zj x1, zj 0] [] w ov w' c s) : Zr sc 85 0 [zp a0, zj x1, zmk] [] w ov w' c s := by
  refine rl_ic rfl ?_
  show Zr sc 85 1 [zp a0, zj x1, zmk] [zj 0] w ov w' c s
  refine Zr_st (q := (2, [zp a0, zj x1, zj 0], [])) rfl rfl rfl ?_
  show Zr sc 85 2 [zp a0, zj x1, zj 0] [] w ov w' c s
  exact h
set_option maxRecDepth 100000 in
theorem V85_2 {sc : List Value} {w w' : List zE} {ov : Option Value} {c s : Nat} {a0 : Nat} {x1 : Int} {x2 : Int} {ct : Int} {rt : Int} {bp : List Int} (L0 : w[a0]? = some (zob 0 [zp (a0 + 1), zp (a0 + 2), zp (a0 + 3), zp (a0 + 4), zj ct, zj rt])) (L4 : w[(a0 + 4)]? = some (za bp)) (h : ((zrg x2 ∧ zrg (ct - 1)) ∧ (((ct - 1) ≤ x2 → ((zrg ct) ∧ ((ct ≤ 0 → (ov = some (zj 0) ∧ w' = w ∧ c = 0 ∧ s = 0)) ∧ (¬ (ct ≤ 0) → (ov = some (zj (ct - 1)) ∧ w' = w ∧ c = 0 ∧ s = 0))))) ∧ (¬ ((ct - 1) ≤ x2) → (((0 : Int) ≤ x2 ∧ x2 < (bp.length : Int) ∧ x2 ≤ (2147483647 : Int)) ∧ ((zrg (zgi bp x2) ∧ zrg x1) ∧ (((zgi bp x2) ≠ x1 → Zr sc 85 2 [zp a0, zj x1, zj (x2 + 1)] [] w ov w' c s) ∧ (¬ ((zgi bp x2) ≠ x1) → (ov = some (zj x2) ∧ w' = w ∧ c = 0 ∧ s = 0))))))))) : Zr sc 85 2 [zp a0, zj x1, zj x2] [] w ov w' c s := by
  refine Zr_st (q := (3, [zp a0, zj x1, zj x2], [zj x2])) rfl rfl rfl ?_
  show Zr sc 85 3 [zp a0, zj x1, zj x2] [zj x2] w ov w' c s
  refine Zr_st (q := (4, [zp a0, zj x1, zj x2], [zp a0, zj x2])) rfl rfl rfl ?_
  show Zr sc 85 4 [zp a0, zj x1, zj x2] [zp a0, zj x2] w ov w' c s
  refine rl_gf rfl L0 rfl rfl ?_
  show Zr sc 85 7 [zp a0, zj x1, zj x2] [zj ct, zj x2] w ov w' c s
  refine rl_ic rfl ?_
  show Zr sc 85 8 [zp a0, zj x1, zj x2] [zj 1, zj ct, zj x2] w ov w' c s
  refine rl_sub rfl ?_
  show Zr sc 85 9 [zp a0, zj x1, zj x2] [zj (ct - 1), zj x2] w ov w' c s
  obtain ⟨hr_1, h⟩ := h
  refine Zr_br (p := (ct - 1) ≤ x2) rfl rfl (zcmp_j (cnd := .ge) hr_1.1 hr_1.2) (fun hp => ?_) (fun hp => ?_)
  · replace h := h.1 hp
    show Zr sc 85 30 [zp a0, zj x1, zj x2] [] w ov w' c s
    refine Zr_st (q := (31, [zp a0, zj x1, zj x2], [zp a0])) rfl rfl rfl ?_
    show Zr sc 85 31 [zp a0, zj x1, zj x2] [zp a0] w ov w' c s
    refine rl_gf rfl L0 rfl rfl ?_
    show Zr sc 85 34 [zp a0, zj x1, zj x2] [zj ct] w ov w' c s
    obtain ⟨hr_2, h⟩ := h
    refine Zr_b0 (p := ct ≤ 0) rfl rfl (zcmp_0 (cnd := .le) hr_2) (fun hp => ?_) (fun hp => ?_)
    · replace h := h.1 hp
      show Zr sc 85 46 [zp a0, zj x1, zj x2] [] w ov w' c s
      refine rl_ic rfl ?_
      show Zr sc 85 47 [zp a0, zj x1, zj x2] [zj 0] w ov w' c s
      obtain ⟨h1, h2, h3, h4⟩ := h
      subst h1; subst h2; subst h3; subst h4
      exact Zr_ret (ins := .ireturn) rfl rfl
    · replace h := h.2 hp
      show Zr sc 85 37 [zp a0, zj x1, zj x2] [] w ov w' c s
      refine Zr_st (q := (38, [zp a0, zj x1, zj x2], [zp a0])) rfl rfl rfl ?_
      show Zr sc 85 38 [zp a0, zj x1, zj x2] [zp a0] w ov w' c s
      refine rl_gf rfl L0 rfl rfl ?_
      show Zr sc 85 41 [zp a0, zj x1, zj x2] [zj ct] w ov w' c s
      refine rl_ic rfl ?_
      show Zr sc 85 42 [zp a0, zj x1, zj x2] [zj 1, zj ct] w ov w' c s
      refine rl_sub rfl ?_
      show Zr sc 85 43 [zp a0, zj x1, zj x2] [zj (ct - 1)] w ov w' c s
      refine Zr_st (q := (47, [zp a0, zj x1, zj x2], [zj (ct - 1)])) rfl rfl rfl ?_
      show Zr sc 85 47 [zp a0, zj x1, zj x2] [zj (ct - 1)] w ov w' c s
      obtain ⟨h1, h2, h3, h4⟩ := h
      subst h1; subst h2; subst h3; subst h4
      exact Zr_ret (ins := .ireturn) rfl rfl
  · replace h := h.2 hp
    show Zr sc 85 12 [zp a0, zj x1, zj x2] [] w ov w' c s
    refine Zr_st (q := (13, [zp a0, zj x1, zj x2], [zp a0])) rfl rfl rfl ?_
    show Zr sc 85 13 [zp a0, zj x1, zj x2] [zp a0] w ov w' c s
    refine rl_gf rfl L0 rfl rfl ?_
    show Zr sc 85 16 [zp a0, zj x1, zj x2] [zp (a0 + 4)] w ov w' c s
    refine Zr_st (q := (17, [zp a0, zj x1, zj x2], [zj x2, zp (a0 + 4)])) rfl rfl rfl ?_
    show Zr sc 85 17 [zp a0, zj x1, zj x2] [zj x2, zp (a0 + 4)] w ov w' c s
    obtain ⟨hi_3, h⟩ := h
    refine rl_ia rfl L4 hi_3.1 hi_3.2.1 hi_3.2.2 ?_
    show Zr sc 85 18 [zp a0, zj x1, zj x2] [zj (zgi bp x2)] w ov w' c s
    refine Zr_st (q := (19, [zp a0, zj x1, zj x2], [zj x1, zj (zgi bp x2)])) rfl rfl rfl ?_
    show Zr sc 85 19 [zp a0, zj x1, zj x2] [zj x1, zj (zgi bp x2)] w ov w' c s
    obtain ⟨hr_4, h⟩ := h
    refine Zr_br (p := (zgi bp x2) ≠ x1) rfl rfl (zcmp_j (cnd := .ne) hr_4.1 hr_4.2) (fun hp => ?_) (fun hp => ?_)
    · replace h := h.1 hp
      show Zr sc 85 24 [zp a0, zj x1, zj x2] [] w ov w' c s
      refine rl_inc rfl rfl rfl rfl ?_
      show Zr sc 85 27 [zp a0, zj x1, zj (x2 + 1)] [] w ov w' c s
      refine Zr_st (q := (2, [zp a0, zj x1, zj (x2 + 1)], [])) rfl rfl rfl ?_
      show Zr sc 85 2 [zp a0, zj x1, zj (x2 + 1)] [] w ov w' c s
      exact h
    · replace h := h.2 hp
      show Zr sc 85 22 [zp a0, zj x1, zj x2] [] w ov w' c s
      refine Zr_st (q := (23, [zp a0, zj x1, zj x2], [zj x2])) rfl rfl rfl ?_
      show Zr sc 85 23 [zp a0, zj x1, zj x2] [zj x2] w ov w' c s
      obtain ⟨h1, h2, h3, h4⟩ := h
      subst h1; subst h2; subst h3; subst h4
      exact Zr_ret (ins := .ireturn) rfl rfl

-- HeapwrightLab$Fits.joins(II)I
set_option maxRecDepth 100000 in
theorem V86_0 {sc : List Value} {w w' : List zE} {ov : Option Value} {c s : Nat} {a0 : Nat} {x1 : Int} {x2 : Int} {wy : Int} {st : Int} {hd : Int} {hn : Int} {sn : Int} {nm : Int} {ar : Int} {pk : Int} {dn : Int} (L0 : w[a0]? = some (zob 2 [zp (a0 + 1), zp (a0 + 6), zj wy, zj st, zj hd, zj hn, zj sn, zp (a0 + 9), zp (a0 + 10), zj nm, zj ar, zj pk, zj dn])) (h : (∃ fs_2 : List Value, w[(a0 + 6)]? = some (zob 3 fs_2) ∧ (∃ r_5 : Int, Zc sc 47 [zp (a0 + 6), zj x1] w (some (zj r_5)) w 0 0 ∧ (∃ r_8 : Int, Zc sc 24 [zp (a0 + 6), zj r_5] w (some (zj r_8)) w 0 0 ∧ ((zrg r_8 ∧ zrg x1) ∧ ((x1 ≤ r_8 → (∃ r_12 : Int, Zc sc 24 [zp (a0 + 6), zj r_5] w (some (zj r_12)) w 0 0 ∧ (∃ r_15 : Int, Zc sc 26 [zp (a0 + 6), zj r_5] w (some (zj r_15)) w 0 0 ∧ ((zrg (r_12 + r_15) ∧ zrg (x1 + x2)) ∧ (((r_12 + r_15) ≤ (x1 + x2) → (ov = some (zj 0) ∧ w' = w ∧ c = 0 ∧ s = 0)) ∧ (¬ ((r_12 + r_15) ≤ (x1 + x2)) → (ov = some (zj (0 + 1)) ∧ w' = w ∧ c = 0 ∧ s = 0))))))) ∧ (¬ (x1 ≤ r_8) → (∃ r_19 : Int, Zc sc 24 [zp (a0 + 6), zj r_5] w (some (zj r_19)) w 0 0 ∧ (∃ r_22 : Int, Zc sc 26 [zp (a0 + 6), zj r_5] w (some (zj r_22)) w 0 0 ∧ ((zrg (r_19 + r_22) ∧ zrg (x1 + x2)) ∧ (((r_19 + r_22) ≤ (x1 + x2) → (ov = some (zj (0 + 1)) ∧ w' = w ∧ c = 0 ∧ s = 0)) ∧ (¬ ((r_19 + r_22) ≤ (x1 + x2)) → (ov = some (zj ((0 + 1) + 1)) ∧ w' = w ∧ c = 0 ∧ s = 0))))))))))))) : Zr sc 86 0 [zp a0, zj x1, zj x2, zmk, zmk] [] w ov w' c s := by
  refine Zr_st (q := (1, [zp a0, zj x1, zj x2, zmk, zmk], [zp a0])) rfl rfl rfl ?_
  show Zr sc 86 1 [zp a0, zj x1, zj x2, zmk, zmk] [zp a0] w ov w' c s
  refine rl_gf rfl L0 rfl rfl ?_
  show Zr sc 86 4 [zp a0, zj x1, zj x2, zmk, zmk] [zp (a0 + 6)] w ov w' c s
  refine Zr_st (q := (5, [zp a0, zj x1, zj x2, zmk, zmk], [zj x1, zp (a0 + 6)])) rfl rfl rfl ?_
  show Zr sc 86 5 [zp a0, zj x1, zj x2, zmk, zmk] [zj x1, zp (a0 + 6)] w ov w' c s
  obtain ⟨fs_2, hl_1, h⟩ := h
  obtain ⟨r_5, hk_9, h⟩ := h
  refine rn_cal0 (ins := .invokevirtual 44) (rest := []) rfl rfl rfl rfl (zinv_v (fs := _) hl_1 rfl rfl rfl rfl) rfl rfl hk_9 ?_
  show Zr sc 86 8 [zp a0, zj x1, zj x2, zmk, zmk] [zj r_5] w ov w' c s
  refine Zr_st (q := (9, [zp a0, zj x1, zj x2, zj r_5, zmk], [])) rfl rfl rfl ?_
  show Zr sc 86 9 [zp a0, zj x1, zj x2, zj r_5, zmk] [] w ov w' c s
  refine rl_ic rfl ?_
  show Zr sc 86 10 [zp a0, zj x1, zj x2, zj r_5, zmk] [zj 0] w ov w' c s
  refine Zr_st (q := (12, [zp a0, zj x1, zj x2, zj r_5, zj 0], [])) rfl rfl rfl ?_
  show Zr sc 86 12 [zp a0, zj x1, zj x2, zj r_5, zj 0] [] w ov w' c s
  refine Zr_st (q := (13, [zp a0, zj x1, zj x2, zj r_5, zj 0], [zp a0])) rfl rfl rfl ?_
  show Zr sc 86 13 [zp a0, zj x1, zj x2, zj r_5, zj 0] [zp a0] w ov w' c s
  refine rl_gf rfl L0 rfl rfl ?_
  show Zr sc 86 16 [zp a0, zj x1, zj x2, zj r_5, zj 0] [zp (a0 + 6)] w ov w' c s
  refine Zr_st (q := (17, [zp a0, zj x1, zj x2, zj r_5, zj 0], [zj r_5, zp (a0 + 6)])) rfl rfl rfl ?_
  show Zr sc 86 17 [zp a0, zj x1, zj x2, zj r_5, zj 0] [zj r_5, zp (a0 + 6)] w ov w' c s
  obtain ⟨r_8, hk_9, h⟩ := h
  refine rn_cal0 (ins := .invokevirtual 63) (rest := []) rfl rfl rfl rfl (zinv_v (fs := _) hl_1 rfl rfl rfl rfl) rfl rfl hk_9 ?_
  show Zr sc 86 20 [zp a0, zj x1, zj x2, zj r_5, zj 0] [zj r_8] w ov w' c s
  refine Zr_st (q := (21, [zp a0, zj x1, zj x2, zj r_5, zj 0], [zj x1, zj r_8])) rfl rfl rfl ?_
  show Zr sc 86 21 [zp a0, zj x1, zj x2, zj r_5, zj 0] [zj x1, zj r_8] w ov w' c s
  obtain ⟨hr_9, h⟩ := h
  refine Zr_br (p := x1 ≤ r_8) rfl rfl (zcmp_j (cnd := .ge) hr_9.1 hr_9.2) (fun hp => ?_) (fun hp => ?_)
  · replace h := h.1 hp
    show Zr sc 86 27 [zp a0, zj x1, zj x2, zj r_5, zj 0] [] w ov w' c s
    refine Zr_st (q := (28, [zp a0, zj x1, zj x2, zj r_5, zj 0], [zp a0])) rfl rfl rfl ?_
    show Zr sc 86 28 [zp a0, zj x1, zj x2, zj r_5, zj 0] [zp a0] w ov w' c s
    refine rl_gf rfl L0 rfl rfl ?_
    show Zr sc 86 31 [zp a0, zj x1, zj x2, zj r_5, zj 0] [zp (a0 + 6)] w ov w' c s
    refine Zr_st (q := (32, [zp a0, zj x1, zj x2, zj r_5, zj 0], [zj r_5, zp (a0 + 6)])) rfl rfl rfl ?_
    show Zr sc 86 32 [zp a0, zj x1, zj x2, zj r_5, zj 0] [zj r_5, zp (a0 + 6)] w ov w' c s
    obtain ⟨r_12, hk_9, h⟩ := h
    refine rn_cal0 (ins := .invokevirtual 63) (rest := []) rfl rfl rfl rfl (zinv_v (fs := _) hl_1 rfl rfl rfl rfl) rfl rfl hk_9 ?_
    show Zr sc 86 35 [zp a0, zj x1, zj x2, zj r_5, zj 0] [zj r_12] w ov w' c s
    refine Zr_st (q := (36, [zp a0, zj x1, zj x2, zj r_5, zj 0], [zp a0, zj r_12])) rfl rfl rfl ?_
    show Zr sc 86 36 [zp a0, zj x1, zj x2, zj r_5, zj 0] [zp a0, zj r_12] w ov w' c s
    refine rl_gf rfl L0 rfl rfl ?_
    show Zr sc 86 39 [zp a0, zj x1, zj x2, zj r_5, zj 0] [zp (a0 + 6), zj r_12] w ov w' c s
    refine Zr_st (q := (40, [zp a0, zj x1, zj x2, zj r_5, zj 0], [zj r_5, zp (a0 + 6), zj r_12])) rfl rfl rfl ?_
    show Zr sc 86 40 [zp a0, zj x1, zj x2, zj r_5, zj 0] [zj r_5, zp (a0 + 6), zj r_12] w ov w' c s
    obtain ⟨r_15, hk_9, h⟩ := h
    refine rn_cal0 (ins := .invokevirtual 66) (rest := [zj r_12]) rfl rfl rfl rfl (zinv_v (fs := _) hl_1 rfl rfl rfl rfl) rfl rfl hk_9 ?_
    show Zr sc 86 43 [zp a0, zj x1, zj x2, zj r_5, zj 0] [zj r_15, zj r_12] w ov w' c s
    refine rl_add rfl ?_
    show Zr sc 86 44 [zp a0, zj x1, zj x2, zj r_5, zj 0] [zj (r_12 + r_15)] w ov w' c s
    refine Zr_st (q := (45, [zp a0, zj x1, zj x2, zj r_5, zj 0], [zj x1, zj (r_12 + r_15)])) rfl rfl rfl ?_
    show Zr sc 86 45 [zp a0, zj x1, zj x2, zj r_5, zj 0] [zj x1, zj (r_12 + r_15)] w ov w' c s
    refine Zr_st (q := (46, [zp a0, zj x1, zj x2, zj r_5, zj 0], [zj x2, zj x1, zj (r_12 + r_15)])) rfl rfl rfl ?_
    show Zr sc 86 46 [zp a0, zj x1, zj x2, zj r_5, zj 0] [zj x2, zj x1, zj (r_12 + r_15)] w ov w' c s
    refine rl_add rfl ?_
    show Zr sc 86 47 [zp a0, zj x1, zj x2, zj r_5, zj 0] [zj (x1 + x2), zj (r_12 + r_15)] w ov w' c s
    obtain ⟨hr_16, h⟩ := h
    refine Zr_br (p := (r_12 + r_15) ≤ (x1 + x2)) rfl rfl (zcmp_j (cnd := .le) hr_16.1 hr_16.2) (fun hp => ?_) (fun hp => ?_)
    · replace h := h.1 hp
      show Zr sc 86 53 [zp a0, zj x1, zj x2, zj r_5, zj 0] [] w ov w' c s
      refine Zr_st (q := (55, [zp a0, zj x1, zj x2, zj r_5, zj 0], [zj 0])) rfl rfl rfl ?_
      show Zr sc 86 55 [zp a0, zj x1, zj x2, zj r_5, zj 0] [zj 0] w ov w' c s
      obtain ⟨h1, h2, h3, h4⟩ := h
      subst h1; subst h2; subst h3; subst h4
      exact Zr_ret (ins := .ireturn) rfl rfl
    · replace h := h.2 hp
      show Zr sc 86 50 [zp a0, zj x1, zj x2, zj r_5, zj 0] [] w ov w' c s
      refine rl_inc rfl rfl rfl rfl ?_
      show Zr sc 86 53 [zp a0, zj x1, zj x2, zj r_5, zj (0 + 1)] [] w ov w' c s
      refine Zr_st (q := (55, [zp a0, zj x1, zj x2, zj r_5, zj (0 + 1)], [zj (0 + 1)])) rfl rfl rfl ?_
      show Zr sc 86 55 [zp a0, zj x1, zj x2, zj r_5, zj (0 + 1)] [zj (0 + 1)] w ov w' c s
      obtain ⟨h1, h2, h3, h4⟩ := h
      subst h1; subst h2; subst h3; subst h4
      exact Zr_ret (ins := .ireturn) rfl rfl
  · replace h := h.2 hp
    show Zr sc 86 24 [zp a0, zj x1, zj x2, zj r_5, zj 0] [] w ov w' c s
    refine rl_inc rfl rfl rfl rfl ?_
    show Zr sc 86 27 [zp a0, zj x1, zj x2, zj r_5, zj (0 + 1)] [] w ov w' c s
    refine Zr_st (q := (28, [zp a0, zj x1, zj x2, zj r_5, zj (0 + 1)], [zp a0])) rfl rfl rfl ?_
    show Zr sc 86 28 [zp a0, zj x1, zj x2, zj r_5, zj (0 + 1)] [zp a0] w ov w' c s
    refine rl_gf rfl L0 rfl rfl ?_
    show Zr sc 86 31 [zp a0, zj x1, zj x2, zj r_5, zj (0 + 1)] [zp (a0 + 6)] w ov w' c s
    refine Zr_st (q := (32, [zp a0, zj x1, zj x2, zj r_5, zj (0 + 1)], [zj r_5, zp (a0 + 6)])) rfl rfl rfl ?_
    show Zr sc 86 32 [zp a0, zj x1, zj x2, zj r_5, zj (0 + 1)] [zj r_5, zp (a0 + 6)] w ov w' c s
    obtain ⟨r_19, hk_9, h⟩ := h
    refine rn_cal0 (ins := .invokevirtual 63) (rest := []) rfl rfl rfl rfl (zinv_v (fs := _) hl_1 rfl rfl rfl rfl) rfl rfl hk_9 ?_
    show Zr sc 86 35 [zp a0, zj x1, zj x2, zj r_5, zj (0 + 1)] [zj r_19] w ov w' c s
    refine Zr_st (q := (36, [zp a0, zj x1, zj x2, zj r_5, zj (0 + 1)], [zp a0, zj r_19])) rfl rfl rfl ?_
    show Zr sc 86 36 [zp a0, zj x1, zj x2, zj r_5, zj (0 + 1)] [zp a0, zj r_19] w ov w' c s
    refine rl_gf rfl L0 rfl rfl ?_
    show Zr sc 86 39 [zp a0, zj x1, zj x2, zj r_5, zj (0 + 1)] [zp (a0 + 6), zj r_19] w ov w' c s
    refine Zr_st (q := (40, [zp a0, zj x1, zj x2, zj r_5, zj (0 + 1)], [zj r_5, zp (a0 + 6), zj r_19])) rfl rfl rfl ?_
    show Zr sc 86 40 [zp a0, zj x1, zj x2, zj r_5, zj (0 + 1)] [zj r_5, zp (a0 + 6), zj r_19] w ov w' c s
    obtain ⟨r_22, hk_9, h⟩ := h
    refine rn_cal0 (ins := .invokevirtual 66) (rest := [zj r_19]) rfl rfl rfl rfl (zinv_v (fs := _) hl_1 rfl rfl rfl rfl) rfl rfl hk_9 ?_
    show Zr sc 86 43 [zp a0, zj x1, zj x2, zj r_5, zj (0 + 1)] [zj r_22, zj r_19] w ov w' c s
    refine rl_add rfl ?_
    show Zr sc 86 44 [zp a0, zj x1, zj x2, zj r_5, zj (0 + 1)] [zj (r_19 + r_22)] w ov w' c s
    refine Zr_st (q := (45, [zp a0, zj x1, zj x2, zj r_5, zj (0 + 1)], [zj x1, zj (r_19 + r_22)])) rfl rfl rfl ?_
    show Zr sc 86 45 [zp a0, zj x1, zj x2, zj r_5, zj (0 + 1)] [zj x1, zj (r_19 + r_22)] w ov w' c s
    refine Zr_st (q := (46, [zp a0, zj x1, zj x2, zj r_5, zj (0 + 1)], [zj x2, zj x1, zj (r_19 + r_22)])) rfl rfl rfl ?_
    show Zr sc 86 46 [zp a0, zj x1, zj x2, zj r_5, zj (0 + 1)] [zj x2, zj x1, zj (r_19 + r_22)] w ov w' c s
    refine rl_add rfl ?_
    show Zr sc 86 47 [zp a0, zj x1, zj x2, zj r_5, zj (0 + 1)] [zj (x1 + x2), zj (r_19 + r_22)] w ov w' c s
    obtain ⟨hr_23, h⟩ := h
    refine Zr_br (p := (r_19 + r_22) ≤ (x1 + x2)) rfl rfl (zcmp_j (cnd := .le) hr_23.1 hr_23.2) (fun hp => ?_) (fun hp => ?_)
    · replace h := h.1 hp
      show Zr sc 86 53 [zp a0, zj x1, zj x2, zj r_5, zj (0 + 1)] [] w ov w' c s
      refine Zr_st (q := (55, [zp a0, zj x1, zj x2, zj r_5, zj (0 + 1)], [zj (0 + 1)])) rfl rfl rfl ?_
      show Zr sc 86 55 [zp a0, zj x1, zj x2, zj r_5, zj (0 + 1)] [zj (0 + 1)] w ov w' c s
      obtain ⟨h1, h2, h3, h4⟩ := h
      subst h1; subst h2; subst h3; subst h4
      exact Zr_ret (ins := .ireturn) rfl rfl
    · replace h := h.2 hp
      show Zr sc 86 50 [zp a0, zj x1, zj x2, zj r_5, zj (0 + 1)] [] w ov w' c s
      refine rl_inc rfl rfl rfl rfl ?_
      show Zr sc 86 53 [zp a0, zj x1, zj x2, zj r_5, zj ((0 + 1) + 1)] [] w ov w' c s
      refine Zr_st (q := (55, [zp a0, zj x1, zj x2, zj r_5, zj ((0 + 1) + 1)], [zj ((0 + 1) + 1)])) rfl rfl rfl ?_
      show Zr sc 86 55 [zp a0, zj x1, zj x2, zj r_5, zj ((0 + 1) + 1)] [zj ((0 + 1) + 1)] w ov w' c s
      obtain ⟨h1, h2, h3, h4⟩ := h
      subst h1; subst h2; subst h3; subst h4
      exact Zr_ret (ins := .ireturn) rfl rfl

-- HeapwrightLab$Memory.joins(II)I
set_option maxRecDepth 100000 in
theorem V87_0_1 {sc : List Value} {w w' : List zE} {ov : Option Value} {c s : Nat} {a0 : Nat} {x1 : Int} {x2 : Int} {wy : Int} {st : Int} {hd : Int} {hn : Int} {sn : Int} {nm : Int} {ar : Int} {pk : Int} {dn : Int} (L0 : w[a0]? = some (zob 1 [zp (a0 + 1), zp (a0 + 6), zj wy, zj st, zj hd, zj hn, zj sn, zp (a0 + 9), zp (a0 + 10), zj nm, zj ar, zj pk, zj dn])) (h : (∃ fs_2 : List Value, w[(a0 + 6)]? = some (zob 3 fs_2) ∧ (∃ r_5 : Int, Zc sc 47 [zp (a0 + 6), zj x1] w (some (zj r_5)) w 0 0 ∧ (∃ r_8 : Int, Zc sc 26 [zp (a0 + 6), zj r_5] w (some (zj r_8)) w 0 0 ∧ (∃ r_11 : Int, Zc sc 65 [zp a0, zj r_8, zj x2] w (some (zj r_11)) w 0 0 ∧ (ov = some (zj r_11) ∧ w' = w ∧ c = 0 ∧ s = 0)))))) : Zr sc 87 0 [zp a0, zj x1, zj x2] [] w ov w' c s := by
  refine Zr_st (q := (1, [zp a0, zj x1, zj x2], [zp a0])) rfl rfl rfl ?_
  show Zr sc 87 1 [zp a0, zj x1, zj x2] [zp a0] w ov w' c s
  refine Zr_st (q := (2, [zp a0, zj x1, zj x2], [zp a0, zp a0])) rfl rfl rfl ?_
  show Zr sc 87 2 [zp a0, zj x1, zj x2] [zp a0, zp a0] w ov w' c s
  refine rl_gf rfl L0 rfl rfl ?_
  show Zr sc 87 5 [zp a0, zj x1, zj x2] [zp (a0 + 6), zp a0] w ov w' c s
  refine Zr_st (q := (6, [zp a0, zj x1, zj x2], [zp a0, zp (a0 + 6), zp a0])) rfl rfl rfl ?_
  show Zr sc 87 6 [zp a0, zj x1, zj x2] [zp a0, zp (a0 + 6), zp a0] w ov w' c s
  refine rl_gf rfl L0 rfl rfl ?_
  show Zr sc 87 9 [zp a0, zj x1, zj x2] [zp (a0 + 6), zp (a0 + 6), zp a0] w ov w' c s
  refine Zr_st (q := (10, [zp a0, zj x1, zj x2], [zj x1, zp (a0 + 6), zp (a0 + 6), zp a0])) rfl rfl rfl ?_
  show Zr sc 87 10 [zp a0, zj x1, zj x2] [zj x1, zp (a0 + 6), zp (a0 + 6), zp a0] w ov w' c s
  obtain ⟨fs_2, hl_1, h⟩ := h
  obtain ⟨r_5, hk_9, h⟩ := h
  refine rn_cal0 (ins := .invokevirtual 42) (rest := [zp (a0 + 6), zp a0]) rfl rfl rfl rfl (zinv_v (fs := _) hl_1 rfl rfl rfl rfl) rfl rfl hk_9 ?_
  show Zr sc 87 13 [zp a0, zj x1, zj x2] [zj r_5, zp (a0 + 6), zp a0] w ov w' c s
  obtain ⟨r_8, hk_9, h⟩ := h
  refine rn_cal0 (ins := .invokevirtual 46) (rest := [zp a0]) rfl rfl rfl rfl (zinv_v (fs := _) hl_1 rfl rfl rfl rfl) rfl rfl hk_9 ?_
  show Zr sc 87 16 [zp a0, zj x1, zj x2] [zj r_8, zp a0] w ov w' c s
  refine Zr_st (q := (17, [zp a0, zj x1, zj x2], [zj x2, zj r_8, zp a0])) rfl rfl rfl ?_
  show Zr sc 87 17 [zp a0, zj x1, zj x2] [zj x2, zj r_8, zp a0] w ov w' c s
  obtain ⟨r_11, hk_9, h⟩ := h
  refine rn_cal0 (ins := .invokevirtual 49) (rest := []) rfl rfl rfl rfl (zinv_v (fs := _) L0 rfl rfl rfl rfl) rfl rfl hk_9 ?_
  show Zr sc 87 20 [zp a0, zj x1, zj x2] [zj r_11] w ov w' c s
  obtain ⟨h1, h2, h3, h4⟩ := h
  subst h1; subst h2; subst h3; subst h4
  exact Zr_ret (ins := .ireturn) rfl rfl

-- HeapwrightLab$Memory.joins(II)I
set_option maxRecDepth 100000 in
theorem V87_0_4 {sc : List Value} {w w' : List zE} {ov : Option Value} {c s : Nat} {a0 : Nat} {x1 : Int} {x2 : Int} {wy : Int} {st : Int} {hd : Int} {hn : Int} {sn : Int} {nm : Int} {ar : Int} {pk : Int} {dn : Int} (L0 : w[a0]? = some (zob 4 [zp (a0 + 1), zp (a0 + 6), zj wy, zj st, zj hd, zj hn, zj sn, zp (a0 + 9), zp (a0 + 10), zj nm, zj ar, zj pk, zj dn, zp (a0 + 11)])) (h : (∃ fs_2 : List Value, w[(a0 + 6)]? = some (zob 3 fs_2) ∧ (∃ r_5 : Int, Zc sc 47 [zp (a0 + 6), zj x1] w (some (zj r_5)) w 0 0 ∧ (∃ r_8 : Int, Zc sc 26 [zp (a0 + 6), zj r_5] w (some (zj r_8)) w 0 0 ∧ (∃ r_11 : Int, Zc sc 67 [zp a0, zj r_8, zj x2] w (some (zj r_11)) w 0 0 ∧ (ov = some (zj r_11) ∧ w' = w ∧ c = 0 ∧ s = 0)))))) : Zr sc 87 0 [zp a0, zj x1, zj x2] [] w ov w' c s := by
  refine Zr_st (q := (1, [zp a0, zj x1, zj x2], [zp a0])) rfl rfl rfl ?_
  show Zr sc 87 1 [zp a0, zj x1, zj x2] [zp a0] w ov w' c s
  refine Zr_st (q := (2, [zp a0, zj x1, zj x2], [zp a0, zp a0])) rfl rfl rfl ?_
  show Zr sc 87 2 [zp a0, zj x1, zj x2] [zp a0, zp a0] w ov w' c s
  refine rl_gf rfl L0 rfl rfl ?_
  show Zr sc 87 5 [zp a0, zj x1, zj x2] [zp (a0 + 6), zp a0] w ov w' c s
  refine Zr_st (q := (6, [zp a0, zj x1, zj x2], [zp a0, zp (a0 + 6), zp a0])) rfl rfl rfl ?_
  show Zr sc 87 6 [zp a0, zj x1, zj x2] [zp a0, zp (a0 + 6), zp a0] w ov w' c s
  refine rl_gf rfl L0 rfl rfl ?_
  show Zr sc 87 9 [zp a0, zj x1, zj x2] [zp (a0 + 6), zp (a0 + 6), zp a0] w ov w' c s
  refine Zr_st (q := (10, [zp a0, zj x1, zj x2], [zj x1, zp (a0 + 6), zp (a0 + 6), zp a0])) rfl rfl rfl ?_
  show Zr sc 87 10 [zp a0, zj x1, zj x2] [zj x1, zp (a0 + 6), zp (a0 + 6), zp a0] w ov w' c s
  obtain ⟨fs_2, hl_1, h⟩ := h
  obtain ⟨r_5, hk_9, h⟩ := h
  refine rn_cal0 (ins := .invokevirtual 42) (rest := [zp (a0 + 6), zp a0]) rfl rfl rfl rfl (zinv_v (fs := _) hl_1 rfl rfl rfl rfl) rfl rfl hk_9 ?_
  show Zr sc 87 13 [zp a0, zj x1, zj x2] [zj r_5, zp (a0 + 6), zp a0] w ov w' c s
  obtain ⟨r_8, hk_9, h⟩ := h
  refine rn_cal0 (ins := .invokevirtual 46) (rest := [zp a0]) rfl rfl rfl rfl (zinv_v (fs := _) hl_1 rfl rfl rfl rfl) rfl rfl hk_9 ?_
  show Zr sc 87 16 [zp a0, zj x1, zj x2] [zj r_8, zp a0] w ov w' c s
  refine Zr_st (q := (17, [zp a0, zj x1, zj x2], [zj x2, zj r_8, zp a0])) rfl rfl rfl ?_
  show Zr sc 87 17 [zp a0, zj x1, zj x2] [zj x2, zj r_8, zp a0] w ov w' c s
  obtain ⟨r_11, hk_9, h⟩ := h
  refine rn_cal0 (ins := .invokevirtual 49) (rest := []) rfl rfl rfl rfl (zinv_v (fs := _) L0 rfl rfl rfl rfl) rfl rfl hk_9 ?_
  show Zr sc 87 20 [zp a0, zj x1, zj x2] [zj r_11] w ov w' c s
  obtain ⟨h1, h2, h3, h4⟩ := h
  subst h1; subst h2; subst h3; subst h4
  exact Zr_ret (ins := .ireturn) rfl rfl

-- HeapwrightLab$Memory.resettle(II)V
set_option maxRecDepth 100000 in
theorem V88_0_1 {sc : List Value} {w w' : List zE} {ov : Option Value} {c s : Nat} {a0 : Nat} {x1 : Int} {x2 : Int} {wy : Int} {st : Int} {hd : Int} {hn : Int} {sn : Int} {nm : Int} {ar : Int} {pk : Int} {dn : Int} (L0 : w[a0]? = some (zob 1 [zp (a0 + 1), zp (a0 + 6), zj wy, zj st, zj hd, zj hn, zj sn, zp (a0 + 9), zp (a0 + 10), zj nm, zj ar, zj pk, zj dn])) (h : (∃ fs_2 : List Value, w[(a0 + 1)]? = some (zob 0 fs_2) ∧ (∃ r_5 : Int, Zc sc 7 [zp (a0 + 1), zj x1] w (some (zj r_5)) w 0 0 ∧ ((zrg r_5) ∧ ((r_5 ≠ 0 → (∃ r_9 : Int, Zc sc 39 [zp a0, zj x2] w (some (zj r_9)) w 0 0 ∧ (∃ r_12 : Int, Zc sc 13 [zp (a0 + 1), zj x1] w (some (zj r_12)) w 0 0 ∧ ((zrg r_9 ∧ zrg r_12) ∧ ((r_9 = r_12 → (∃ w_14 : List zE, Zc sc 92 [zp (a0 + 1), zj x1, zj x2] w none w_14 0 0 ∧ (ov = none ∧ w' = w_14 ∧ c = 0 ∧ s = 0))) ∧ (¬ (r_9 = r_12) → (∃ r_18 : Int, Zc sc 91 [zp a0, zj x1, zj r_9] w (some (zj r_18)) w 0 0 ∧ ((zrg r_18) ∧ ((r_18 = 0 → (∃ r_22 : Int, Zc sc 11 [zp (a0 + 1), zj x1] w (some (zj r_22)) w 0 0 ∧ ((zrg x2 ∧ zrg r_22) ∧ (∃ r_26 : Int, ∃ w_24 : List zE, Zc sc 63 [zp a0, zj 80, zj x2, zj r_9] w (some (zj r_26)) w_24 0 0 ∧ ((zrg r_26) ∧ ((r_26 = 0 → (ov = none ∧ w' = w_24 ∧ c = 0 ∧ s = 0)) ∧ (¬ (r_26 = 0) → (∃ fs_29 : List Value, w_24[a0]? = some (zob 1 fs_29) ∧ (∃ w_30 : List zE, Zc sc 83 [zp a0, zj x1] w_24 none w_30 0 0 ∧ (∃ wy_33 : Int, ∃ st_34 : Int, ∃ hd_35 : Int, ∃ hn_36 : Int, ∃ sn_37 : Int, ∃ nm_38 : Int, ∃ ar_39 : Int, ∃ pk_40 : Int, ∃ dn_41 : Int, w_30[a0]? = some (zob 1 [zp (a0 + 1), zp (a0 + 6), zj wy_33, zj st_34, zj hd_35, zj hn_36, zj sn_37, zp (a0 + 9), zp (a0 + 10), zj nm_38, zj ar_39, zj pk_40, zj dn_41]) ∧ (∃ fs_43 : List Value, w_30[(a0 + 1)]? = some (zob 0 fs_43) ∧ (∃ w_44 : List zE, Zc sc 93 [zp (a0 + 1), zj 80, zj x1] w_30 none w_44 0 0 ∧ (∃ fs_47 : List Value, w_44[a0]? = some (zob 1 fs_47) ∧ (∃ w_48 : List zE, Zc sc 64 [zp a0, zj 3, zj (min x2 r_22)] w_44 none w_48 0 0 ∧ (ov = none ∧ w' = w_48 ∧ c = 0 ∧ s = 0))))))))))))))) ∧ (¬ (r_18 = 0) → (∃ w_50 : List zE, Zc sc 92 [zp (a0 + 1), zj x1, zj x2] w none w_50 0 0 ∧ (ov = none ∧ w' = w_50 ∧ c = 0 ∧ s = 0)))))))))))) ∧ (¬ (r_5 ≠ 0) → (ov = none ∧ w' = w ∧ c = 0 ∧ s = 0))))))) : Zr sc 88 0 [zp a0, zj x1, zj x2, zmk, zmk] [] w ov w' c s := by
  refine Zr_st (q := (1, [zp a0, zj x1, zj x2, zmk, zmk], [zp a0])) rfl rfl rfl ?_
  show Zr sc 88 1 [zp a0, zj x1, zj x2, zmk, zmk] [zp a0] w ov w' c s
  refine rl_gf rfl L0 rfl rfl ?_
  show Zr sc 88 4 [zp a0, zj x1, zj x2, zmk, zmk] [zp (a0 + 1)] w ov w' c s
  refine Zr_st (q := (5, [zp a0, zj x1, zj x2, zmk, zmk], [zj x1, zp (a0 + 1)])) rfl rfl rfl ?_
  show Zr sc 88 5 [zp a0, zj x1, zj x2, zmk, zmk] [zj x1, zp (a0 + 1)] w ov w' c s
  obtain ⟨fs_2, hl_1, h⟩ := h
  obtain ⟨r_5, hk_9, h⟩ := h
  refine rn_cal0 (ins := .invokevirtual 175) (rest := []) rfl rfl rfl rfl (zinv_v (fs := _) hl_1 rfl rfl rfl rfl) rfl rfl hk_9 ?_
  show Zr sc 88 8 [zp a0, zj x1, zj x2, zmk, zmk] [zj r_5] w ov w' c s
  obtain ⟨hr_6, h⟩ := h
  refine Zr_b0 (p := r_5 ≠ 0) rfl rfl (zcmp_0 (cnd := .ne) hr_6) (fun hp => ?_) (fun hp => ?_)
  · replace h := h.1 hp
    show Zr sc 88 12 [zp a0, zj x1, zj x2, zmk, zmk] [] w ov w' c s
    refine Zr_st (q := (13, [zp a0, zj x1, zj x2, zmk, zmk], [zp a0])) rfl rfl rfl ?_
    show Zr sc 88 13 [zp a0, zj x1, zj x2, zmk, zmk] [zp a0] w ov w' c s
    refine Zr_st (q := (14, [zp a0, zj x1, zj x2, zmk, zmk], [zj x2, zp a0])) rfl rfl rfl ?_
    show Zr sc 88 14 [zp a0, zj x1, zj x2, zmk, zmk] [zj x2, zp a0] w ov w' c s
    obtain ⟨r_9, hk_9, h⟩ := h
    refine rn_cal0 (ins := .invokevirtual 124) (rest := []) rfl rfl rfl rfl (zinv_v (fs := _) L0 rfl rfl rfl rfl) rfl rfl hk_9 ?_
    show Zr sc 88 17 [zp a0, zj x1, zj x2, zmk, zmk] [zj r_9] w ov w' c s
    refine Zr_st (q := (18, [zp a0, zj x1, zj x2, zj r_9, zmk], [])) rfl rfl rfl ?_
    show Zr sc 88 18 [zp a0, zj x1, zj x2, zj r_9, zmk] [] w ov w' c s
    refine Zr_st (q := (19, [zp a0, zj x1, zj x2, zj r_9, zmk], [zj r_9])) rfl rfl rfl ?_
    show Zr sc 88 19 [zp a0, zj x1, zj x2, zj r_9, zmk] [zj r_9] w ov w' c s
    refine Zr_st (q := (20, [zp a0, zj x1, zj x2, zj r_9, zmk], [zp a0, zj r_9])) rfl rfl rfl ?_
    show Zr sc 88 20 [zp a0, zj x1, zj x2, zj r_9, zmk] [zp a0, zj r_9] w ov w' c s
    refine rl_gf rfl L0 rfl rfl ?_
    show Zr sc 88 23 [zp a0, zj x1, zj x2, zj r_9, zmk] [zp (a0 + 1), zj r_9] w ov w' c s
    refine Zr_st (q := (24, [zp a0, zj x1, zj x2, zj r_9, zmk], [zj x1, zp (a0 + 1), zj r_9])) rfl rfl rfl ?_
    show Zr sc 88 24 [zp a0, zj x1, zj x2, zj r_9, zmk] [zj x1, zp (a0 + 1), zj r_9] w ov w' c s
    obtain ⟨r_12, hk_9, h⟩ := h
    refine rn_cal0 (ins := .invokevirtual 138) (rest := [zj r_9]) rfl rfl rfl rfl (zinv_v (fs := _) hl_1 rfl rfl rfl rfl) rfl rfl hk_9 ?_
    show Zr sc 88 27 [zp a0, zj x1, zj x2, zj r_9, zmk] [zj r_12, zj r_9] w ov w' c s
    obtain ⟨hr_13, h⟩ := h
    refine Zr_br (p := r_9 = r_12) rfl rfl (zcmp_j (cnd := .eq) hr_13.1 hr_13.2) (fun hp => ?_) (fun hp => ?_)
    · replace h := h.1 hp
      show Zr sc 88 39 [zp a0, zj x1, zj x2, zj r_9, zmk] [] w ov w' c s
      refine Zr_st (q := (40, [zp a0, zj x1, zj x2, zj r_9, zmk], [zp a0])) rfl rfl rfl ?_
      show Zr sc 88 40 [zp a0, zj x1, zj x2, zj r_9, zmk] [zp a0] w ov w' c s
      refine rl_gf rfl L0 rfl rfl ?_
      show Zr sc 88 43 [zp a0, zj x1, zj x2, zj r_9, zmk] [zp (a0 + 1)] w ov w' c s
      refine Zr_st (q := (44, [zp a0, zj x1, zj x2, zj r_9, zmk], [zj x1, zp (a0 + 1)])) rfl rfl rfl ?_
      show Zr sc 88 44 [zp a0, zj x1, zj x2, zj r_9, zmk] [zj x1, zp (a0 + 1)] w ov w' c s
      refine Zr_st (q := (45, [zp a0, zj x1, zj x2, zj r_9, zmk], [zj x2, zj x1, zp (a0 + 1)])) rfl rfl rfl ?_
      show Zr sc 88 45 [zp a0, zj x1, zj x2, zj r_9, zmk] [zj x2, zj x1, zp (a0 + 1)] w ov w' c s
      obtain ⟨w_14, hk_15, h⟩ := h
      refine rn_cal0 (ins := .invokevirtual 186) (rest := []) rfl rfl rfl rfl (zinv_v (fs := _) hl_1 rfl rfl rfl rfl) rfl rfl hk_15 ?_
      show Zr sc 88 48 [zp a0, zj x1, zj x2, zj r_9, zmk] [] w_14 ov w' c s
      obtain ⟨h1, h2, h3, h4⟩ := h
      subst h1; subst h2; subst h3; subst h4
      exact Zr_ret (ins := .return_) rfl rfl
    · replace h := h.2 hp
      show Zr sc 88 30 [zp a0, zj x1, zj x2, zj r_9, zmk] [] w ov w' c s
      refine Zr_st (q := (31, [zp a0, zj x1, zj x2, zj r_9, zmk], [zp a0])) rfl rfl rfl ?_
      show Zr sc 88 31 [zp a0, zj x1, zj x2, zj r_9, zmk] [zp a0] w ov w' c s
      refine Zr_st (q := (32, [zp a0, zj x1, zj x2, zj r_9, zmk], [zj x1, zp a0])) rfl rfl rfl ?_
      show Zr sc 88 32 [zp a0, zj x1, zj x2, zj r_9, zmk] [zj x1, zp a0] w ov w' c s
      refine Zr_st (q := (33, [zp a0, zj x1, zj x2, zj r_9, zmk], [zj r_9, zj x1, zp a0])) rfl rfl rfl ?_
      show Zr sc 88 33 [zp a0, zj x1, zj x2, zj r_9, zmk] [zj r_9, zj x1, zp a0] w ov w' c s
      obtain ⟨r_18, hk_9, h⟩ := h
      refine rn_cal0 (ins := .invokevirtual 182) (rest := []) rfl rfl rfl rfl (zinv_v (fs := _) L0 rfl rfl rfl rfl) rfl rfl hk_9 ?_
      show Zr sc 88 36 [zp a0, zj x1, zj x2, zj r_9, zmk] [zj r_18] w ov w' c s
      obtain ⟨hr_19, h⟩ := h
      refine Zr_b0 (p := r_18 = 0) rfl rfl (zcmp_0 (cnd := .eq) hr_19) (fun hp => ?_) (fun hp => ?_)
      · replace h := h.1 hp
        show Zr sc 88 49 [zp a0, zj x1, zj x2, zj r_9, zmk] [] w ov w' c s
        refine Zr_st (q := (50, [zp a0, zj x1, zj x2, zj r_9, zmk], [zj x2])) rfl rfl rfl ?_
        show Zr sc 88 50 [zp a0, zj x1, zj x2, zj r_9, zmk] [zj x2] w ov w' c s
        refine Zr_st (q := (51, [zp a0, zj x1, zj x2, zj r_9, zmk], [zp a0, zj x2])) rfl rfl rfl ?_
        show Zr sc 88 51 [zp a0, zj x1, zj x2, zj r_9, zmk] [zp a0, zj x2] w ov w' c s
        refine rl_gf rfl L0 rfl rfl ?_
        show Zr sc 88 54 [zp a0, zj x1, zj x2, zj r_9, zmk] [zp (a0 + 1), zj x2] w ov w' c s
        refine Zr_st (q := (55, [zp a0, zj x1, zj x2, zj r_9, zmk], [zj x1, zp (a0 + 1), zj x2])) rfl rfl rfl ?_
        show Zr sc 88 55 [zp a0, zj x1, zj x2, zj r_9, zmk] [zj x1, zp (a0 + 1), zj x2] w ov w' c s
        obtain ⟨r_22, hk_9, h⟩ := h
        refine rn_cal0 (ins := .invokevirtual 137) (rest := [zj x2]) rfl rfl rfl rfl (zinv_v (fs := _) hl_1 rfl rfl rfl rfl) rfl rfl hk_9 ?_
        show Zr sc 88 58 [zp a0, zj x1, zj x2, zj r_9, zmk] [zj r_22, zj x2] w ov w' c s
        obtain ⟨hm_23, h⟩ := h
        refine Zr_mx (b := false) (ins := .invokestatic 189) (rest := []) rfl rfl rfl rfl (zinv_t2 (rest := []) rfl rfl rfl rfl rfl) rfl (zmx_j hm_23.1 hm_23.2) ?_
        show Zr sc 88 61 [zp a0, zj x1, zj x2, zj r_9, zmk] [zj (min x2 r_22)] w ov w' c s
        refine Zr_st (q := (63, [zp a0, zj x1, zj x2, zj r_9, zj (min x2 r_22)], [])) rfl rfl rfl ?_
        show Zr sc 88 63 [zp a0, zj x1, zj x2, zj r_9, zj (min x2 r_22)] [] w ov w' c s
        refine Zr_st (q := (64, [zp a0, zj x1, zj x2, zj r_9, zj (min x2 r_22)], [zp a0])) rfl rfl rfl ?_
        show Zr sc 88 64 [zp a0, zj x1, zj x2, zj r_9, zj (min x2 r_22)] [zp a0] w ov w' c s
        refine rl_bi rfl (by decide) ?_
        show Zr sc 88 66 [zp a0, zj x1, zj x2, zj r_9, zj (min x2 r_22)] [zj 80, zp a0] w ov w' c s
        refine Zr_st (q := (67, [zp a0, zj x1, zj x2, zj r_9, zj (min x2 r_22)], [zj x2, zj 80, zp a0])) rfl rfl rfl ?_
        show Zr sc 88 67 [zp a0, zj x1, zj x2, zj r_9, zj (min x2 r_22)] [zj x2, zj 80, zp a0] w ov w' c s
        refine Zr_st (q := (68, [zp a0, zj x1, zj x2, zj r_9, zj (min x2 r_22)], [zj r_9, zj x2, zj 80, zp a0])) rfl rfl rfl ?_
        show Zr sc 88 68 [zp a0, zj x1, zj x2, zj r_9, zj (min x2 r_22)] [zj r_9, zj x2, zj 80, zp a0] w ov w' c s
        obtain ⟨r_26, w_24, hk_25, h⟩ := h
        refine rn_cal0 (ins := .invokevirtual 162) (rest := []) rfl rfl rfl rfl (zinv_v (fs := _) L0 rfl rfl rfl rfl) rfl rfl hk_25 ?_
        show Zr sc 88 71 [zp a0, zj x1, zj x2, zj r_9, zj (min x2 r_22)] [zj r_26] w_24 ov w' c s
        obtain ⟨hr_27, h⟩ := h
        refine Zr_b0 (p := r_26 = 0) rfl rfl (zcmp_0 (cnd := .eq) hr_27) (fun hp => ?_) (fun hp => ?_)
        · replace h := h.1 hp
          show Zr sc 88 96 [zp a0, zj x1, zj x2, zj r_9, zj (min x2 r_22)] [] w_24 ov w' c s
          obtain ⟨h1, h2, h3, h4⟩ := h
          subst h1; subst h2; subst h3; subst h4
          exact Zr_ret (ins := .return_) rfl rfl
        · replace h := h.2 hp
          show Zr sc 88 74 [zp a0, zj x1, zj x2, zj r_9, zj (min x2 r_22)] [] w_24 ov w' c s
          refine Zr_st (q := (75, [zp a0, zj x1, zj x2, zj r_9, zj (min x2 r_22)], [zp a0])) rfl rfl rfl ?_
          show Zr sc 88 75 [zp a0, zj x1, zj x2, zj r_9, zj (min x2 r_22)] [zp a0] w_24 ov w' c s
          refine Zr_st (q := (76, [zp a0, zj x1, zj x2, zj r_9, zj (min x2 r_22)], [zj x1, zp a0])) rfl rfl rfl ?_
          show Zr sc 88 76 [zp a0, zj x1, zj x2, zj r_9, zj (min x2 r_22)] [zj x1, zp a0] w_24 ov w' c s
          obtain ⟨fs_29, hl_28, h⟩ := h
          obtain ⟨w_30, hk_31, h⟩ := h
          refine rn_cal0 (ins := .invokevirtual 97) (rest := []) rfl rfl rfl rfl (zinv_v (fs := _) hl_28 rfl rfl rfl rfl) rfl rfl hk_31 ?_
          show Zr sc 88 79 [zp a0, zj x1, zj x2, zj r_9, zj (min x2 r_22)] [] w_30 ov w' c s
          refine Zr_st (q := (80, [zp a0, zj x1, zj x2, zj r_9, zj (min x2 r_22)], [zp a0])) rfl rfl rfl ?_
          show Zr sc 88 80 [zp a0, zj x1, zj x2, zj r_9, zj (min x2 r_22)] [zp a0] w_30 ov w' c s
          obtain ⟨wy_33, st_34, hd_35, hn_36, sn_37, nm_38, ar_39, pk_40, dn_41, hw_32, h⟩ := h
          refine rl_gf rfl hw_32 rfl rfl ?_
          show Zr sc 88 83 [zp a0, zj x1, zj x2, zj r_9, zj (min x2 r_22)] [zp (a0 + 1)] w_30 ov w' c s
          refine rl_bi rfl (by decide) ?_
          show Zr sc 88 85 [zp a0, zj x1, zj x2, zj r_9, zj (min x2 r_22)] [zj 80, zp (a0 + 1)] w_30 ov w' c s
          refine Zr_st (q := (86, [zp a0, zj x1, zj x2, zj r_9, zj (min x2 r_22)], [zj x1, zj 80, zp (a0 + 1)])) rfl rfl rfl ?_
          show Zr sc 88 86 [zp a0, zj x1, zj x2, zj r_9, zj (min x2 r_22)] [zj x1, zj 80, zp (a0 + 1)] w_30 ov w' c s
          obtain ⟨fs_43, hl_42, h⟩ := h
          obtain ⟨w_44, hk_45, h⟩ := h
          refine rn_cal0 (ins := .invokevirtual 192) (rest := []) rfl rfl rfl rfl (zinv_v (fs := _) hl_42 rfl rfl rfl rfl) rfl rfl hk_45 ?_
          show Zr sc 88 89 [zp a0, zj x1, zj x2, zj r_9, zj (min x2 r_22)] [] w_44 ov w' c s
          refine Zr_st (q := (90, [zp a0, zj x1, zj x2, zj r_9, zj (min x2 r_22)], [zp a0])) rfl rfl rfl ?_
          show Zr sc 88 90 [zp a0, zj x1, zj x2, zj r_9, zj (min x2 r_22)] [zp a0] w_44 ov w' c s
          refine rl_ic rfl ?_
          show Zr sc 88 91 [zp a0, zj x1, zj x2, zj r_9, zj (min x2 r_22)] [zj 3, zp a0] w_44 ov w' c s
          refine Zr_st (q := (93, [zp a0, zj x1, zj x2, zj r_9, zj (min x2 r_22)], [zj (min x2 r_22), zj 3, zp a0])) rfl rfl rfl ?_
          show Zr sc 88 93 [zp a0, zj x1, zj x2, zj r_9, zj (min x2 r_22)] [zj (min x2 r_22), zj 3, zp a0] w_44 ov w' c s
          obtain ⟨fs_47, hl_46, h⟩ := h
          obtain ⟨w_48, hk_49, h⟩ := h
          refine rn_cal0 (ins := .invokevirtual 169) (rest := []) rfl rfl rfl rfl (zinv_v (fs := _) hl_46 rfl rfl rfl rfl) rfl rfl hk_49 ?_
          show Zr sc 88 96 [zp a0, zj x1, zj x2, zj r_9, zj (min x2 r_22)] [] w_48 ov w' c s
          obtain ⟨h1, h2, h3, h4⟩ := h
          subst h1; subst h2; subst h3; subst h4
          exact Zr_ret (ins := .return_) rfl rfl
      · replace h := h.2 hp
        show Zr sc 88 39 [zp a0, zj x1, zj x2, zj r_9, zmk] [] w ov w' c s
        refine Zr_st (q := (40, [zp a0, zj x1, zj x2, zj r_9, zmk], [zp a0])) rfl rfl rfl ?_
        show Zr sc 88 40 [zp a0, zj x1, zj x2, zj r_9, zmk] [zp a0] w ov w' c s
        refine rl_gf rfl L0 rfl rfl ?_
        show Zr sc 88 43 [zp a0, zj x1, zj x2, zj r_9, zmk] [zp (a0 + 1)] w ov w' c s
        refine Zr_st (q := (44, [zp a0, zj x1, zj x2, zj r_9, zmk], [zj x1, zp (a0 + 1)])) rfl rfl rfl ?_
        show Zr sc 88 44 [zp a0, zj x1, zj x2, zj r_9, zmk] [zj x1, zp (a0 + 1)] w ov w' c s
        refine Zr_st (q := (45, [zp a0, zj x1, zj x2, zj r_9, zmk], [zj x2, zj x1, zp (a0 + 1)])) rfl rfl rfl ?_
        show Zr sc 88 45 [zp a0, zj x1, zj x2, zj r_9, zmk] [zj x2, zj x1, zp (a0 + 1)] w ov w' c s
        obtain ⟨w_50, hk_51, h⟩ := h
        refine rn_cal0 (ins := .invokevirtual 186) (rest := []) rfl rfl rfl rfl (zinv_v (fs := _) hl_1 rfl rfl rfl rfl) rfl rfl hk_51 ?_
        show Zr sc 88 48 [zp a0, zj x1, zj x2, zj r_9, zmk] [] w_50 ov w' c s
        obtain ⟨h1, h2, h3, h4⟩ := h
        subst h1; subst h2; subst h3; subst h4
        exact Zr_ret (ins := .return_) rfl rfl
  · replace h := h.2 hp
    show Zr sc 88 11 [zp a0, zj x1, zj x2, zmk, zmk] [] w ov w' c s
    obtain ⟨h1, h2, h3, h4⟩ := h
    subst h1; subst h2; subst h3; subst h4
    exact Zr_ret (ins := .return_) rfl rfl

-- HeapwrightLab$Memory.resettle(II)V
set_option maxRecDepth 100000 in
theorem V88_0_2 {sc : List Value} {w w' : List zE} {ov : Option Value} {c s : Nat} {a0 : Nat} {x1 : Int} {x2 : Int} {wy : Int} {st : Int} {hd : Int} {hn : Int} {sn : Int} {nm : Int} {ar : Int} {pk : Int} {dn : Int} (L0 : w[a0]? = some (zob 2 [zp (a0 + 1), zp (a0 + 6), zj wy, zj st, zj hd, zj hn, zj sn, zp (a0 + 9), zp (a0 + 10), zj nm, zj ar, zj pk, zj dn])) (h : (∃ fs_2 : List Value, w[(a0 + 1)]? = some (zob 0 fs_2) ∧ (∃ r_5 : Int, Zc sc 7 [zp (a0 + 1), zj x1] w (some (zj r_5)) w 0 0 ∧ ((zrg r_5) ∧ ((r_5 ≠ 0 → (∃ r_9 : Int, Zc sc 40 [zp a0, zj x2] w (some (zj r_9)) w 0 0 ∧ (∃ r_12 : Int, Zc sc 13 [zp (a0 + 1), zj x1] w (some (zj r_12)) w 0 0 ∧ ((zrg r_9 ∧ zrg r_12) ∧ ((r_9 = r_12 → (∃ w_14 : List zE, Zc sc 92 [zp (a0 + 1), zj x1, zj x2] w none w_14 0 0 ∧ (ov = none ∧ w' = w_14 ∧ c = 0 ∧ s = 0))) ∧ (¬ (r_9 = r_12) → (∃ r_18 : Int, ∃ w_16 : List zE, Zc sc 89 [zp a0, zj x1, zj r_9] w (some (zj r_18)) w_16 0 0 ∧ ((zrg r_18) ∧ ((r_18 = 0 → (∃ wy_21 : Int, ∃ st_22 : Int, ∃ hd_23 : Int, ∃ hn_24 : Int, ∃ sn_25 : Int, ∃ nm_26 : Int, ∃ ar_27 : Int, ∃ pk_28 : Int, ∃ dn_29 : Int, w_16[a0]? = some (zob 2 [zp (a0 + 1), zp (a0 + 6), zj wy_21, zj st_22, zj hd_23, zj hn_24, zj sn_25, zp (a0 + 9), zp (a0 + 10), zj nm_26, zj ar_27, zj pk_28, zj dn_29]) ∧ (∃ fs_31 : List Value, w_16[(a0 + 1)]? = some (zob 0 fs_31) ∧ (∃ r_34 : Int, Zc sc 11 [zp (a0 + 1), zj x1] w_16 (some (zj r_34)) w_16 0 0 ∧ ((zrg x2 ∧ zrg r_34) ∧ (∃ r_38 : Int, ∃ w_36 : List zE, Zc sc 63 [zp a0, zj 80, zj x2, zj r_9] w_16 (some (zj r_38)) w_36 0 0 ∧ ((zrg r_38) ∧ ((r_38 = 0 → (ov = none ∧ w' = w_36 ∧ c = 0 ∧ s = 0)) ∧ (¬ (r_38 = 0) → (∃ fs_41 : List Value, w_36[a0]? = some (zob 2 fs_41) ∧ (∃ w_42 : List zE, Zc sc 83 [zp a0, zj x1] w_36 none w_42 0 0 ∧ (∃ wy_45 : Int, ∃ st_46 : Int, ∃ hd_47 : Int, ∃ hn_48 : Int, ∃ sn_49 : Int, ∃ nm_50 : Int, ∃ ar_51 : Int, ∃ pk_52 : Int, ∃ dn_53 : Int, w_42[a0]? = some (zob 2 [zp (a0 + 1), zp (a0 + 6), zj wy_45, zj st_46, zj hd_47, zj hn_48, zj sn_49, zp (a0 + 9), zp (a0 + 10), zj nm_50, zj ar_51, zj pk_52, zj dn_53]) ∧ (∃ fs_55 : List Value, w_42[(a0 + 1)]? = some (zob 0 fs_55) ∧ (∃ w_56 : List zE, Zc sc 93 [zp (a0 + 1), zj 80, zj x1] w_42 none w_56 0 0 ∧ (∃ fs_59 : List Value, w_56[a0]? = some (zob 2 fs_59) ∧ (∃ w_60 : List zE, Zc sc 64 [zp a0, zj 3, zj (min x2 r_34)] w_56 none w_60 0 0 ∧ (ov = none ∧ w' = w_60 ∧ c = 0 ∧ s = 0))))))))))))))))) ∧ (¬ (r_18 = 0) → (∃ wy_63 : Int, ∃ st_64 : Int, ∃ hd_65 : Int, ∃ hn_66 : Int, ∃ sn_67 : Int, ∃ nm_68 : Int, ∃ ar_69 : Int, ∃ pk_70 : Int, ∃ dn_71 : Int, w_16[a0]? = some (zob 2 [zp (a0 + 1), zp (a0 + 6), zj wy_63, zj st_64, zj hd_65, zj hn_66, zj sn_67, zp (a0 + 9), zp (a0 + 10), zj nm_68, zj ar_69, zj pk_70, zj dn_71]) ∧ (∃ fs_73 : List Value, w_16[(a0 + 1)]? = some (zob 0 fs_73) ∧ (∃ w_74 : List zE, Zc sc 92 [zp (a0 + 1), zj x1, zj x2] w_16 none w_74 0 0 ∧ (ov = none ∧ w' = w_74 ∧ c = 0 ∧ s = 0)))))))))))))) ∧ (¬ (r_5 ≠ 0) → (ov = none ∧ w' = w ∧ c = 0 ∧ s = 0))))))) : Zr sc 88 0 [zp a0, zj x1, zj x2, zmk, zmk] [] w ov w' c s := by
  refine Zr_st (q := (1, [zp a0, zj x1, zj x2, zmk, zmk], [zp a0])) rfl rfl rfl ?_
  show Zr sc 88 1 [zp a0, zj x1, zj x2, zmk, zmk] [zp a0] w ov w' c s
  refine rl_gf rfl L0 rfl rfl ?_
  show Zr sc 88 4 [zp a0, zj x1, zj x2, zmk, zmk] [zp (a0 + 1)] w ov w' c s
  refine Zr_st (q := (5, [zp a0, zj x1, zj x2, zmk, zmk], [zj x1, zp (a0 + 1)])) rfl rfl rfl ?_
  show Zr sc 88 5 [zp a0, zj x1, zj x2, zmk, zmk] [zj x1, zp (a0 + 1)] w ov w' c s
  obtain ⟨fs_2, hl_1, h⟩ := h
  obtain ⟨r_5, hk_9, h⟩ := h
  refine rn_cal0 (ins := .invokevirtual 175) (rest := []) rfl rfl rfl rfl (zinv_v (fs := _) hl_1 rfl rfl rfl rfl) rfl rfl hk_9 ?_
  show Zr sc 88 8 [zp a0, zj x1, zj x2, zmk, zmk] [zj r_5] w ov w' c s
  obtain ⟨hr_6, h⟩ := h
  refine Zr_b0 (p := r_5 ≠ 0) rfl rfl (zcmp_0 (cnd := .ne) hr_6) (fun hp => ?_) (fun hp => ?_)
  · replace h := h.1 hp
    show Zr sc 88 12 [zp a0, zj x1, zj x2, zmk, zmk] [] w ov w' c s
    refine Zr_st (q := (13, [zp a0, zj x1, zj x2, zmk, zmk], [zp a0])) rfl rfl rfl ?_
    show Zr sc 88 13 [zp a0, zj x1, zj x2, zmk, zmk] [zp a0] w ov w' c s
    refine Zr_st (q := (14, [zp a0, zj x1, zj x2, zmk, zmk], [zj x2, zp a0])) rfl rfl rfl ?_
    show Zr sc 88 14 [zp a0, zj x1, zj x2, zmk, zmk] [zj x2, zp a0] w ov w' c s
    obtain ⟨r_9, hk_9, h⟩ := h
    refine rn_cal0 (ins := .invokevirtual 124) (rest := []) rfl rfl rfl rfl (zinv_v (fs := _) L0 rfl rfl rfl rfl) rfl rfl hk_9 ?_
    show Zr sc 88 17 [zp a0, zj x1, zj x2, zmk, zmk] [zj r_9] w ov w' c s
    refine Zr_st (q := (18, [zp a0, zj x1, zj x2, zj r_9, zmk], [])) rfl rfl rfl ?_
    show Zr sc 88 18 [zp a0, zj x1, zj x2, zj r_9, zmk] [] w ov w' c s
    refine Zr_st (q := (19, [zp a0, zj x1, zj x2, zj r_9, zmk], [zj r_9])) rfl rfl rfl ?_
    show Zr sc 88 19 [zp a0, zj x1, zj x2, zj r_9, zmk] [zj r_9] w ov w' c s
    refine Zr_st (q := (20, [zp a0, zj x1, zj x2, zj r_9, zmk], [zp a0, zj r_9])) rfl rfl rfl ?_
    show Zr sc 88 20 [zp a0, zj x1, zj x2, zj r_9, zmk] [zp a0, zj r_9] w ov w' c s
    refine rl_gf rfl L0 rfl rfl ?_
    show Zr sc 88 23 [zp a0, zj x1, zj x2, zj r_9, zmk] [zp (a0 + 1), zj r_9] w ov w' c s
    refine Zr_st (q := (24, [zp a0, zj x1, zj x2, zj r_9, zmk], [zj x1, zp (a0 + 1), zj r_9])) rfl rfl rfl ?_
    show Zr sc 88 24 [zp a0, zj x1, zj x2, zj r_9, zmk] [zj x1, zp (a0 + 1), zj r_9] w ov w' c s
    obtain ⟨r_12, hk_9, h⟩ := h
    refine rn_cal0 (ins := .invokevirtual 138) (rest := [zj r_9]) rfl rfl rfl rfl (zinv_v (fs := _) hl_1 rfl rfl rfl rfl) rfl rfl hk_9 ?_
    show Zr sc 88 27 [zp a0, zj x1, zj x2, zj r_9, zmk] [zj r_12, zj r_9] w ov w' c s
    obtain ⟨hr_13, h⟩ := h
    refine Zr_br (p := r_9 = r_12) rfl rfl (zcmp_j (cnd := .eq) hr_13.1 hr_13.2) (fun hp => ?_) (fun hp => ?_)
    · replace h := h.1 hp
      show Zr sc 88 39 [zp a0, zj x1, zj x2, zj r_9, zmk] [] w ov w' c s
      refine Zr_st (q := (40, [zp a0, zj x1, zj x2, zj r_9, zmk], [zp a0])) rfl rfl rfl ?_
      show Zr sc 88 40 [zp a0, zj x1, zj x2, zj r_9, zmk] [zp a0] w ov w' c s
      refine rl_gf rfl L0 rfl rfl ?_
      show Zr sc 88 43 [zp a0, zj x1, zj x2, zj r_9, zmk] [zp (a0 + 1)] w ov w' c s
      refine Zr_st (q := (44, [zp a0, zj x1, zj x2, zj r_9, zmk], [zj x1, zp (a0 + 1)])) rfl rfl rfl ?_
      show Zr sc 88 44 [zp a0, zj x1, zj x2, zj r_9, zmk] [zj x1, zp (a0 + 1)] w ov w' c s
      refine Zr_st (q := (45, [zp a0, zj x1, zj x2, zj r_9, zmk], [zj x2, zj x1, zp (a0 + 1)])) rfl rfl rfl ?_
      show Zr sc 88 45 [zp a0, zj x1, zj x2, zj r_9, zmk] [zj x2, zj x1, zp (a0 + 1)] w ov w' c s
      obtain ⟨w_14, hk_15, h⟩ := h
      refine rn_cal0 (ins := .invokevirtual 186) (rest := []) rfl rfl rfl rfl (zinv_v (fs := _) hl_1 rfl rfl rfl rfl) rfl rfl hk_15 ?_
      show Zr sc 88 48 [zp a0, zj x1, zj x2, zj r_9, zmk] [] w_14 ov w' c s
      obtain ⟨h1, h2, h3, h4⟩ := h
      subst h1; subst h2; subst h3; subst h4
      exact Zr_ret (ins := .return_) rfl rfl
    · replace h := h.2 hp
      show Zr sc 88 30 [zp a0, zj x1, zj x2, zj r_9, zmk] [] w ov w' c s
      refine Zr_st (q := (31, [zp a0, zj x1, zj x2, zj r_9, zmk], [zp a0])) rfl rfl rfl ?_
      show Zr sc 88 31 [zp a0, zj x1, zj x2, zj r_9, zmk] [zp a0] w ov w' c s
      refine Zr_st (q := (32, [zp a0, zj x1, zj x2, zj r_9, zmk], [zj x1, zp a0])) rfl rfl rfl ?_
      show Zr sc 88 32 [zp a0, zj x1, zj x2, zj r_9, zmk] [zj x1, zp a0] w ov w' c s
      refine Zr_st (q := (33, [zp a0, zj x1, zj x2, zj r_9, zmk], [zj r_9, zj x1, zp a0])) rfl rfl rfl ?_
      show Zr sc 88 33 [zp a0, zj x1, zj x2, zj r_9, zmk] [zj r_9, zj x1, zp a0] w ov w' c s
      obtain ⟨r_18, w_16, hk_17, h⟩ := h
      refine rn_cal0 (ins := .invokevirtual 182) (rest := []) rfl rfl rfl rfl (zinv_v (fs := _) L0 rfl rfl rfl rfl) rfl rfl hk_17 ?_
      show Zr sc 88 36 [zp a0, zj x1, zj x2, zj r_9, zmk] [zj r_18] w_16 ov w' c s
      obtain ⟨hr_19, h⟩ := h
      refine Zr_b0 (p := r_18 = 0) rfl rfl (zcmp_0 (cnd := .eq) hr_19) (fun hp => ?_) (fun hp => ?_)
      · replace h := h.1 hp
        show Zr sc 88 49 [zp a0, zj x1, zj x2, zj r_9, zmk] [] w_16 ov w' c s
        refine Zr_st (q := (50, [zp a0, zj x1, zj x2, zj r_9, zmk], [zj x2])) rfl rfl rfl ?_
        show Zr sc 88 50 [zp a0, zj x1, zj x2, zj r_9, zmk] [zj x2] w_16 ov w' c s
        refine Zr_st (q := (51, [zp a0, zj x1, zj x2, zj r_9, zmk], [zp a0, zj x2])) rfl rfl rfl ?_
        show Zr sc 88 51 [zp a0, zj x1, zj x2, zj r_9, zmk] [zp a0, zj x2] w_16 ov w' c s
        obtain ⟨wy_21, st_22, hd_23, hn_24, sn_25, nm_26, ar_27, pk_28, dn_29, hw_20, h⟩ := h
        refine rl_gf rfl hw_20 rfl rfl ?_
        show Zr sc 88 54 [zp a0, zj x1, zj x2, zj r_9, zmk] [zp (a0 + 1), zj x2] w_16 ov w' c s
        refine Zr_st (q := (55, [zp a0, zj x1, zj x2, zj r_9, zmk], [zj x1, zp (a0 + 1), zj x2])) rfl rfl rfl ?_
        show Zr sc 88 55 [zp a0, zj x1, zj x2, zj r_9, zmk] [zj x1, zp (a0 + 1), zj x2] w_16 ov w' c s
        obtain ⟨fs_31, hl_30, h⟩ := h
        obtain ⟨r_34, hk_9, h⟩ := h
        refine rn_cal0 (ins := .invokevirtual 137) (rest := [zj x2]) rfl rfl rfl rfl (zinv_v (fs := _) hl_30 rfl rfl rfl rfl) rfl rfl hk_9 ?_
        show Zr sc 88 58 [zp a0, zj x1, zj x2, zj r_9, zmk] [zj r_34, zj x2] w_16 ov w' c s
        obtain ⟨hm_35, h⟩ := h
        refine Zr_mx (b := false) (ins := .invokestatic 189) (rest := []) rfl rfl rfl rfl (zinv_t2 (rest := []) rfl rfl rfl rfl rfl) rfl (zmx_j hm_35.1 hm_35.2) ?_
        show Zr sc 88 61 [zp a0, zj x1, zj x2, zj r_9, zmk] [zj (min x2 r_34)] w_16 ov w' c s
        refine Zr_st (q := (63, [zp a0, zj x1, zj x2, zj r_9, zj (min x2 r_34)], [])) rfl rfl rfl ?_
        show Zr sc 88 63 [zp a0, zj x1, zj x2, zj r_9, zj (min x2 r_34)] [] w_16 ov w' c s
        refine Zr_st (q := (64, [zp a0, zj x1, zj x2, zj r_9, zj (min x2 r_34)], [zp a0])) rfl rfl rfl ?_
        show Zr sc 88 64 [zp a0, zj x1, zj x2, zj r_9, zj (min x2 r_34)] [zp a0] w_16 ov w' c s
        refine rl_bi rfl (by decide) ?_
        show Zr sc 88 66 [zp a0, zj x1, zj x2, zj r_9, zj (min x2 r_34)] [zj 80, zp a0] w_16 ov w' c s
        refine Zr_st (q := (67, [zp a0, zj x1, zj x2, zj r_9, zj (min x2 r_34)], [zj x2, zj 80, zp a0])) rfl rfl rfl ?_
        show Zr sc 88 67 [zp a0, zj x1, zj x2, zj r_9, zj (min x2 r_34)] [zj x2, zj 80, zp a0] w_16 ov w' c s
        refine Zr_st (q := (68, [zp a0, zj x1, zj x2, zj r_9, zj (min x2 r_34)], [zj r_9, zj x2, zj 80, zp a0])) rfl rfl rfl ?_
        show Zr sc 88 68 [zp a0, zj x1, zj x2, zj r_9, zj (min x2 r_34)] [zj r_9, zj x2, zj 80, zp a0] w_16 ov w' c s
        obtain ⟨r_38, w_36, hk_37, h⟩ := h
        refine rn_cal0 (ins := .invokevirtual 162) (rest := []) rfl rfl rfl rfl (zinv_v (fs := _) hw_20 rfl rfl rfl rfl) rfl rfl hk_37 ?_
        show Zr sc 88 71 [zp a0, zj x1, zj x2, zj r_9, zj (min x2 r_34)] [zj r_38] w_36 ov w' c s
        obtain ⟨hr_39, h⟩ := h
        refine Zr_b0 (p := r_38 = 0) rfl rfl (zcmp_0 (cnd := .eq) hr_39) (fun hp => ?_) (fun hp => ?_)
        · replace h := h.1 hp
          show Zr sc 88 96 [zp a0, zj x1, zj x2, zj r_9, zj (min x2 r_34)] [] w_36 ov w' c s
          obtain ⟨h1, h2, h3, h4⟩ := h
          subst h1; subst h2; subst h3; subst h4
          exact Zr_ret (ins := .return_) rfl rfl
        · replace h := h.2 hp
          show Zr sc 88 74 [zp a0, zj x1, zj x2, zj r_9, zj (min x2 r_34)] [] w_36 ov w' c s
          refine Zr_st (q := (75, [zp a0, zj x1, zj x2, zj r_9, zj (min x2 r_34)], [zp a0])) rfl rfl rfl ?_
          show Zr sc 88 75 [zp a0, zj x1, zj x2, zj r_9, zj (min x2 r_34)] [zp a0] w_36 ov w' c s
          refine Zr_st (q := (76, [zp a0, zj x1, zj x2, zj r_9, zj (min x2 r_34)], [zj x1, zp a0])) rfl rfl rfl ?_
          show Zr sc 88 76 [zp a0, zj x1, zj x2, zj r_9, zj (min x2 r_34)] [zj x1, zp a0] w_36 ov w' c s
          obtain ⟨fs_41, hl_40, h⟩ := h
          obtain ⟨w_42, hk_43, h⟩ := h
          refine rn_cal0 (ins := .invokevirtual 97) (rest := []) rfl rfl rfl rfl (zinv_v (fs := _) hl_40 rfl rfl rfl rfl) rfl rfl hk_43 ?_
          show Zr sc 88 79 [zp a0, zj x1, zj x2, zj r_9, zj (min x2 r_34)] [] w_42 ov w' c s
          refine Zr_st (q := (80, [zp a0, zj x1, zj x2, zj r_9, zj (min x2 r_34)], [zp a0])) rfl rfl rfl ?_
          show Zr sc 88 80 [zp a0, zj x1, zj x2, zj r_9, zj (min x2 r_34)] [zp a0] w_42 ov w' c s
          obtain ⟨wy_45, st_46, hd_47, hn_48, sn_49, nm_50, ar_51, pk_52, dn_53, hw_44, h⟩ := h
          refine rl_gf rfl hw_44 rfl rfl ?_
          show Zr sc 88 83 [zp a0, zj x1, zj x2, zj r_9, zj (min x2 r_34)] [zp (a0 + 1)] w_42 ov w' c s
          refine rl_bi rfl (by decide) ?_
          show Zr sc 88 85 [zp a0, zj x1, zj x2, zj r_9, zj (min x2 r_34)] [zj 80, zp (a0 + 1)] w_42 ov w' c s
          refine Zr_st (q := (86, [zp a0, zj x1, zj x2, zj r_9, zj (min x2 r_34)], [zj x1, zj 80, zp (a0 + 1)])) rfl rfl rfl ?_
          show Zr sc 88 86 [zp a0, zj x1, zj x2, zj r_9, zj (min x2 r_34)] [zj x1, zj 80, zp (a0 + 1)] w_42 ov w' c s
          obtain ⟨fs_55, hl_54, h⟩ := h
          obtain ⟨w_56, hk_57, h⟩ := h
          refine rn_cal0 (ins := .invokevirtual 192) (rest := []) rfl rfl rfl rfl (zinv_v (fs := _) hl_54 rfl rfl rfl rfl) rfl rfl hk_57 ?_
          show Zr sc 88 89 [zp a0, zj x1, zj x2, zj r_9, zj (min x2 r_34)] [] w_56 ov w' c s
          refine Zr_st (q := (90, [zp a0, zj x1, zj x2, zj r_9, zj (min x2 r_34)], [zp a0])) rfl rfl rfl ?_
          show Zr sc 88 90 [zp a0, zj x1, zj x2, zj r_9, zj (min x2 r_34)] [zp a0] w_56 ov w' c s
          refine rl_ic rfl ?_
          show Zr sc 88 91 [zp a0, zj x1, zj x2, zj r_9, zj (min x2 r_34)] [zj 3, zp a0] w_56 ov w' c s
          refine Zr_st (q := (93, [zp a0, zj x1, zj x2, zj r_9, zj (min x2 r_34)], [zj (min x2 r_34), zj 3, zp a0])) rfl rfl rfl ?_
          show Zr sc 88 93 [zp a0, zj x1, zj x2, zj r_9, zj (min x2 r_34)] [zj (min x2 r_34), zj 3, zp a0] w_56 ov w' c s
          obtain ⟨fs_59, hl_58, h⟩ := h
          obtain ⟨w_60, hk_61, h⟩ := h
          refine rn_cal0 (ins := .invokevirtual 169) (rest := []) rfl rfl rfl rfl (zinv_v (fs := _) hl_58 rfl rfl rfl rfl) rfl rfl hk_61 ?_
          show Zr sc 88 96 [zp a0, zj x1, zj x2, zj r_9, zj (min x2 r_34)] [] w_60 ov w' c s
          obtain ⟨h1, h2, h3, h4⟩ := h
          subst h1; subst h2; subst h3; subst h4
          exact Zr_ret (ins := .return_) rfl rfl
      · replace h := h.2 hp
        show Zr sc 88 39 [zp a0, zj x1, zj x2, zj r_9, zmk] [] w_16 ov w' c s
        refine Zr_st (q := (40, [zp a0, zj x1, zj x2, zj r_9, zmk], [zp a0])) rfl rfl rfl ?_
        show Zr sc 88 40 [zp a0, zj x1, zj x2, zj r_9, zmk] [zp a0] w_16 ov w' c s
        obtain ⟨wy_63, st_64, hd_65, hn_66, sn_67, nm_68, ar_69, pk_70, dn_71, hw_62, h⟩ := h
        refine rl_gf rfl hw_62 rfl rfl ?_
        show Zr sc 88 43 [zp a0, zj x1, zj x2, zj r_9, zmk] [zp (a0 + 1)] w_16 ov w' c s
        refine Zr_st (q := (44, [zp a0, zj x1, zj x2, zj r_9, zmk], [zj x1, zp (a0 + 1)])) rfl rfl rfl ?_
        show Zr sc 88 44 [zp a0, zj x1, zj x2, zj r_9, zmk] [zj x1, zp (a0 + 1)] w_16 ov w' c s
        refine Zr_st (q := (45, [zp a0, zj x1, zj x2, zj r_9, zmk], [zj x2, zj x1, zp (a0 + 1)])) rfl rfl rfl ?_
        show Zr sc 88 45 [zp a0, zj x1, zj x2, zj r_9, zmk] [zj x2, zj x1, zp (a0 + 1)] w_16 ov w' c s
        obtain ⟨fs_73, hl_72, h⟩ := h
        obtain ⟨w_74, hk_75, h⟩ := h
        refine rn_cal0 (ins := .invokevirtual 186) (rest := []) rfl rfl rfl rfl (zinv_v (fs := _) hl_72 rfl rfl rfl rfl) rfl rfl hk_75 ?_
        show Zr sc 88 48 [zp a0, zj x1, zj x2, zj r_9, zmk] [] w_74 ov w' c s
        obtain ⟨h1, h2, h3, h4⟩ := h
        subst h1; subst h2; subst h3; subst h4
        exact Zr_ret (ins := .return_) rfl rfl
  · replace h := h.2 hp
    show Zr sc 88 11 [zp a0, zj x1, zj x2, zmk, zmk] [] w ov w' c s
    obtain ⟨h1, h2, h3, h4⟩ := h
    subst h1; subst h2; subst h3; subst h4
    exact Zr_ret (ins := .return_) rfl rfl

-- HeapwrightLab$Memory.resettle(II)V
set_option maxRecDepth 100000 in
theorem V88_0_4 {sc : List Value} {w w' : List zE} {ov : Option Value} {c s : Nat} {a0 : Nat} {x1 : Int} {x2 : Int} {wy : Int} {st : Int} {hd : Int} {hn : Int} {sn : Int} {nm : Int} {ar : Int} {pk : Int} {dn : Int} (L0 : w[a0]? = some (zob 4 [zp (a0 + 1), zp (a0 + 6), zj wy, zj st, zj hd, zj hn, zj sn, zp (a0 + 9), zp (a0 + 10), zj nm, zj ar, zj pk, zj dn, zp (a0 + 11)])) (h : (∃ fs_2 : List Value, w[(a0 + 1)]? = some (zob 0 fs_2) ∧ (∃ r_5 : Int, Zc sc 7 [zp (a0 + 1), zj x1] w (some (zj r_5)) w 0 0 ∧ ((zrg r_5) ∧ ((r_5 ≠ 0 → (∃ r_9 : Int, Zc sc 42 [zp a0, zj x2] w (some (zj r_9)) w 0 0 ∧ (∃ r_12 : Int, Zc sc 13 [zp (a0 + 1), zj x1] w (some (zj r_12)) w 0 0 ∧ ((zrg r_9 ∧ zrg r_12) ∧ ((r_9 = r_12 → (∃ w_14 : List zE, Zc sc 92 [zp (a0 + 1), zj x1, zj x2] w none w_14 0 0 ∧ (ov = none ∧ w' = w_14 ∧ c = 0 ∧ s = 0))) ∧ (¬ (r_9 = r_12) → (∃ r_18 : Int, Zc sc 91 [zp a0, zj x1, zj r_9] w (some (zj r_18)) w 0 0 ∧ ((zrg r_18) ∧ ((r_18 = 0 → (∃ r_22 : Int, Zc sc 11 [zp (a0 + 1), zj x1] w (some (zj r_22)) w 0 0 ∧ ((zrg x2 ∧ zrg r_22) ∧ (∃ r_26 : Int, ∃ w_24 : List zE, Zc sc 63 [zp a0, zj 80, zj x2, zj r_9] w (some (zj r_26)) w_24 0 0 ∧ ((zrg r_26) ∧ ((r_26 = 0 → (ov = none ∧ w' = w_24 ∧ c = 0 ∧ s = 0)) ∧ (¬ (r_26 = 0) → (∃ fs_29 : List Value, w_24[a0]? = some (zob 4 fs_29) ∧ (∃ w_30 : List zE, Zc sc 83 [zp a0, zj x1] w_24 none w_30 0 0 ∧ (∃ wy_33 : Int, ∃ st_34 : Int, ∃ hd_35 : Int, ∃ hn_36 : Int, ∃ sn_37 : Int, ∃ nm_38 : Int, ∃ ar_39 : Int, ∃ pk_40 : Int, ∃ dn_41 : Int, w_30[a0]? = some (zob 4 [zp (a0 + 1), zp (a0 + 6), zj wy_33, zj st_34, zj hd_35, zj hn_36, zj sn_37, zp (a0 + 9), zp (a0 + 10), zj nm_38, zj ar_39, zj pk_40, zj dn_41, zp (a0 + 11)]) ∧ (∃ fs_43 : List Value, w_30[(a0 + 1)]? = some (zob 0 fs_43) ∧ (∃ w_44 : List zE, Zc sc 93 [zp (a0 + 1), zj 80, zj x1] w_30 none w_44 0 0 ∧ (∃ fs_47 : List Value, w_44[a0]? = some (zob 4 fs_47) ∧ (∃ w_48 : List zE, Zc sc 64 [zp a0, zj 3, zj (min x2 r_22)] w_44 none w_48 0 0 ∧ (ov = none ∧ w' = w_48 ∧ c = 0 ∧ s = 0))))))))))))))) ∧ (¬ (r_18 = 0) → (∃ w_50 : List zE, Zc sc 92 [zp (a0 + 1), zj x1, zj x2] w none w_50 0 0 ∧ (ov = none ∧ w' = w_50 ∧ c = 0 ∧ s = 0)))))))))))) ∧ (¬ (r_5 ≠ 0) → (ov = none ∧ w' = w ∧ c = 0 ∧ s = 0))))))) : Zr sc 88 0 [zp a0, zj x1, zj x2, zmk, zmk] [] w ov w' c s := by
  refine Zr_st (q := (1, [zp a0, zj x1, zj x2, zmk, zmk], [zp a0])) rfl rfl rfl ?_
  show Zr sc 88 1 [zp a0, zj x1, zj x2, zmk, zmk] [zp a0] w ov w' c s
  refine rl_gf rfl L0 rfl rfl ?_
  show Zr sc 88 4 [zp a0, zj x1, zj x2, zmk, zmk] [zp (a0 + 1)] w ov w' c s
  refine Zr_st (q := (5, [zp a0, zj x1, zj x2, zmk, zmk], [zj x1, zp (a0 + 1)])) rfl rfl rfl ?_
  show Zr sc 88 5 [zp a0, zj x1, zj x2, zmk, zmk] [zj x1, zp (a0 + 1)] w ov w' c s
  obtain ⟨fs_2, hl_1, h⟩ := h
  obtain ⟨r_5, hk_9, h⟩ := h
  refine rn_cal0 (ins := .invokevirtual 175) (rest := []) rfl rfl rfl rfl (zinv_v (fs := _) hl_1 rfl rfl rfl rfl) rfl rfl hk_9 ?_
  show Zr sc 88 8 [zp a0, zj x1, zj x2, zmk, zmk] [zj r_5] w ov w' c s
  obtain ⟨hr_6, h⟩ := h
  refine Zr_b0 (p := r_5 ≠ 0) rfl rfl (zcmp_0 (cnd := .ne) hr_6) (fun hp => ?_) (fun hp => ?_)
  · replace h := h.1 hp
    show Zr sc 88 12 [zp a0, zj x1, zj x2, zmk, zmk] [] w ov w' c s
    refine Zr_st (q := (13, [zp a0, zj x1, zj x2, zmk, zmk], [zp a0])) rfl rfl rfl ?_
    show Zr sc 88 13 [zp a0, zj x1, zj x2, zmk, zmk] [zp a0] w ov w' c s
    refine Zr_st (q := (14, [zp a0, zj x1, zj x2, zmk, zmk], [zj x2, zp a0])) rfl rfl rfl ?_
    show Zr sc 88 14 [zp a0, zj x1, zj x2, zmk, zmk] [zj x2, zp a0] w ov w' c s
    obtain ⟨r_9, hk_9, h⟩ := h
    refine rn_cal0 (ins := .invokevirtual 124) (rest := []) rfl rfl rfl rfl (zinv_v (fs := _) L0 rfl rfl rfl rfl) rfl rfl hk_9 ?_
    show Zr sc 88 17 [zp a0, zj x1, zj x2, zmk, zmk] [zj r_9] w ov w' c s
    refine Zr_st (q := (18, [zp a0, zj x1, zj x2, zj r_9, zmk], [])) rfl rfl rfl ?_
    show Zr sc 88 18 [zp a0, zj x1, zj x2, zj r_9, zmk] [] w ov w' c s
    refine Zr_st (q := (19, [zp a0, zj x1, zj x2, zj r_9, zmk], [zj r_9])) rfl rfl rfl ?_
    show Zr sc 88 19 [zp a0, zj x1, zj x2, zj r_9, zmk] [zj r_9] w ov w' c s
    refine Zr_st (q := (20, [zp a0, zj x1, zj x2, zj r_9, zmk], [zp a0, zj r_9])) rfl rfl rfl ?_
    show Zr sc 88 20 [zp a0, zj x1, zj x2, zj r_9, zmk] [zp a0, zj r_9] w ov w' c s
    refine rl_gf rfl L0 rfl rfl ?_
    show Zr sc 88 23 [zp a0, zj x1, zj x2, zj r_9, zmk] [zp (a0 + 1), zj r_9] w ov w' c s
    refine Zr_st (q := (24, [zp a0, zj x1, zj x2, zj r_9, zmk], [zj x1, zp (a0 + 1), zj r_9])) rfl rfl rfl ?_
    show Zr sc 88 24 [zp a0, zj x1, zj x2, zj r_9, zmk] [zj x1, zp (a0 + 1), zj r_9] w ov w' c s
    obtain ⟨r_12, hk_9, h⟩ := h
    refine rn_cal0 (ins := .invokevirtual 138) (rest := [zj r_9]) rfl rfl rfl rfl (zinv_v (fs := _) hl_1 rfl rfl rfl rfl) rfl rfl hk_9 ?_
    show Zr sc 88 27 [zp a0, zj x1, zj x2, zj r_9, zmk] [zj r_12, zj r_9] w ov w' c s
    obtain ⟨hr_13, h⟩ := h
    refine Zr_br (p := r_9 = r_12) rfl rfl (zcmp_j (cnd := .eq) hr_13.1 hr_13.2) (fun hp => ?_) (fun hp => ?_)
    · replace h := h.1 hp
      show Zr sc 88 39 [zp a0, zj x1, zj x2, zj r_9, zmk] [] w ov w' c s
      refine Zr_st (q := (40, [zp a0, zj x1, zj x2, zj r_9, zmk], [zp a0])) rfl rfl rfl ?_
      show Zr sc 88 40 [zp a0, zj x1, zj x2, zj r_9, zmk] [zp a0] w ov w' c s
      refine rl_gf rfl L0 rfl rfl ?_
      show Zr sc 88 43 [zp a0, zj x1, zj x2, zj r_9, zmk] [zp (a0 + 1)] w ov w' c s
      refine Zr_st (q := (44, [zp a0, zj x1, zj x2, zj r_9, zmk], [zj x1, zp (a0 + 1)])) rfl rfl rfl ?_
      show Zr sc 88 44 [zp a0, zj x1, zj x2, zj r_9, zmk] [zj x1, zp (a0 + 1)] w ov w' c s
      refine Zr_st (q := (45, [zp a0, zj x1, zj x2, zj r_9, zmk], [zj x2, zj x1, zp (a0 + 1)])) rfl rfl rfl ?_
      show Zr sc 88 45 [zp a0, zj x1, zj x2, zj r_9, zmk] [zj x2, zj x1, zp (a0 + 1)] w ov w' c s
      obtain ⟨w_14, hk_15, h⟩ := h
      refine rn_cal0 (ins := .invokevirtual 186) (rest := []) rfl rfl rfl rfl (zinv_v (fs := _) hl_1 rfl rfl rfl rfl) rfl rfl hk_15 ?_
      show Zr sc 88 48 [zp a0, zj x1, zj x2, zj r_9, zmk] [] w_14 ov w' c s
      obtain ⟨h1, h2, h3, h4⟩ := h
      subst h1; subst h2; subst h3; subst h4
      exact Zr_ret (ins := .return_) rfl rfl
    · replace h := h.2 hp
      show Zr sc 88 30 [zp a0, zj x1, zj x2, zj r_9, zmk] [] w ov w' c s
      refine Zr_st (q := (31, [zp a0, zj x1, zj x2, zj r_9, zmk], [zp a0])) rfl rfl rfl ?_
      show Zr sc 88 31 [zp a0, zj x1, zj x2, zj r_9, zmk] [zp a0] w ov w' c s
      refine Zr_st (q := (32, [zp a0, zj x1, zj x2, zj r_9, zmk], [zj x1, zp a0])) rfl rfl rfl ?_
      show Zr sc 88 32 [zp a0, zj x1, zj x2, zj r_9, zmk] [zj x1, zp a0] w ov w' c s
      refine Zr_st (q := (33, [zp a0, zj x1, zj x2, zj r_9, zmk], [zj r_9, zj x1, zp a0])) rfl rfl rfl ?_
      show Zr sc 88 33 [zp a0, zj x1, zj x2, zj r_9, zmk] [zj r_9, zj x1, zp a0] w ov w' c s
      obtain ⟨r_18, hk_9, h⟩ := h
      refine rn_cal0 (ins := .invokevirtual 182) (rest := []) rfl rfl rfl rfl (zinv_v (fs := _) L0 rfl rfl rfl rfl) rfl rfl hk_9 ?_
      show Zr sc 88 36 [zp a0, zj x1, zj x2, zj r_9, zmk] [zj r_18] w ov w' c s
      obtain ⟨hr_19, h⟩ := h
      refine Zr_b0 (p := r_18 = 0) rfl rfl (zcmp_0 (cnd := .eq) hr_19) (fun hp => ?_) (fun hp => ?_)
      · replace h := h.1 hp
        show Zr sc 88 49 [zp a0, zj x1, zj x2, zj r_9, zmk] [] w ov w' c s
        refine Zr_st (q := (50, [zp a0, zj x1, zj x2, zj r_9, zmk], [zj x2])) rfl rfl rfl ?_
        show Zr sc 88 50 [zp a0, zj x1, zj x2, zj r_9, zmk] [zj x2] w ov w' c s
        refine Zr_st (q := (51, [zp a0, zj x1, zj x2, zj r_9, zmk], [zp a0, zj x2])) rfl rfl rfl ?_
        show Zr sc 88 51 [zp a0, zj x1, zj x2, zj r_9, zmk] [zp a0, zj x2] w ov w' c s
        refine rl_gf rfl L0 rfl rfl ?_
        show Zr sc 88 54 [zp a0, zj x1, zj x2, zj r_9, zmk] [zp (a0 + 1), zj x2] w ov w' c s
        refine Zr_st (q := (55, [zp a0, zj x1, zj x2, zj r_9, zmk], [zj x1, zp (a0 + 1), zj x2])) rfl rfl rfl ?_
        show Zr sc 88 55 [zp a0, zj x1, zj x2, zj r_9, zmk] [zj x1, zp (a0 + 1), zj x2] w ov w' c s
        obtain ⟨r_22, hk_9, h⟩ := h
        refine rn_cal0 (ins := .invokevirtual 137) (rest := [zj x2]) rfl rfl rfl rfl (zinv_v (fs := _) hl_1 rfl rfl rfl rfl) rfl rfl hk_9 ?_
        show Zr sc 88 58 [zp a0, zj x1, zj x2, zj r_9, zmk] [zj r_22, zj x2] w ov w' c s
        obtain ⟨hm_23, h⟩ := h
        refine Zr_mx (b := false) (ins := .invokestatic 189) (rest := []) rfl rfl rfl rfl (zinv_t2 (rest := []) rfl rfl rfl rfl rfl) rfl (zmx_j hm_23.1 hm_23.2) ?_
        show Zr sc 88 61 [zp a0, zj x1, zj x2, zj r_9, zmk] [zj (min x2 r_22)] w ov w' c s
        refine Zr_st (q := (63, [zp a0, zj x1, zj x2, zj r_9, zj (min x2 r_22)], [])) rfl rfl rfl ?_
        show Zr sc 88 63 [zp a0, zj x1, zj x2, zj r_9, zj (min x2 r_22)] [] w ov w' c s
        refine Zr_st (q := (64, [zp a0, zj x1, zj x2, zj r_9, zj (min x2 r_22)], [zp a0])) rfl rfl rfl ?_
        show Zr sc 88 64 [zp a0, zj x1, zj x2, zj r_9, zj (min x2 r_22)] [zp a0] w ov w' c s
        refine rl_bi rfl (by decide) ?_
        show Zr sc 88 66 [zp a0, zj x1, zj x2, zj r_9, zj (min x2 r_22)] [zj 80, zp a0] w ov w' c s
        refine Zr_st (q := (67, [zp a0, zj x1, zj x2, zj r_9, zj (min x2 r_22)], [zj x2, zj 80, zp a0])) rfl rfl rfl ?_
        show Zr sc 88 67 [zp a0, zj x1, zj x2, zj r_9, zj (min x2 r_22)] [zj x2, zj 80, zp a0] w ov w' c s
        refine Zr_st (q := (68, [zp a0, zj x1, zj x2, zj r_9, zj (min x2 r_22)], [zj r_9, zj x2, zj 80, zp a0])) rfl rfl rfl ?_
        show Zr sc 88 68 [zp a0, zj x1, zj x2, zj r_9, zj (min x2 r_22)] [zj r_9, zj x2, zj 80, zp a0] w ov w' c s
        obtain ⟨r_26, w_24, hk_25, h⟩ := h
        refine rn_cal0 (ins := .invokevirtual 162) (rest := []) rfl rfl rfl rfl (zinv_v (fs := _) L0 rfl rfl rfl rfl) rfl rfl hk_25 ?_
        show Zr sc 88 71 [zp a0, zj x1, zj x2, zj r_9, zj (min x2 r_22)] [zj r_26] w_24 ov w' c s
        obtain ⟨hr_27, h⟩ := h
        refine Zr_b0 (p := r_26 = 0) rfl rfl (zcmp_0 (cnd := .eq) hr_27) (fun hp => ?_) (fun hp => ?_)
        · replace h := h.1 hp
          show Zr sc 88 96 [zp a0, zj x1, zj x2, zj r_9, zj (min x2 r_22)] [] w_24 ov w' c s
          obtain ⟨h1, h2, h3, h4⟩ := h
          subst h1; subst h2; subst h3; subst h4
          exact Zr_ret (ins := .return_) rfl rfl
        · replace h := h.2 hp
          show Zr sc 88 74 [zp a0, zj x1, zj x2, zj r_9, zj (min x2 r_22)] [] w_24 ov w' c s
          refine Zr_st (q := (75, [zp a0, zj x1, zj x2, zj r_9, zj (min x2 r_22)], [zp a0])) rfl rfl rfl ?_
          show Zr sc 88 75 [zp a0, zj x1, zj x2, zj r_9, zj (min x2 r_22)] [zp a0] w_24 ov w' c s
          refine Zr_st (q := (76, [zp a0, zj x1, zj x2, zj r_9, zj (min x2 r_22)], [zj x1, zp a0])) rfl rfl rfl ?_
          show Zr sc 88 76 [zp a0, zj x1, zj x2, zj r_9, zj (min x2 r_22)] [zj x1, zp a0] w_24 ov w' c s
          obtain ⟨fs_29, hl_28, h⟩ := h
          obtain ⟨w_30, hk_31, h⟩ := h
          refine rn_cal0 (ins := .invokevirtual 97) (rest := []) rfl rfl rfl rfl (zinv_v (fs := _) hl_28 rfl rfl rfl rfl) rfl rfl hk_31 ?_
          show Zr sc 88 79 [zp a0, zj x1, zj x2, zj r_9, zj (min x2 r_22)] [] w_30 ov w' c s
          refine Zr_st (q := (80, [zp a0, zj x1, zj x2, zj r_9, zj (min x2 r_22)], [zp a0])) rfl rfl rfl ?_
          show Zr sc 88 80 [zp a0, zj x1, zj x2, zj r_9, zj (min x2 r_22)] [zp a0] w_30 ov w' c s
          obtain ⟨wy_33, st_34, hd_35, hn_36, sn_37, nm_38, ar_39, pk_40, dn_41, hw_32, h⟩ := h
          refine rl_gf rfl hw_32 rfl rfl ?_
          show Zr sc 88 83 [zp a0, zj x1, zj x2, zj r_9, zj (min x2 r_22)] [zp (a0 + 1)] w_30 ov w' c s
          refine rl_bi rfl (by decide) ?_
          show Zr sc 88 85 [zp a0, zj x1, zj x2, zj r_9, zj (min x2 r_22)] [zj 80, zp (a0 + 1)] w_30 ov w' c s
          refine Zr_st (q := (86, [zp a0, zj x1, zj x2, zj r_9, zj (min x2 r_22)], [zj x1, zj 80, zp (a0 + 1)])) rfl rfl rfl ?_
          show Zr sc 88 86 [zp a0, zj x1, zj x2, zj r_9, zj (min x2 r_22)] [zj x1, zj 80, zp (a0 + 1)] w_30 ov w' c s
          obtain ⟨fs_43, hl_42, h⟩ := h
          obtain ⟨w_44, hk_45, h⟩ := h
          refine rn_cal0 (ins := .invokevirtual 192) (rest := []) rfl rfl rfl rfl (zinv_v (fs := _) hl_42 rfl rfl rfl rfl) rfl rfl hk_45 ?_
          show Zr sc 88 89 [zp a0, zj x1, zj x2, zj r_9, zj (min x2 r_22)] [] w_44 ov w' c s
          refine Zr_st (q := (90, [zp a0, zj x1, zj x2, zj r_9, zj (min x2 r_22)], [zp a0])) rfl rfl rfl ?_
          show Zr sc 88 90 [zp a0, zj x1, zj x2, zj r_9, zj (min x2 r_22)] [zp a0] w_44 ov w' c s
          refine rl_ic rfl ?_
          show Zr sc 88 91 [zp a0, zj x1, zj x2, zj r_9, zj (min x2 r_22)] [zj 3, zp a0] w_44 ov w' c s
          refine Zr_st (q := (93, [zp a0, zj x1, zj x2, zj r_9, zj (min x2 r_22)], [zj (min x2 r_22), zj 3, zp a0])) rfl rfl rfl ?_
          show Zr sc 88 93 [zp a0, zj x1, zj x2, zj r_9, zj (min x2 r_22)] [zj (min x2 r_22), zj 3, zp a0] w_44 ov w' c s
          obtain ⟨fs_47, hl_46, h⟩ := h
          obtain ⟨w_48, hk_49, h⟩ := h
          refine rn_cal0 (ins := .invokevirtual 169) (rest := []) rfl rfl rfl rfl (zinv_v (fs := _) hl_46 rfl rfl rfl rfl) rfl rfl hk_49 ?_
          show Zr sc 88 96 [zp a0, zj x1, zj x2, zj r_9, zj (min x2 r_22)] [] w_48 ov w' c s
          obtain ⟨h1, h2, h3, h4⟩ := h
          subst h1; subst h2; subst h3; subst h4
          exact Zr_ret (ins := .return_) rfl rfl
      · replace h := h.2 hp
        show Zr sc 88 39 [zp a0, zj x1, zj x2, zj r_9, zmk] [] w ov w' c s
        refine Zr_st (q := (40, [zp a0, zj x1, zj x2, zj r_9, zmk], [zp a0])) rfl rfl rfl ?_
        show Zr sc 88 40 [zp a0, zj x1, zj x2, zj r_9, zmk] [zp a0] w ov w' c s
        refine rl_gf rfl L0 rfl rfl ?_
        show Zr sc 88 43 [zp a0, zj x1, zj x2, zj r_9, zmk] [zp (a0 + 1)] w ov w' c s
        refine Zr_st (q := (44, [zp a0, zj x1, zj x2, zj r_9, zmk], [zj x1, zp (a0 + 1)])) rfl rfl rfl ?_
        show Zr sc 88 44 [zp a0, zj x1, zj x2, zj r_9, zmk] [zj x1, zp (a0 + 1)] w ov w' c s
        refine Zr_st (q := (45, [zp a0, zj x1, zj x2, zj r_9, zmk], [zj x2, zj x1, zp (a0 + 1)])) rfl rfl rfl ?_
        show Zr sc 88 45 [zp a0, zj x1, zj x2, zj r_9, zmk] [zj x2, zj x1, zp (a0 + 1)] w ov w' c s
        obtain ⟨w_50, hk_51, h⟩ := h
        refine rn_cal0 (ins := .invokevirtual 186) (rest := []) rfl rfl rfl rfl (zinv_v (fs := _) hl_1 rfl rfl rfl rfl) rfl rfl hk_51 ?_
        show Zr sc 88 48 [zp a0, zj x1, zj x2, zj r_9, zmk] [] w_50 ov w' c s
        obtain ⟨h1, h2, h3, h4⟩ := h
        subst h1; subst h2; subst h3; subst h4
        exact Zr_ret (ins := .return_) rfl rfl
  · replace h := h.2 hp
    show Zr sc 88 11 [zp a0, zj x1, zj x2, zmk, zmk] [] w ov w' c s
    obtain ⟨h1, h2, h3, h4⟩ := h
    subst h1; subst h2; subst h3; subst h4
    exact Zr_ret (ins := .return_) rfl rfl

-- HeapwrightLab$Fits.stretches(II)Z
set_option maxRecDepth 100000 in
theorem V89_0 {sc : List Value} {w w' : List zE} {ov : Option Value} {c s : Nat} {a0 : Nat} {x1 : Int} {x2 : Int} {wy : Int} {st : Int} {hd : Int} {hn : Int} {sn : Int} {nm : Int} {ar : Int} {pk : Int} {dn : Int} (L0 : w[a0]? = some (zob 2 [zp (a0 + 1), zp (a0 + 6), zj wy, zj st, zj hd, zj hn, zj sn, zp (a0 + 9), zp (a0 + 10), zj nm, zj ar, zj pk, zj dn])) (h : (∃ fs_2 : List Value, w[(a0 + 1)]? = some (zob 0 fs_2) ∧ (∃ r_5 : Int, Zc sc 16 [zp (a0 + 1), zj x1] w (some (zj r_5)) w 0 0 ∧ (∃ r_8 : Int, Zc sc 13 [zp (a0 + 1), zj x1] w (some (zj r_8)) w 0 0 ∧ ((zrg (x2 - r_8)) ∧ ((0 ≤ (x2 - r_8) → (∃ fs_11 : List Value, w[(a0 + 6)]? = some (zob 3 fs_11) ∧ (∃ r_14 : Int, Zc sc 47 [zp (a0 + 6), zj r_5] w (some (zj r_14)) w 0 0 ∧ (∃ r_17 : Int, Zc sc 24 [zp (a0 + 6), zj r_14] w (some (zj r_17)) w 0 0 ∧ ((zrg r_17 ∧ zrg r_5) ∧ ((r_17 ≠ r_5 → (ov = some (zj 0) ∧ w' = w ∧ c = 0 ∧ s = 0)) ∧ (¬ (r_17 ≠ r_5) → (∃ r_21 : Int, Zc sc 26 [zp (a0 + 6), zj r_14] w (some (zj r_21)) w 0 0 ∧ ((zrg r_21 ∧ zrg (x2 - r_8)) ∧ (((x2 - r_8) ≤ r_21 → (∃ r_25 : Int, Zc sc 26 [zp (a0 + 6), zj r_14] w (some (zj r_25)) w 0 0 ∧ (∃ r_28 : Int, Zc sc 66 [zp a0, zj r_25, zj (x2 - r_8)] w (some (zj r_28)) w 0 0 ∧ (∃ w_29 : List zE, Zc sc 64 [zp a0, zj 1, zj r_28] w none w_29 0 0 ∧ (∃ wy_32 : Int, ∃ st_33 : Int, ∃ hd_34 : Int, ∃ hn_35 : Int, ∃ sn_36 : Int, ∃ nm_37 : Int, ∃ ar_38 : Int, ∃ pk_39 : Int, ∃ dn_40 : Int, w_29[a0]? = some (zob 2 [zp (a0 + 1), zp (a0 + 6), zj wy_32, zj st_33, zj hd_34, zj hn_35, zj sn_36, zp (a0 + 9), zp (a0 + 10), zj nm_37, zj ar_38, zj pk_39, zj dn_40]) ∧ (∃ fs_42 : List Value, w_29[(a0 + 1)]? = some (zob 0 fs_42) ∧ (∃ w_43 : List zE, Zc sc 90 [zp (a0 + 1), zj x1, zj x2] w_29 none w_43 0 0 ∧ (∃ fs_46 : List Value, w_43[a0]? = some (zob 2 fs_46) ∧ (∃ w_47 : List zE, Zc sc 69 [zp a0] w_43 none w_47 0 0 ∧ (ov = some (zj 1) ∧ w' = w_47 ∧ c = 0 ∧ s = 0)))))))))) ∧ (¬ ((x2 - r_8) ≤ r_21) → (ov = some (zj 0) ∧ w' = w ∧ c = 0 ∧ s = 0)))))))))))) ∧ (¬ (0 ≤ (x2 - r_8)) → (∃ w_49 : List zE, Zc sc 90 [zp (a0 + 1), zj x1, zj x2] w none w_49 0 0 ∧ (∃ fs_52 : List Value, w_49[a0]? = some (zob 2 fs_52) ∧ (∃ w_53 : List zE, Zc sc 69 [zp a0] w_49 none w_53 0 0 ∧ (∃ fs_56 : List Value, w_53[a0]? = some (zob 2 fs_56) ∧ (∃ r_59 : Int, Zc sc 86 [zp a0, zj (r_5 + (x2 - r_8)), zj (-(x2 - r_8))] w_53 (some (zj r_59)) w_53 0 0 ∧ (∃ w_60 : List zE, Zc sc 64 [zp a0, zj 2, zj r_59] w_53 none w_60 0 0 ∧ (ov = some (zj 1) ∧ w' = w_60 ∧ c = 0 ∧ s = 0)))))))))))))) : Zr sc 89 0 [zp a0, zj x1, zj x2, zmk, zmk, zmk] [] w ov w' c s := by
  refine Zr_st (q := (1, [zp a0, zj x1, zj x2, zmk, zmk, zmk], [zp a0])) rfl rfl rfl ?_
  show Zr sc 89 1 [zp a0, zj x1, zj x2, zmk, zmk, zmk] [zp a0] w ov w' c s
  refine rl_gf rfl L0 rfl rfl ?_
  show Zr sc 89 4 [zp a0, zj x1, zj x2, zmk, zmk, zmk] [zp (a0 + 1)] w ov w' c s
  refine Zr_st (q := (5, [zp a0, zj x1, zj x2, zmk, zmk, zmk], [zj x1, zp (a0 + 1)])) rfl rfl rfl ?_
  show Zr sc 89 5 [zp a0, zj x1, zj x2, zmk, zmk, zmk] [zj x1, zp (a0 + 1)] w ov w' c s
  obtain ⟨fs_2, hl_1, h⟩ := h
  obtain ⟨r_5, hk_9, h⟩ := h
  refine rn_cal0 (ins := .invokevirtual 73) (rest := []) rfl rfl rfl rfl (zinv_v (fs := _) hl_1 rfl rfl rfl rfl) rfl rfl hk_9 ?_
  show Zr sc 89 8 [zp a0, zj x1, zj x2, zmk, zmk, zmk] [zj r_5] w ov w' c s
  refine Zr_st (q := (9, [zp a0, zj x1, zj x2, zj r_5, zmk, zmk], [])) rfl rfl rfl ?_
  show Zr sc 89 9 [zp a0, zj x1, zj x2, zj r_5, zmk, zmk] [] w ov w' c s
  refine Zr_st (q := (10, [zp a0, zj x1, zj x2, zj r_5, zmk, zmk], [zj x2])) rfl rfl rfl ?_
  show Zr sc 89 10 [zp a0, zj x1, zj x2, zj r_5, zmk, zmk] [zj x2] w ov w' c s
  refine Zr_st (q := (11, [zp a0, zj x1, zj x2, zj r_5, zmk, zmk], [zp a0, zj x2])) rfl rfl rfl ?_
  show Zr sc 89 11 [zp a0, zj x1, zj x2, zj r_5, zmk, zmk] [zp a0, zj x2] w ov w' c s
  refine rl_gf rfl L0 rfl rfl ?_
  show Zr sc 89 14 [zp a0, zj x1, zj x2, zj r_5, zmk, zmk] [zp (a0 + 1), zj x2] w ov w' c s
  refine Zr_st (q := (15, [zp a0, zj x1, zj x2, zj r_5, zmk, zmk], [zj x1, zp (a0 + 1), zj x2])) rfl rfl rfl ?_
  show Zr sc 89 15 [zp a0, zj x1, zj x2, zj r_5, zmk, zmk] [zj x1, zp (a0 + 1), zj x2] w ov w' c s
  obtain ⟨r_8, hk_9, h⟩ := h
  refine rn_cal0 (ins := .invokevirtual 78) (rest := [zj x2]) rfl rfl rfl rfl (zinv_v (fs := _) hl_1 rfl rfl rfl rfl) rfl rfl hk_9 ?_
  show Zr sc 89 18 [zp a0, zj x1, zj x2, zj r_5, zmk, zmk] [zj r_8, zj x2] w ov w' c s
  refine rl_sub rfl ?_
  show Zr sc 89 19 [zp a0, zj x1, zj x2, zj r_5, zmk, zmk] [zj (x2 - r_8)] w ov w' c s
  refine Zr_st (q := (21, [zp a0, zj x1, zj x2, zj r_5, zj (x2 - r_8), zmk], [])) rfl rfl rfl ?_
  show Zr sc 89 21 [zp a0, zj x1, zj x2, zj r_5, zj (x2 - r_8), zmk] [] w ov w' c s
  refine Zr_st (q := (23, [zp a0, zj x1, zj x2, zj r_5, zj (x2 - r_8), zmk], [zj (x2 - r_8)])) rfl rfl rfl ?_
  show Zr sc 89 23 [zp a0, zj x1, zj x2, zj r_5, zj (x2 - r_8), zmk] [zj (x2 - r_8)] w ov w' c s
  obtain ⟨hr_9, h⟩ := h
  refine Zr_b0 (p := 0 ≤ (x2 - r_8)) rfl rfl (zcmp_0 (cnd := .ge) hr_9) (fun hp => ?_) (fun hp => ?_)
  · replace h := h.1 hp
    show Zr sc 89 57 [zp a0, zj x1, zj x2, zj r_5, zj (x2 - r_8), zmk] [] w ov w' c s
    refine Zr_st (q := (58, [zp a0, zj x1, zj x2, zj r_5, zj (x2 - r_8), zmk], [zp a0])) rfl rfl rfl ?_
    show Zr sc 89 58 [zp a0, zj x1, zj x2, zj r_5, zj (x2 - r_8), zmk] [zp a0] w ov w' c s
    refine rl_gf rfl L0 rfl rfl ?_
    show Zr sc 89 61 [zp a0, zj x1, zj x2, zj r_5, zj (x2 - r_8), zmk] [zp (a0 + 6)] w ov w' c s
    refine Zr_st (q := (62, [zp a0, zj x1, zj x2, zj r_5, zj (x2 - r_8), zmk], [zj r_5, zp (a0 + 6)])) rfl rfl rfl ?_
    show Zr sc 89 62 [zp a0, zj x1, zj x2, zj r_5, zj (x2 - r_8), zmk] [zj r_5, zp (a0 + 6)] w ov w' c s
    obtain ⟨fs_11, hl_10, h⟩ := h
    obtain ⟨r_14, hk_9, h⟩ := h
    refine rn_cal0 (ins := .invokevirtual 44) (rest := []) rfl rfl rfl rfl (zinv_v (fs := _) hl_10 rfl rfl rfl rfl) rfl rfl hk_9 ?_
    show Zr sc 89 65 [zp a0, zj x1, zj x2, zj r_5, zj (x2 - r_8), zmk] [zj r_14] w ov w' c s
    refine Zr_st (q := (67, [zp a0, zj x1, zj x2, zj r_5, zj (x2 - r_8), zj r_14], [])) rfl rfl rfl ?_
    show Zr sc 89 67 [zp a0, zj x1, zj x2, zj r_5, zj (x2 - r_8), zj r_14] [] w ov w' c s
    refine Zr_st (q := (68, [zp a0, zj x1, zj x2, zj r_5, zj (x2 - r_8), zj r_14], [zp a0])) rfl rfl rfl ?_
    show Zr sc 89 68 [zp a0, zj x1, zj x2, zj r_5, zj (x2 - r_8), zj r_14] [zp a0] w ov w' c s
    refine rl_gf rfl L0 rfl rfl ?_
    show Zr sc 89 71 [zp a0, zj x1, zj x2, zj r_5, zj (x2 - r_8), zj r_14] [zp (a0 + 6)] w ov w' c s
    refine Zr_st (q := (73, [zp a0, zj x1, zj x2, zj r_5, zj (x2 - r_8), zj r_14], [zj r_14, zp (a0 + 6)])) rfl rfl rfl ?_
    show Zr sc 89 73 [zp a0, zj x1, zj x2, zj r_5, zj (x2 - r_8), zj r_14] [zj r_14, zp (a0 + 6)] w ov w' c s
    obtain ⟨r_17, hk_9, h⟩ := h
    refine rn_cal0 (ins := .invokevirtual 63) (rest := []) rfl rfl rfl rfl (zinv_v (fs := _) hl_10 rfl rfl rfl rfl) rfl rfl hk_9 ?_
    show Zr sc 89 76 [zp a0, zj x1, zj x2, zj r_5, zj (x2 - r_8), zj r_14] [zj r_17] w ov w' c s
    refine Zr_st (q := (77, [zp a0, zj x1, zj x2, zj r_5, zj (x2 - r_8), zj r_14], [zj r_5, zj r_17])) rfl rfl rfl ?_
    show Zr sc 89 77 [zp a0, zj x1, zj x2, zj r_5, zj (x2 - r_8), zj r_14] [zj r_5, zj r_17] w ov w' c s
    obtain ⟨hr_18, h⟩ := h
    refine Zr_br (p := r_17 ≠ r_5) rfl rfl (zcmp_j (cnd := .ne) hr_18.1 hr_18.2) (fun hp => ?_) (fun hp => ?_)
    · replace h := h.1 hp
      show Zr sc 89 94 [zp a0, zj x1, zj x2, zj r_5, zj (x2 - r_8), zj r_14] [] w ov w' c s
      refine rl_ic rfl ?_
      show Zr sc 89 95 [zp a0, zj x1, zj x2, zj r_5, zj (x2 - r_8), zj r_14] [zj 0] w ov w' c s
      obtain ⟨h1, h2, h3, h4⟩ := h
      subst h1; subst h2; subst h3; subst h4
      exact Zr_ret (ins := .ireturn) rfl rfl
    · replace h := h.2 hp
      show Zr sc 89 80 [zp a0, zj x1, zj x2, zj r_5, zj (x2 - r_8), zj r_14] [] w ov w' c s
      refine Zr_st (q := (81, [zp a0, zj x1, zj x2, zj r_5, zj (x2 - r_8), zj r_14], [zp a0])) rfl rfl rfl ?_
      show Zr sc 89 81 [zp a0, zj x1, zj x2, zj r_5, zj (x2 - r_8), zj r_14] [zp a0] w ov w' c s
      refine rl_gf rfl L0 rfl rfl ?_
      show Zr sc 89 84 [zp a0, zj x1, zj x2, zj r_5, zj (x2 - r_8), zj r_14] [zp (a0 + 6)] w ov w' c s
      refine Zr_st (q := (86, [zp a0, zj x1, zj x2, zj r_5, zj (x2 - r_8), zj r_14], [zj r_14, zp (a0 + 6)])) rfl rfl rfl ?_
      show Zr sc 89 86 [zp a0, zj x1, zj x2, zj r_5, zj (x2 - r_8), zj r_14] [zj r_14, zp (a0 + 6)] w ov w' c s
      obtain ⟨r_21, hk_9, h⟩ := h
      refine rn_cal0 (ins := .invokevirtual 66) (rest := []) rfl rfl rfl rfl (zinv_v (fs := _) hl_10 rfl rfl rfl rfl) rfl rfl hk_9 ?_
      show Zr sc 89 89 [zp a0, zj x1, zj x2, zj r_5, zj (x2 - r_8), zj r_14] [zj r_21] w ov w' c s
      refine Zr_st (q := (91, [zp a0, zj x1, zj x2, zj r_5, zj (x2 - r_8), zj r_14], [zj (x2 - r_8), zj r_21])) rfl rfl rfl ?_
      show Zr sc 89 91 [zp a0, zj x1, zj x2, zj r_5, zj (x2 - r_8), zj r_14] [zj (x2 - r_8), zj r_21] w ov w' c s
      obtain ⟨hr_22, h⟩ := h
      refine Zr_br (p := (x2 - r_8) ≤ r_21) rfl rfl (zcmp_j (cnd := .ge) hr_22.1 hr_22.2) (fun hp => ?_) (fun hp => ?_)
      · replace h := h.1 hp
        show Zr sc 89 96 [zp a0, zj x1, zj x2, zj r_5, zj (x2 - r_8), zj r_14] [] w ov w' c s
        refine Zr_st (q := (97, [zp a0, zj x1, zj x2, zj r_5, zj (x2 - r_8), zj r_14], [zp a0])) rfl rfl rfl ?_
        show Zr sc 89 97 [zp a0, zj x1, zj x2, zj r_5, zj (x2 - r_8), zj r_14] [zp a0] w ov w' c s
        refine rl_ic rfl ?_
        show Zr sc 89 98 [zp a0, zj x1, zj x2, zj r_5, zj (x2 - r_8), zj r_14] [zj 1, zp a0] w ov w' c s
        refine Zr_st (q := (99, [zp a0, zj x1, zj x2, zj r_5, zj (x2 - r_8), zj r_14], [zp a0, zj 1, zp a0])) rfl rfl rfl ?_
        show Zr sc 89 99 [zp a0, zj x1, zj x2, zj r_5, zj (x2 - r_8), zj r_14] [zp a0, zj 1, zp a0] w ov w' c s
        refine Zr_st (q := (100, [zp a0, zj x1, zj x2, zj r_5, zj (x2 - r_8), zj r_14], [zp a0, zp a0, zj 1, zp a0])) rfl rfl rfl ?_
        show Zr sc 89 100 [zp a0, zj x1, zj x2, zj r_5, zj (x2 - r_8), zj r_14] [zp a0, zp a0, zj 1, zp a0] w ov w' c s
        refine rl_gf rfl L0 rfl rfl ?_
        show Zr sc 89 103 [zp a0, zj x1, zj x2, zj r_5, zj (x2 - r_8), zj r_14] [zp (a0 + 6), zp a0, zj 1, zp a0] w ov w' c s
        refine Zr_st (q := (105, [zp a0, zj x1, zj x2, zj r_5, zj (x2 - r_8), zj r_14], [zj r_14, zp (a0 + 6), zp a0, zj 1, zp a0])) rfl rfl rfl ?_
        show Zr sc 89 105 [zp a0, zj x1, zj x2, zj r_5, zj (x2 - r_8), zj r_14] [zj r_14, zp (a0 + 6), zp a0, zj 1, zp a0] w ov w' c s
        obtain ⟨r_25, hk_9, h⟩ := h
        refine rn_cal0 (ins := .invokevirtual 66) (rest := [zp a0, zj 1, zp a0]) rfl rfl rfl rfl (zinv_v (fs := _) hl_10 rfl rfl rfl rfl) rfl rfl hk_9 ?_
        show Zr sc 89 108 [zp a0, zj x1, zj x2, zj r_5, zj (x2 - r_8), zj r_14] [zj r_25, zp a0, zj 1, zp a0] w ov w' c s
        refine Zr_st (q := (110, [zp a0, zj x1, zj x2, zj r_5, zj (x2 - r_8), zj r_14], [zj (x2 - r_8), zj r_25, zp a0, zj 1, zp a0])) rfl rfl rfl ?_
        show Zr sc 89 110 [zp a0, zj x1, zj x2, zj r_5, zj (x2 - r_8), zj r_14] [zj (x2 - r_8), zj r_25, zp a0, zj 1, zp a0] w ov w' c s
        obtain ⟨r_28, hk_9, h⟩ := h
        refine rn_cal0 (ins := .invokevirtual 94) (rest := [zj 1, zp a0]) rfl rfl rfl rfl (zinv_v (fs := _) L0 rfl rfl rfl rfl) rfl rfl hk_9 ?_
        show Zr sc 89 113 [zp a0, zj x1, zj x2, zj r_5, zj (x2 - r_8), zj r_14] [zj r_28, zj 1, zp a0] w ov w' c s
        obtain ⟨w_29, hk_30, h⟩ := h
        refine rn_cal0 (ins := .invokevirtual 91) (rest := []) rfl rfl rfl rfl (zinv_v (fs := _) L0 rfl rfl rfl rfl) rfl rfl hk_30 ?_
        show Zr sc 89 116 [zp a0, zj x1, zj x2, zj r_5, zj (x2 - r_8), zj r_14] [] w_29 ov w' c s
        refine Zr_st (q := (117, [zp a0, zj x1, zj x2, zj r_5, zj (x2 - r_8), zj r_14], [zp a0])) rfl rfl rfl ?_
        show Zr sc 89 117 [zp a0, zj x1, zj x2, zj r_5, zj (x2 - r_8), zj r_14] [zp a0] w_29 ov w' c s
        obtain ⟨wy_32, st_33, hd_34, hn_35, sn_36, nm_37, ar_38, pk_39, dn_40, hw_31, h⟩ := h
        refine rl_gf rfl hw_31 rfl rfl ?_
        show Zr sc 89 120 [zp a0, zj x1, zj x2, zj r_5, zj (x2 - r_8), zj r_14] [zp (a0 + 1)] w_29 ov w' c s
        refine Zr_st (q := (121, [zp a0, zj x1, zj x2, zj r_5, zj (x2 - r_8), zj r_14], [zj x1, zp (a0 + 1)])) rfl rfl rfl ?_
        show Zr sc 89 121 [zp a0, zj x1, zj x2, zj r_5, zj (x2 - r_8), zj r_14] [zj x1, zp (a0 + 1)] w_29 ov w' c s
        refine Zr_st (q := (122, [zp a0, zj x1, zj x2, zj r_5, zj (x2 - r_8), zj r_14], [zj x2, zj x1, zp (a0 + 1)])) rfl rfl rfl ?_
        show Zr sc 89 122 [zp a0, zj x1, zj x2, zj r_5, zj (x2 - r_8), zj r_14] [zj x2, zj x1, zp (a0 + 1)] w_29 ov w' c s
        obtain ⟨fs_42, hl_41, h⟩ := h
        obtain ⟨w_43, hk_44, h⟩ := h
        refine rn_cal0 (ins := .invokevirtual 81) (rest := []) rfl rfl rfl rfl (zinv_v (fs := _) hl_41 rfl rfl rfl rfl) rfl rfl hk_44 ?_
        show Zr sc 89 125 [zp a0, zj x1, zj x2, zj r_5, zj (x2 - r_8), zj r_14] [] w_43 ov w' c s
        refine Zr_st (q := (126, [zp a0, zj x1, zj x2, zj r_5, zj (x2 - r_8), zj r_14], [zp a0])) rfl rfl rfl ?_
        show Zr sc 89 126 [zp a0, zj x1, zj x2, zj r_5, zj (x2 - r_8), zj r_14] [zp a0] w_43 ov w' c s
        obtain ⟨fs_46, hl_45, h⟩ := h
        obtain ⟨w_47, hk_48, h⟩ := h
        refine rn_cal0 (ins := .invokevirtual 84) (rest := []) rfl rfl rfl rfl (zinv_v (fs := _) hl_45 rfl rfl rfl rfl) rfl rfl hk_48 ?_
        show Zr sc 89 129 [zp a0, zj x1, zj x2, zj r_5, zj (x2 - r_8), zj r_14] [] w_47 ov w' c s
        refine rl_ic rfl ?_
        show Zr sc 89 130 [zp a0, zj x1, zj x2, zj r_5, zj (x2 - r_8), zj r_14] [zj 1] w_47 ov w' c s
        obtain ⟨h1, h2, h3, h4⟩ := h
        subst h1; subst h2; subst h3; subst h4
        exact Zr_ret (ins := .ireturn) rfl rfl
      · replace h := h.2 hp
        show Zr sc 89 94 [zp a0, zj x1, zj x2, zj r_5, zj (x2 - r_8), zj r_14] [] w ov w' c s
        refine rl_ic rfl ?_
        show Zr sc 89 95 [zp a0, zj x1, zj x2, zj r_5, zj (x2 - r_8), zj r_14] [zj 0] w ov w' c s
        obtain ⟨h1, h2, h3, h4⟩ := h
        subst h1; subst h2; subst h3; subst h4
        exact Zr_ret (ins := .ireturn) rfl rfl
  · replace h := h.2 hp
    show Zr sc 89 26 [zp a0, zj x1, zj x2, zj r_5, zj (x2 - r_8), zmk] [] w ov w' c s
    refine Zr_st (q := (27, [zp a0, zj x1, zj x2, zj r_5, zj (x2 - r_8), zmk], [zp a0])) rfl rfl rfl ?_
    show Zr sc 89 27 [zp a0, zj x1, zj x2, zj r_5, zj (x2 - r_8), zmk] [zp a0] w ov w' c s
    refine rl_gf rfl L0 rfl rfl ?_
    show Zr sc 89 30 [zp a0, zj x1, zj x2, zj r_5, zj (x2 - r_8), zmk] [zp (a0 + 1)] w ov w' c s
    refine Zr_st (q := (31, [zp a0, zj x1, zj x2, zj r_5, zj (x2 - r_8), zmk], [zj x1, zp (a0 + 1)])) rfl rfl rfl ?_
    show Zr sc 89 31 [zp a0, zj x1, zj x2, zj r_5, zj (x2 - r_8), zmk] [zj x1, zp (a0 + 1)] w ov w' c s
    refine Zr_st (q := (32, [zp a0, zj x1, zj x2, zj r_5, zj (x2 - r_8), zmk], [zj x2, zj x1, zp (a0 + 1)])) rfl rfl rfl ?_
    show Zr sc 89 32 [zp a0, zj x1, zj x2, zj r_5, zj (x2 - r_8), zmk] [zj x2, zj x1, zp (a0 + 1)] w ov w' c s
    obtain ⟨w_49, hk_50, h⟩ := h
    refine rn_cal0 (ins := .invokevirtual 81) (rest := []) rfl rfl rfl rfl (zinv_v (fs := _) hl_1 rfl rfl rfl rfl) rfl rfl hk_50 ?_
    show Zr sc 89 35 [zp a0, zj x1, zj x2, zj r_5, zj (x2 - r_8), zmk] [] w_49 ov w' c s
    refine Zr_st (q := (36, [zp a0, zj x1, zj x2, zj r_5, zj (x2 - r_8), zmk], [zp a0])) rfl rfl rfl ?_
    show Zr sc 89 36 [zp a0, zj x1, zj x2, zj r_5, zj (x2 - r_8), zmk] [zp a0] w_49 ov w' c s
    obtain ⟨fs_52, hl_51, h⟩ := h
    obtain ⟨w_53, hk_54, h⟩ := h
    refine rn_cal0 (ins := .invokevirtual 84) (rest := []) rfl rfl rfl rfl (zinv_v (fs := _) hl_51 rfl rfl rfl rfl) rfl rfl hk_54 ?_
    show Zr sc 89 39 [zp a0, zj x1, zj x2, zj r_5, zj (x2 - r_8), zmk] [] w_53 ov w' c s
    refine Zr_st (q := (40, [zp a0, zj x1, zj x2, zj r_5, zj (x2 - r_8), zmk], [zp a0])) rfl rfl rfl ?_
    show Zr sc 89 40 [zp a0, zj x1, zj x2, zj r_5, zj (x2 - r_8), zmk] [zp a0] w_53 ov w' c s
    refine rl_ic rfl ?_
    show Zr sc 89 41 [zp a0, zj x1, zj x2, zj r_5, zj (x2 - r_8), zmk] [zj 2, zp a0] w_53 ov w' c s
    refine Zr_st (q := (42, [zp a0, zj x1, zj x2, zj r_5, zj (x2 - r_8), zmk], [zp a0, zj 2, zp a0])) rfl rfl rfl ?_
    show Zr sc 89 42 [zp a0, zj x1, zj x2, zj r_5, zj (x2 - r_8), zmk] [zp a0, zj 2, zp a0] w_53 ov w' c s
    refine Zr_st (q := (43, [zp a0, zj x1, zj x2, zj r_5, zj (x2 - r_8), zmk], [zj r_5, zp a0, zj 2, zp a0])) rfl rfl rfl ?_
    show Zr sc 89 43 [zp a0, zj x1, zj x2, zj r_5, zj (x2 - r_8), zmk] [zj r_5, zp a0, zj 2, zp a0] w_53 ov w' c s
    refine Zr_st (q := (45, [zp a0, zj x1, zj x2, zj r_5, zj (x2 - r_8), zmk], [zj (x2 - r_8), zj r_5, zp a0, zj 2, zp a0])) rfl rfl rfl ?_
    show Zr sc 89 45 [zp a0, zj x1, zj x2, zj r_5, zj (x2 - r_8), zmk] [zj (x2 - r_8), zj r_5, zp a0, zj 2, zp a0] w_53 ov w' c s
    refine rl_add rfl ?_
    show Zr sc 89 46 [zp a0, zj x1, zj x2, zj r_5, zj (x2 - r_8), zmk] [zj (r_5 + (x2 - r_8)), zp a0, zj 2, zp a0] w_53 ov w' c s
    refine Zr_st (q := (48, [zp a0, zj x1, zj x2, zj r_5, zj (x2 - r_8), zmk], [zj (x2 - r_8), zj (r_5 + (x2 - r_8)), zp a0, zj 2, zp a0])) rfl rfl rfl ?_
    show Zr sc 89 48 [zp a0, zj x1, zj x2, zj r_5, zj (x2 - r_8), zmk] [zj (x2 - r_8), zj (r_5 + (x2 - r_8)), zp a0, zj 2, zp a0] w_53 ov w' c s
    refine rl_neg rfl ?_
    show Zr sc 89 49 [zp a0, zj x1, zj x2, zj r_5, zj (x2 - r_8), zmk] [zj (-(x2 - r_8)), zj (r_5 + (x2 - r_8)), zp a0, zj 2, zp a0] w_53 ov w' c s
    obtain ⟨fs_56, hl_55, h⟩ := h
    obtain ⟨r_59, hk_9, h⟩ := h
    refine rn_cal0 (ins := .invokevirtual 88) (rest := [zj 2, zp a0]) rfl rfl rfl rfl (zinv_v (fs := _) hl_55 rfl rfl rfl rfl) rfl rfl hk_9 ?_
    show Zr sc 89 52 [zp a0, zj x1, zj x2, zj r_5, zj (x2 - r_8), zmk] [zj r_59, zj 2, zp a0] w_53 ov w' c s
    obtain ⟨w_60, hk_61, h⟩ := h
    refine rn_cal0 (ins := .invokevirtual 91) (rest := []) rfl rfl rfl rfl (zinv_v (fs := _) hl_55 rfl rfl rfl rfl) rfl rfl hk_61 ?_
    show Zr sc 89 55 [zp a0, zj x1, zj x2, zj r_5, zj (x2 - r_8), zmk] [] w_60 ov w' c s
    refine rl_ic rfl ?_
    show Zr sc 89 56 [zp a0, zj x1, zj x2, zj r_5, zj (x2 - r_8), zmk] [zj 1] w_60 ov w' c s
    obtain ⟨h1, h2, h3, h4⟩ := h
    subst h1; subst h2; subst h3; subst h4
    exact Zr_ret (ins := .ireturn) rfl rfl

-- HeapwrightLab$Blocks.setRoom(II)V
set_option maxRecDepth 100000 in
theorem V90_0 {sc : List Value} {w w' : List zE} {ov : Option Value} {c s : Nat} {a0 : Nat} {x1 : Int} {x2 : Int} {ct : Int} {rt : Int} {rm : List Int} (L0 : w[a0]? = some (zob 0 [zp (a0 + 1), zp (a0 + 2), zp (a0 + 3), zp (a0 + 4), zj ct, zj rt])) (L3 : w[(a0 + 3)]? = some (za rm)) (h : (∃ r_3 : Int, Zc sc 7 [zp a0, zj x1] w (some (zj r_3)) w 0 0 ∧ ((zrg r_3) ∧ ((r_3 = 0 → (ov = none ∧ w' = w ∧ c = 0 ∧ s = 0)) ∧ (¬ (r_3 = 0) → (((0 : Int) ≤ x1 ∧ x1 < (rm.length : Int) ∧ x1 ≤ (2147483647 : Int)) ∧ (((0 : Int) ≤ x1 ∧ x1 < (rm.length : Int) ∧ x1 ≤ (2147483647 : Int)) ∧ (ov = none ∧ w' = ((w.set a0 (zob 0 [zp (a0 + 1), zp (a0 + 2), zp (a0 + 3), zp (a0 + 4), zj ct, zj (rt + (x2 - (zgi rm x1)))])).set (a0 + 3) (za (zsi rm x1 x2))) ∧ c = 0 ∧ s = 0)))))))) : Zr sc 90 0 [zp a0, zj x1, zj x2] [] w ov w' c s := by
  refine Zr_st (q := (1, [zp a0, zj x1, zj x2], [zp a0])) rfl rfl rfl ?_
  show Zr sc 90 1 [zp a0, zj x1, zj x2] [zp a0] w ov w' c s
  refine Zr_st (q := (2, [zp a0, zj x1, zj x2], [zj x1, zp a0])) rfl rfl rfl ?_
  show Zr sc 90 2 [zp a0, zj x1, zj x2] [zj x1, zp a0] w ov w' c s
  obtain ⟨r_3, hk_9, h⟩ := h
  refine rn_cal0 (ins := .invokevirtual 37) (rest := []) rfl rfl rfl rfl (zinv_v (fs := _) L0 rfl rfl rfl rfl) rfl rfl hk_9 ?_
  show Zr sc 90 5 [zp a0, zj x1, zj x2] [zj r_3] w ov w' c s
  obtain ⟨hr_4, h⟩ := h
  refine Zr_b0 (p := r_3 = 0) rfl rfl (zcmp_0 (cnd := .eq) hr_4) (fun hp => ?_) (fun hp => ?_)
  · replace h := h.1 hp
    show Zr sc 90 32 [zp a0, zj x1, zj x2] [] w ov w' c s
    obtain ⟨h1, h2, h3, h4⟩ := h
    subst h1; subst h2; subst h3; subst h4
    exact Zr_ret (ins := .return_) rfl rfl
  · replace h := h.2 hp
    show Zr sc 90 8 [zp a0, zj x1, zj x2] [] w ov w' c s
    refine Zr_st (q := (9, [zp a0, zj x1, zj x2], [zp a0])) rfl rfl rfl ?_
    show Zr sc 90 9 [zp a0, zj x1, zj x2] [zp a0] w ov w' c s
    refine Zr_st (q := (10, [zp a0, zj x1, zj x2], [zp a0, zp a0])) rfl rfl rfl ?_
    show Zr sc 90 10 [zp a0, zj x1, zj x2] [zp a0, zp a0] w ov w' c s
    refine rl_gf rfl L0 rfl rfl ?_
    show Zr sc 90 13 [zp a0, zj x1, zj x2] [zj rt, zp a0] w ov w' c s
    refine Zr_st (q := (14, [zp a0, zj x1, zj x2], [zj x2, zj rt, zp a0])) rfl rfl rfl ?_
    show Zr sc 90 14 [zp a0, zj x1, zj x2] [zj x2, zj rt, zp a0] w ov w' c s
    refine Zr_st (q := (15, [zp a0, zj x1, zj x2], [zp a0, zj x2, zj rt, zp a0])) rfl rfl rfl ?_
    show Zr sc 90 15 [zp a0, zj x1, zj x2] [zp a0, zj x2, zj rt, zp a0] w ov w' c s
    refine rl_gf rfl L0 rfl rfl ?_
    show Zr sc 90 18 [zp a0, zj x1, zj x2] [zp (a0 + 3), zj x2, zj rt, zp a0] w ov w' c s
    refine Zr_st (q := (19, [zp a0, zj x1, zj x2], [zj x1, zp (a0 + 3), zj x2, zj rt, zp a0])) rfl rfl rfl ?_
    show Zr sc 90 19 [zp a0, zj x1, zj x2] [zj x1, zp (a0 + 3), zj x2, zj rt, zp a0] w ov w' c s
    obtain ⟨hi_5, h⟩ := h
    refine rl_ia rfl L3 hi_5.1 hi_5.2.1 hi_5.2.2 ?_
    show Zr sc 90 20 [zp a0, zj x1, zj x2] [zj (zgi rm x1), zj x2, zj rt, zp a0] w ov w' c s
    refine rl_sub rfl ?_
    show Zr sc 90 21 [zp a0, zj x1, zj x2] [zj (x2 - (zgi rm x1)), zj rt, zp a0] w ov w' c s
    refine rl_add rfl ?_
    show Zr sc 90 22 [zp a0, zj x1, zj x2] [zj (rt + (x2 - (zgi rm x1))), zp a0] w ov w' c s
    refine rl_pf rfl L0 rfl rfl rfl ?_
    show Zr sc 90 25 [zp a0, zj x1, zj x2] [] (w.set a0 (zob 0 [zp (a0 + 1), zp (a0 + 2), zp (a0 + 3), zp (a0 + 4), zj ct, zj (rt + (x2 - (zgi rm x1)))])) ov w' c s
    refine Zr_st (q := (26, [zp a0, zj x1, zj x2], [zp a0])) rfl rfl rfl ?_
    show Zr sc 90 26 [zp a0, zj x1, zj x2] [zp a0] (w.set a0 (zob 0 [zp (a0 + 1), zp (a0 + 2), zp (a0 + 3), zp (a0 + 4), zj ct, zj (rt + (x2 - (zgi rm x1)))])) ov w' c s
    refine rl_gf rfl (zw_s L0) rfl rfl ?_
    show Zr sc 90 29 [zp a0, zj x1, zj x2] [zp (a0 + 3)] (w.set a0 (zob 0 [zp (a0 + 1), zp (a0 + 2), zp (a0 + 3), zp (a0 + 4), zj ct, zj (rt + (x2 - (zgi rm x1)))])) ov w' c s
    refine Zr_st (q := (30, [zp a0, zj x1, zj x2], [zj x1, zp (a0 + 3)])) rfl rfl rfl ?_
    show Zr sc 90 30 [zp a0, zj x1, zj x2] [zj x1, zp (a0 + 3)] (w.set a0 (zob 0 [zp (a0 + 1), zp (a0 + 2), zp (a0 + 3), zp (a0 + 4), zj ct, zj (rt + (x2 - (zgi rm x1)))])) ov w' c s
    refine Zr_st (q := (31, [zp a0, zj x1, zj x2], [zj x2, zj x1, zp (a0 + 3)])) rfl rfl rfl ?_
    show Zr sc 90 31 [zp a0, zj x1, zj x2] [zj x2, zj x1, zp (a0 + 3)] (w.set a0 (zob 0 [zp (a0 + 1), zp (a0 + 2), zp (a0 + 3), zp (a0 + 4), zj ct, zj (rt + (x2 - (zgi rm x1)))])) ov w' c s
    obtain ⟨hi_6, h⟩ := h
    refine rl_is rfl (zw_o (by omega) L3) hi_6.1 hi_6.2.1 hi_6.2.2 ?_
    show Zr sc 90 32 [zp a0, zj x1, zj x2] [] ((w.set a0 (zob 0 [zp (a0 + 1), zp (a0 + 2), zp (a0 + 3), zp (a0 + 4), zj ct, zj (rt + (x2 - (zgi rm x1)))])).set (a0 + 3) (za (zsi rm x1 x2))) ov w' c s
    obtain ⟨h1, h2, h3, h4⟩ := h
    subst h1; subst h2; subst h3; subst h4
    exact Zr_ret (ins := .return_) rfl rfl

-- HeapwrightLab$Memory.stretches(II)Z
set_option maxRecDepth 100000 in
theorem V91_0_1 {sc : List Value} {w w' : List zE} {ov : Option Value} {c s : Nat} {a0 : Nat} {x1 : Int} {x2 : Int} (h : (ov = some (zj 0) ∧ w' = w ∧ c = 0 ∧ s = 0)) : Zr sc 91 0 [zp a0, zj x1, zj x2] [] w ov w' c s := by
  refine rl_ic rfl ?_
  show Zr sc 91 1 [zp a0, zj x1, zj x2] [zj 0] w ov w' c s
  obtain ⟨h1, h2, h3, h4⟩ := h
  subst h1; subst h2; subst h3; subst h4
  exact Zr_ret (ins := .ireturn) rfl rfl

-- HeapwrightLab$Memory.stretches(II)Z
set_option maxRecDepth 100000 in
theorem V91_0_4 {sc : List Value} {w w' : List zE} {ov : Option Value} {c s : Nat} {a0 : Nat} {x1 : Int} {x2 : Int} (h : (ov = some (zj 0) ∧ w' = w ∧ c = 0 ∧ s = 0)) : Zr sc 91 0 [zp a0, zj x1, zj x2] [] w ov w' c s := by
  refine rl_ic rfl ?_
  show Zr sc 91 1 [zp a0, zj x1, zj x2] [zj 0] w ov w' c s
  obtain ⟨h1, h2, h3, h4⟩ := h
  subst h1; subst h2; subst h3; subst h4
  exact Zr_ret (ins := .ireturn) rfl rfl

-- HeapwrightLab$Blocks.setSize(II)V
set_option maxRecDepth 100000 in
theorem V92_0 {sc : List Value} {w w' : List zE} {ov : Option Value} {c s : Nat} {a0 : Nat} {x1 : Int} {x2 : Int} {ct : Int} {rt : Int} {sz : List Int} (L0 : w[a0]? = some (zob 0 [zp (a0 + 1), zp (a0 + 2), zp (a0 + 3), zp (a0 + 4), zj ct, zj rt])) (L2 : w[(a0 + 2)]? = some (za sz)) (h : (∃ r_3 : Int, Zc sc 7 [zp a0, zj x1] w (some (zj r_3)) w 0 0 ∧ ((zrg r_3) ∧ ((r_3 = 0 → (ov = none ∧ w' = w ∧ c = 0 ∧ s = 0)) ∧ (¬ (r_3 = 0) → (((0 : Int) ≤ x1 ∧ x1 < (sz.length : Int) ∧ x1 ≤ (2147483647 : Int)) ∧ (ov = none ∧ w' = (w.set (a0 + 2) (za (zsi sz x1 x2))) ∧ c = 0 ∧ s = 0))))))) : Zr sc 92 0 [zp a0, zj x1, zj x2] [] w ov w' c s := by
  refine Zr_st (q := (1, [zp a0, zj x1, zj x2], [zp a0])) rfl rfl rfl ?_
  show Zr sc 92 1 [zp a0, zj x1, zj x2] [zp a0] w ov w' c s
  refine Zr_st (q := (2, [zp a0, zj x1, zj x2], [zj x1, zp a0])) rfl rfl rfl ?_
  show Zr sc 92 2 [zp a0, zj x1, zj x2] [zj x1, zp a0] w ov w' c s
  obtain ⟨r_3, hk_9, h⟩ := h
  refine rn_cal0 (ins := .invokevirtual 37) (rest := []) rfl rfl rfl rfl (zinv_v (fs := _) L0 rfl rfl rfl rfl) rfl rfl hk_9 ?_
  show Zr sc 92 5 [zp a0, zj x1, zj x2] [zj r_3] w ov w' c s
  obtain ⟨hr_4, h⟩ := h
  refine Zr_b0 (p := r_3 = 0) rfl rfl (zcmp_0 (cnd := .eq) hr_4) (fun hp => ?_) (fun hp => ?_)
  · replace h := h.1 hp
    show Zr sc 92 15 [zp a0, zj x1, zj x2] [] w ov w' c s
    obtain ⟨h1, h2, h3, h4⟩ := h
    subst h1; subst h2; subst h3; subst h4
    exact Zr_ret (ins := .return_) rfl rfl
  · replace h := h.2 hp
    show Zr sc 92 8 [zp a0, zj x1, zj x2] [] w ov w' c s
    refine Zr_st (q := (9, [zp a0, zj x1, zj x2], [zp a0])) rfl rfl rfl ?_
    show Zr sc 92 9 [zp a0, zj x1, zj x2] [zp a0] w ov w' c s
    refine rl_gf rfl L0 rfl rfl ?_
    show Zr sc 92 12 [zp a0, zj x1, zj x2] [zp (a0 + 2)] w ov w' c s
    refine Zr_st (q := (13, [zp a0, zj x1, zj x2], [zj x1, zp (a0 + 2)])) rfl rfl rfl ?_
    show Zr sc 92 13 [zp a0, zj x1, zj x2] [zj x1, zp (a0 + 2)] w ov w' c s
    refine Zr_st (q := (14, [zp a0, zj x1, zj x2], [zj x2, zj x1, zp (a0 + 2)])) rfl rfl rfl ?_
    show Zr sc 92 14 [zp a0, zj x1, zj x2] [zj x2, zj x1, zp (a0 + 2)] w ov w' c s
    obtain ⟨hi_5, h⟩ := h
    refine rl_is rfl L2 hi_5.1 hi_5.2.1 hi_5.2.2 ?_
    show Zr sc 92 15 [zp a0, zj x1, zj x2] [] (w.set (a0 + 2) (za (zsi sz x1 x2))) ov w' c s
    obtain ⟨h1, h2, h3, h4⟩ := h
    subst h1; subst h2; subst h3; subst h4
    exact Zr_ret (ins := .return_) rfl rfl

-- HeapwrightLab$Blocks.rename(II)V
set_option maxRecDepth 100000 in
theorem V93_0 {sc : List Value} {w w' : List zE} {ov : Option Value} {c s : Nat} {a0 : Nat} {x1 : Int} {x2 : Int} {ct : Int} {rt : Int} {rm : List Int} {bp : List Int} {pl : List Int} {sz : List Int} (L0 : w[a0]? = some (zob 0 [zp (a0 + 1), zp (a0 + 2), zp (a0 + 3), zp (a0 + 4), zj ct, zj rt])) (L3 : w[(a0 + 3)]? = some (za rm)) (L4 : w[(a0 + 4)]? = some (za bp)) (L1 : w[(a0 + 1)]? = some (za pl)) (L2 : w[(a0 + 2)]? = some (za sz)) (h : (∃ r_3 : Int, Zc sc 7 [zp a0, zj x1] w (some (zj r_3)) w 0 0 ∧ ((zrg r_3) ∧ ((r_3 = 0 → (ov = none ∧ w' = w ∧ c = 0 ∧ s = 0)) ∧ (¬ (r_3 = 0) → (∃ r_7 : Int, Zc sc 7 [zp a0, zj x2] w (some (zj r_7)) w 0 0 ∧ ((zrg r_7) ∧ ((r_7 ≠ 0 → (ov = none ∧ w' = w ∧ c = 0 ∧ s = 0)) ∧ (¬ (r_7 ≠ 0) → ((zrg x2) ∧ ((x2 < 0 → (ov = none ∧ w' = w ∧ c = 0 ∧ s = 0)) ∧ (¬ (x2 < 0) → ((zrg x2 ∧ zrg (rm.length : Int)) ∧ ((x2 < (rm.length : Int) → (∃ r_13 : Int, Zc sc 85 [zp a0, zj x1] w (some (zj r_13)) w 0 0 ∧ (((0 : Int) ≤ r_13 ∧ r_13 < (bp.length : Int) ∧ r_13 ≤ (2147483647 : Int)) ∧ (((0 : Int) ≤ x1 ∧ x1 < (pl.length : Int) ∧ x1 ≤ (2147483647 : Int)) ∧ (((0 : Int) ≤ x2 ∧ x2 < (pl.length : Int) ∧ x2 ≤ (2147483647 : Int)) ∧ (((0 : Int) ≤ x1 ∧ x1 < (sz.length : Int) ∧ x1 ≤ (2147483647 : Int)) ∧ (((0 : Int) ≤ x2 ∧ x2 < (sz.length : Int) ∧ x2 ≤ (2147483647 : Int)) ∧ (((0 : Int) ≤ x1 ∧ x1 < (rm.length : Int) ∧ x1 ≤ (2147483647 : Int)) ∧ (((0 : Int) ≤ x2 ∧ x2 < (rm.length : Int) ∧ x2 ≤ (2147483647 : Int)) ∧ (((0 : Int) ≤ x1 ∧ x1 < ((zsi rm x2 (zgi rm x1)).length : Int) ∧ x1 ≤ (2147483647 : Int)) ∧ (ov = none ∧ w' = (((((w.set (a0 + 4) (za (zsi bp r_13 x2))).set (a0 + 1) (za (zsi pl x2 (zgi pl x1)))).set (a0 + 2) (za (zsi sz x2 (zgi sz x1)))).set (a0 + 3) (za (zsi rm x2 (zgi rm x1)))).set (a0 + 3) (za (zsi (zsi rm x2 (zgi rm x1)) x1 0))) ∧ c = 0 ∧ s = 0))))))))))) ∧ (¬ (x2 < (rm.length : Int)) → (ov = none ∧ w' = w ∧ c = 0 ∧ s = 0)))))))))))))))) : Zr sc 93 0 [zp a0, zj x1, zj x2] [] w ov w' c s := by
  refine Zr_st (q := (1, [zp a0, zj x1, zj x2], [zp a0])) rfl rfl rfl ?_
  show Zr sc 93 1 [zp a0, zj x1, zj x2] [zp a0] w ov w' c s
  refine Zr_st (q := (2, [zp a0, zj x1, zj x2], [zj x1, zp a0])) rfl rfl rfl ?_
  show Zr sc 93 2 [zp a0, zj x1, zj x2] [zj x1, zp a0] w ov w' c s
  obtain ⟨r_3, hk_9, h⟩ := h
  refine rn_cal0 (ins := .invokevirtual 37) (rest := []) rfl rfl rfl rfl (zinv_v (fs := _) L0 rfl rfl rfl rfl) rfl rfl hk_9 ?_
  show Zr sc 93 5 [zp a0, zj x1, zj x2] [zj r_3] w ov w' c s
  obtain ⟨hr_4, h⟩ := h
  refine Zr_b0 (p := r_3 = 0) rfl rfl (zcmp_0 (cnd := .eq) hr_4) (fun hp => ?_) (fun hp => ?_)
  · replace h := h.1 hp
    show Zr sc 93 29 [zp a0, zj x1, zj x2] [] w ov w' c s
    obtain ⟨h1, h2, h3, h4⟩ := h
    subst h1; subst h2; subst h3; subst h4
    exact Zr_ret (ins := .return_) rfl rfl
  · replace h := h.2 hp
    show Zr sc 93 8 [zp a0, zj x1, zj x2] [] w ov w' c s
    refine Zr_st (q := (9, [zp a0, zj x1, zj x2], [zp a0])) rfl rfl rfl ?_
    show Zr sc 93 9 [zp a0, zj x1, zj x2] [zp a0] w ov w' c s
    refine Zr_st (q := (10, [zp a0, zj x1, zj x2], [zj x2, zp a0])) rfl rfl rfl ?_
    show Zr sc 93 10 [zp a0, zj x1, zj x2] [zj x2, zp a0] w ov w' c s
    obtain ⟨r_7, hk_9, h⟩ := h
    refine rn_cal0 (ins := .invokevirtual 37) (rest := []) rfl rfl rfl rfl (zinv_v (fs := _) L0 rfl rfl rfl rfl) rfl rfl hk_9 ?_
    show Zr sc 93 13 [zp a0, zj x1, zj x2] [zj r_7] w ov w' c s
    obtain ⟨hr_8, h⟩ := h
    refine Zr_b0 (p := r_7 ≠ 0) rfl rfl (zcmp_0 (cnd := .ne) hr_8) (fun hp => ?_) (fun hp => ?_)
    · replace h := h.1 hp
      show Zr sc 93 29 [zp a0, zj x1, zj x2] [] w ov w' c s
      obtain ⟨h1, h2, h3, h4⟩ := h
      subst h1; subst h2; subst h3; subst h4
      exact Zr_ret (ins := .return_) rfl rfl
    · replace h := h.2 hp
      show Zr sc 93 16 [zp a0, zj x1, zj x2] [] w ov w' c s
      refine Zr_st (q := (17, [zp a0, zj x1, zj x2], [zj x2])) rfl rfl rfl ?_
      show Zr sc 93 17 [zp a0, zj x1, zj x2] [zj x2] w ov w' c s
      obtain ⟨hr_9, h⟩ := h
      refine Zr_b0 (p := x2 < 0) rfl rfl (zcmp_0 (cnd := .lt) hr_9) (fun hp => ?_) (fun hp => ?_)
      · replace h := h.1 hp
        show Zr sc 93 29 [zp a0, zj x1, zj x2] [] w ov w' c s
        obtain ⟨h1, h2, h3, h4⟩ := h
        subst h1; subst h2; subst h3; subst h4
        exact Zr_ret (ins := .return_) rfl rfl
      · replace h := h.2 hp
        show Zr sc 93 20 [zp a0, zj x1, zj x2] [] w ov w' c s
        refine Zr_st (q := (21, [zp a0, zj x1, zj x2], [zj x2])) rfl rfl rfl ?_
        show Zr sc 93 21 [zp a0, zj x1, zj x2] [zj x2] w ov w' c s
        refine Zr_st (q := (22, [zp a0, zj x1, zj x2], [zp a0, zj x2])) rfl rfl rfl ?_
        show Zr sc 93 22 [zp a0, zj x1, zj x2] [zp a0, zj x2] w ov w' c s
        refine rl_gf rfl L0 rfl rfl ?_
        show Zr sc 93 25 [zp a0, zj x1, zj x2] [zp (a0 + 3), zj x2] w ov w' c s
        refine rl_al rfl L3 ?_
        show Zr sc 93 26 [zp a0, zj x1, zj x2] [zj (rm.length : Int), zj x2] w ov w' c s
        obtain ⟨hr_10, h⟩ := h
        refine Zr_br (p := x2 < (rm.length : Int)) rfl rfl (zcmp_j (cnd := .lt) hr_10.1 hr_10.2) (fun hp => ?_) (fun hp => ?_)
        · replace h := h.1 hp
          show Zr sc 93 30 [zp a0, zj x1, zj x2] [] w ov w' c s
          refine Zr_st (q := (31, [zp a0, zj x1, zj x2], [zp a0])) rfl rfl rfl ?_
          show Zr sc 93 31 [zp a0, zj x1, zj x2] [zp a0] w ov w' c s
          refine rl_gf rfl L0 rfl rfl ?_
          show Zr sc 93 34 [zp a0, zj x1, zj x2] [zp (a0 + 4)] w ov w' c s
          refine Zr_st (q := (35, [zp a0, zj x1, zj x2], [zp a0, zp (a0 + 4)])) rfl rfl rfl ?_
          show Zr sc 93 35 [zp a0, zj x1, zj x2] [zp a0, zp (a0 + 4)] w ov w' c s
          refine Zr_st (q := (36, [zp a0, zj x1, zj x2], [zj x1, zp a0, zp (a0 + 4)])) rfl rfl rfl ?_
          show Zr sc 93 36 [zp a0, zj x1, zj x2] [zj x1, zp a0, zp (a0 + 4)] w ov w' c s
          obtain ⟨r_13, hk_9, h⟩ := h
          refine rn_cal0 (ins := .invokevirtual 51) (rest := [zp (a0 + 4)]) rfl rfl rfl rfl (zinv_v (fs := _) L0 rfl rfl rfl rfl) rfl rfl hk_9 ?_
          show Zr sc 93 39 [zp a0, zj x1, zj x2] [zj r_13, zp (a0 + 4)] w ov w' c s
          refine Zr_st (q := (40, [zp a0, zj x1, zj x2], [zj x2, zj r_13, zp (a0 + 4)])) rfl rfl rfl ?_
          show Zr sc 93 40 [zp a0, zj x1, zj x2] [zj x2, zj r_13, zp (a0 + 4)] w ov w' c s
          obtain ⟨hi_14, h⟩ := h
          refine rl_is rfl L4 hi_14.1 hi_14.2.1 hi_14.2.2 ?_
          show Zr sc 93 41 [zp a0, zj x1, zj x2] [] (w.set (a0 + 4) (za (zsi bp r_13 x2))) ov w' c s
          refine Zr_st (q := (42, [zp a0, zj x1, zj x2], [zp a0])) rfl rfl rfl ?_
          show Zr sc 93 42 [zp a0, zj x1, zj x2] [zp a0] (w.set (a0 + 4) (za (zsi bp r_13 x2))) ov w' c s
          refine rl_gf rfl (zw_o (by omega) L0) rfl rfl ?_
          show Zr sc 93 45 [zp a0, zj x1, zj x2] [zp (a0 + 1)] (w.set (a0 + 4) (za (zsi bp r_13 x2))) ov w' c s
          refine Zr_st (q := (46, [zp a0, zj x1, zj x2], [zj x2, zp (a0 + 1)])) rfl rfl rfl ?_
          show Zr sc 93 46 [zp a0, zj x1, zj x2] [zj x2, zp (a0 + 1)] (w.set (a0 + 4) (za (zsi bp r_13 x2))) ov w' c s
          refine Zr_st (q := (47, [zp a0, zj x1, zj x2], [zp a0, zj x2, zp (a0 + 1)])) rfl rfl rfl ?_
          show Zr sc 93 47 [zp a0, zj x1, zj x2] [zp a0, zj x2, zp (a0 + 1)] (w.set (a0 + 4) (za (zsi bp r_13 x2))) ov w' c s
          refine rl_gf rfl (zw_o (by omega) L0) rfl rfl ?_
          show Zr sc 93 50 [zp a0, zj x1, zj x2] [zp (a0 + 1), zj x2, zp (a0 + 1)] (w.set (a0 + 4) (za (zsi bp r_13 x2))) ov w' c s
          refine Zr_st (q := (51, [zp a0, zj x1, zj x2], [zj x1, zp (a0 + 1), zj x2, zp (a0 + 1)])) rfl rfl rfl ?_
          show Zr sc 93 51 [zp a0, zj x1, zj x2] [zj x1, zp (a0 + 1), zj x2, zp (a0 + 1)] (w.set (a0 + 4) (za (zsi bp r_13 x2))) ov w' c s
          obtain ⟨hi_15, h⟩ := h
          refine rl_ia rfl (zw_o (by omega) L1) hi_15.1 hi_15.2.1 hi_15.2.2 ?_
          show Zr sc 93 52 [zp a0, zj x1, zj x2] [zj (zgi pl x1), zj x2, zp (a0 + 1)] (w.set (a0 + 4) (za (zsi bp r_13 x2))) ov w' c s
          obtain ⟨hi_16, h⟩ := h
          refine rl_is rfl (zw_o (by omega) L1) hi_16.1 hi_16.2.1 hi_16.2.2 ?_
          show Zr sc 93 53 [zp a0, zj x1, zj x2] [] ((w.set (a0 + 4) (za (zsi bp r_13 x2))).set (a0 + 1) (za (zsi pl x2 (zgi pl x1)))) ov w' c s
          refine Zr_st (q := (54, [zp a0, zj x1, zj x2], [zp a0])) rfl rfl rfl ?_
          show Zr sc 93 54 [zp a0, zj x1, zj x2] [zp a0] ((w.set (a0 + 4) (za (zsi bp r_13 x2))).set (a0 + 1) (za (zsi pl x2 (zgi pl x1)))) ov w' c s
          refine rl_gf rfl (zw_o (by omega) (zw_o (by omega) L0)) rfl rfl ?_
          show Zr sc 93 57 [zp a0, zj x1, zj x2] [zp (a0 + 2)] ((w.set (a0 + 4) (za (zsi bp r_13 x2))).set (a0 + 1) (za (zsi pl x2 (zgi pl x1)))) ov w' c s
          refine Zr_st (q := (58, [zp a0, zj x1, zj x2], [zj x2, zp (a0 + 2)])) rfl rfl rfl ?_
          show Zr sc 93 58 [zp a0, zj x1, zj x2] [zj x2, zp (a0 + 2)] ((w.set (a0 + 4) (za (zsi bp r_13 x2))).set (a0 + 1) (za (zsi pl x2 (zgi pl x1)))) ov w' c s
          refine Zr_st (q := (59, [zp a0, zj x1, zj x2], [zp a0, zj x2, zp (a0 + 2)])) rfl rfl rfl ?_
          show Zr sc 93 59 [zp a0, zj x1, zj x2] [zp a0, zj x2, zp (a0 + 2)] ((w.set (a0 + 4) (za (zsi bp r_13 x2))).set (a0 + 1) (za (zsi pl x2 (zgi pl x1)))) ov w' c s
          refine rl_gf rfl (zw_o (by omega) (zw_o (by omega) L0)) rfl rfl ?_
          show Zr sc 93 62 [zp a0, zj x1, zj x2] [zp (a0 + 2), zj x2, zp (a0 + 2)] ((w.set (a0 + 4) (za (zsi bp r_13 x2))).set (a0 + 1) (za (zsi pl x2 (zgi pl x1)))) ov w' c s
          refine Zr_st (q := (63, [zp a0, zj x1, zj x2], [zj x1, zp (a0 + 2), zj x2, zp (a0 + 2)])) rfl rfl rfl ?_
          show Zr sc 93 63 [zp a0, zj x1, zj x2] [zj x1, zp (a0 + 2), zj x2, zp (a0 + 2)] ((w.set (a0 + 4) (za (zsi bp r_13 x2))).set (a0 + 1) (za (zsi pl x2 (zgi pl x1)))) ov w' c s
          obtain ⟨hi_17, h⟩ := h
          refine rl_ia rfl (zw_o (by omega) (zw_o (by omega) L2)) hi_17.1 hi_17.2.1 hi_17.2.2 ?_
          show Zr sc 93 64 [zp a0, zj x1, zj x2] [zj (zgi sz x1), zj x2, zp (a0 + 2)] ((w.set (a0 + 4) (za (zsi bp r_13 x2))).set (a0 + 1) (za (zsi pl x2 (zgi pl x1)))) ov w' c s
          obtain ⟨hi_18, h⟩ := h
          refine rl_is rfl (zw_o (by omega) (zw_o (by omega) L2)) hi_18.1 hi_18.2.1 hi_18.2.2 ?_
          show Zr sc 93 65 [zp a0, zj x1, zj x2] [] (((w.set (a0 + 4) (za (zsi bp r_13 x2))).set (a0 + 1) (za (zsi pl x2 (zgi pl x1)))).set (a0 + 2) (za (zsi sz x2 (zgi sz x1)))) ov w' c s
          refine Zr_st (q := (66, [zp a0, zj x1, zj x2], [zp a0])) rfl rfl rfl ?_
          show Zr sc 93 66 [zp a0, zj x1, zj x2] [zp a0] (((w.set (a0 + 4) (za (zsi bp r_13 x2))).set (a0 + 1) (za (zsi pl x2 (zgi pl x1)))).set (a0 + 2) (za (zsi sz x2 (zgi sz x1)))) ov w' c s
          refine rl_gf rfl (zw_o (by omega) (zw_o (by omega) (zw_o (by omega) L0))) rfl rfl ?_
          show Zr sc 93 69 [zp a0, zj x1, zj x2] [zp (a0 + 3)] (((w.set (a0 + 4) (za (zsi bp r_13 x2))).set (a0 + 1) (za (zsi pl x2 (zgi pl x1)))).set (a0 + 2) (za (zsi sz x2 (zgi sz x1)))) ov w' c s
          refine Zr_st (q := (70, [zp a0, zj x1, zj x2], [zj x2, zp (a0 + 3)])) rfl rfl rfl ?_
          show Zr sc 93 70 [zp a0, zj x1, zj x2] [zj x2, zp (a0 + 3)] (((w.set (a0 + 4) (za (zsi bp r_13 x2))).set (a0 + 1) (za (zsi pl x2 (zgi pl x1)))).set (a0 + 2) (za (zsi sz x2 (zgi sz x1)))) ov w' c s
          refine Zr_st (q := (71, [zp a0, zj x1, zj x2], [zp a0, zj x2, zp (a0 + 3)])) rfl rfl rfl ?_
          show Zr sc 93 71 [zp a0, zj x1, zj x2] [zp a0, zj x2, zp (a0 + 3)] (((w.set (a0 + 4) (za (zsi bp r_13 x2))).set (a0 + 1) (za (zsi pl x2 (zgi pl x1)))).set (a0 + 2) (za (zsi sz x2 (zgi sz x1)))) ov w' c s
          refine rl_gf rfl (zw_o (by omega) (zw_o (by omega) (zw_o (by omega) L0))) rfl rfl ?_
          show Zr sc 93 74 [zp a0, zj x1, zj x2] [zp (a0 + 3), zj x2, zp (a0 + 3)] (((w.set (a0 + 4) (za (zsi bp r_13 x2))).set (a0 + 1) (za (zsi pl x2 (zgi pl x1)))).set (a0 + 2) (za (zsi sz x2 (zgi sz x1)))) ov w' c s
          refine Zr_st (q := (75, [zp a0, zj x1, zj x2], [zj x1, zp (a0 + 3), zj x2, zp (a0 + 3)])) rfl rfl rfl ?_
          show Zr sc 93 75 [zp a0, zj x1, zj x2] [zj x1, zp (a0 + 3), zj x2, zp (a0 + 3)] (((w.set (a0 + 4) (za (zsi bp r_13 x2))).set (a0 + 1) (za (zsi pl x2 (zgi pl x1)))).set (a0 + 2) (za (zsi sz x2 (zgi sz x1)))) ov w' c s
          obtain ⟨hi_19, h⟩ := h
          refine rl_ia rfl (zw_o (by omega) (zw_o (by omega) (zw_o (by omega) L3))) hi_19.1 hi_19.2.1 hi_19.2.2 ?_
          show Zr sc 93 76 [zp a0, zj x1, zj x2] [zj (zgi rm x1), zj x2, zp (a0 + 3)] (((w.set (a0 + 4) (za (zsi bp r_13 x2))).set (a0 + 1) (za (zsi pl x2 (zgi pl x1)))).set (a0 + 2) (za (zsi sz x2 (zgi sz x1)))) ov w' c s
          obtain ⟨hi_20, h⟩ := h
          refine rl_is rfl (zw_o (by omega) (zw_o (by omega) (zw_o (by omega) L3))) hi_20.1 hi_20.2.1 hi_20.2.2 ?_
          show Zr sc 93 77 [zp a0, zj x1, zj x2] [] ((((w.set (a0 + 4) (za (zsi bp r_13 x2))).set (a0 + 1) (za (zsi pl x2 (zgi pl x1)))).set (a0 + 2) (za (zsi sz x2 (zgi sz x1)))).set (a0 + 3) (za (zsi rm x2 (zgi rm x1)))) ov w' c s
          refine Zr_st (q := (78, [zp a0, zj x1, zj x2], [zp a0])) rfl rfl rfl ?_
          show Zr sc 93 78 [zp a0, zj x1, zj x2] [zp a0] ((((w.set (a0 + 4) (za (zsi bp r_13 x2))).set (a0 + 1) (za (zsi pl x2 (zgi pl x1)))).set (a0 + 2) (za (zsi sz x2 (zgi sz x1)))).set (a0 + 3) (za (zsi rm x2 (zgi rm x1)))) ov w' c s
          refine rl_gf rfl (zw_o (by omega) (zw_o (by omega) (zw_o (by omega) (zw_o (by omega) L0)))) rfl rfl ?_
          show Zr sc 93 81 [zp a0, zj x1, zj x2] [zp (a0 + 3)] ((((w.set (a0 + 4) (za (zsi bp r_13 x2))).set (a0 + 1) (za (zsi pl x2 (zgi pl x1)))).set (a0 + 2) (za (zsi sz x2 (zgi sz x1)))).set (a0 + 3) (za (zsi rm x2 (zgi rm x1)))) ov w' c s
          refine Zr_st (q := (82, [zp a0, zj x1, zj x2], [zj x1, zp (a0 + 3)])) rfl rfl rfl ?_
          show Zr sc 93 82 [zp a0, zj x1, zj x2] [zj x1, zp (a0 + 3)] ((((w.set (a0 + 4) (za (zsi bp r_13 x2))).set (a0 + 1) (za (zsi pl x2 (zgi pl x1)))).set (a0 + 2) (za (zsi sz x2 (zgi sz x1)))).set (a0 + 3) (za (zsi rm x2 (zgi rm x1)))) ov w' c s
          refine rl_ic rfl ?_
          show Zr sc 93 83 [zp a0, zj x1, zj x2] [zj 0, zj x1, zp (a0 + 3)] ((((w.set (a0 + 4) (za (zsi bp r_13 x2))).set (a0 + 1) (za (zsi pl x2 (zgi pl x1)))).set (a0 + 2) (za (zsi sz x2 (zgi sz x1)))).set (a0 + 3) (za (zsi rm x2 (zgi rm x1)))) ov w' c s
          obtain ⟨hi_21, h⟩ := h
          refine rl_is rfl (zw_s (zw_o (by omega) (zw_o (by omega) (zw_o (by omega) L3)))) hi_21.1 hi_21.2.1 hi_21.2.2 ?_
          show Zr sc 93 84 [zp a0, zj x1, zj x2] [] (((((w.set (a0 + 4) (za (zsi bp r_13 x2))).set (a0 + 1) (za (zsi pl x2 (zgi pl x1)))).set (a0 + 2) (za (zsi sz x2 (zgi sz x1)))).set (a0 + 3) (za (zsi rm x2 (zgi rm x1)))).set (a0 + 3) (za (zsi (zsi rm x2 (zgi rm x1)) x1 0))) ov w' c s
          obtain ⟨h1, h2, h3, h4⟩ := h
          subst h1; subst h2; subst h3; subst h4
          exact Zr_ret (ins := .return_) rfl rfl
        · replace h := h.2 hp
          show Zr sc 93 29 [zp a0, zj x1, zj x2] [] w ov w' c s
          obtain ⟨h1, h2, h3, h4⟩ := h
          subst h1; subst h2; subst h3; subst h4
          exact Zr_ret (ins := .return_) rfl rfl

-- HeapwrightLab$Fits.pack()V
set_option maxRecDepth 100000 in
theorem V94_0 {sc : List Value} {w w' : List zE} {ov : Option Value} {c s : Nat} {a0 : Nat} (h : Zr sc 94 4 [zp a0, zj 0, zj 0, zmk] [] w ov w' c s) : Zr sc 94 0 [zp a0, zmk, zmk, zmk] [] w ov w' c s := by
  refine rl_ic rfl ?_
  show Zr sc 94 1 [zp a0, zmk, zmk, zmk] [zj 0] w ov w' c s
  refine Zr_st (q := (2, [zp a0, zj 0, zmk, zmk], [])) rfl rfl rfl ?_
  show Zr sc 94 2 [zp a0, zj 0, zmk, zmk] [] w ov w' c s
  refine rl_ic rfl ?_
  show Zr sc 94 3 [zp a0, zj 0, zmk, zmk] [zj 0] w ov w' c s
  refine Zr_st (q := (4, [zp a0, zj 0, zj 0, zmk], [])) rfl rfl rfl ?_
  show Zr sc 94 4 [zp a0, zj 0, zj 0, zmk] [] w ov w' c s
  exact h
set_option maxRecDepth 100000 in
theorem V94_4 {sc : List Value} {w w' : List zE} {ov : Option Value} {c s : Nat} {a0 : Nat} {x1 : Int} {x2 : Int} {v3 : Value} {wy : Int} {st : Int} {hd : Int} {hn : Int} {sn : Int} {nm : Int} {ar : Int} {pk : Int} {dn : Int} (L0 : w[a0]? = some (zob 2 [zp (a0 + 1), zp (a0 + 6), zj wy, zj st, zj hd, zj hn, zj sn, zp (a0 + 9), zp (a0 + 10), zj nm, zj ar, zj pk, zj dn])) (h : (∃ fs_2 : List Value, w[(a0 + 1)]? = some (zob 0 fs_2) ∧ (∃ r_5 : Int, Zc sc 18 [zp (a0 + 1)] w (some (zj r_5)) w 0 0 ∧ ((zrg x2 ∧ zrg r_5) ∧ ((r_5 ≤ x2 → (∃ w_7 : List zE, Zc sc 81 [zp a0, zj x1] w none w_7 0 0 ∧ (∃ fs_10 : List Value, w_7[a0]? = some (zob 2 fs_10) ∧ (∃ w_11 : List zE, Zc sc 69 [zp a0] w_7 none w_11 0 0 ∧ (ov = none ∧ w' = w_11 ∧ c = 0 ∧ s = 0))))) ∧ (¬ (r_5 ≤ x2) → (∃ r_15 : Int, Zc sc 72 [zp (a0 + 1), zj x2] w (some (zj r_15)) w 0 0 ∧ (∃ r_18 : Int, Zc sc 9 [zp (a0 + 1), zj r_15] w (some (zj r_18)) w 0 0 ∧ ((zrg r_18 ∧ zrg x1) ∧ ((r_18 = x1 → (∃ r_22 : Int, Zc sc 13 [zp (a0 + 1), zj r_15] w (some (zj r_22)) w 0 0 ∧ Zr sc 94 4 [zp a0, zj (x1 + r_22), zj (x2 + 1), zj r_15] [] w ov w' c s)) ∧ (¬ (r_18 = x1) → (∃ w_23 : List zE, Zc sc 95 [zp (a0 + 1), zj r_15, zj x1] w none w_23 0 0 ∧ (∃ wy_26 : Int, ∃ st_27 : Int, ∃ hd_28 : Int, ∃ hn_29 : Int, ∃ sn_30 : Int, ∃ nm_31 : Int, ∃ ar_32 : Int, ∃ pk_33 : Int, ∃ dn_34 : Int, w_23[a0]? = some (zob 2 [zp (a0 + 1), zp (a0 + 6), zj wy_26, zj st_27, zj hd_28, zj hn_29, zj sn_30, zp (a0 + 9), zp (a0 + 10), zj nm_31, zj ar_32, zj pk_33, zj dn_34]) ∧ (∃ fs_36 : List Value, w_23[(a0 + 1)]? = some (zob 0 fs_36) ∧ (∃ r_39 : Int, Zc sc 13 [zp (a0 + 1), zj r_15] w_23 (some (zj r_39)) w_23 0 0 ∧ (∃ w_40 : List zE, Zc sc 64 [zp a0, zj 3, zj r_39] w_23 none w_40 0 0 ∧ (∃ wy_43 : Int, ∃ st_44 : Int, ∃ hd_45 : Int, ∃ hn_46 : Int, ∃ sn_47 : Int, ∃ nm_48 : Int, ∃ ar_49 : Int, ∃ pk_50 : Int, ∃ dn_51 : Int, w_40[a0]? = some (zob 2 [zp (a0 + 1), zp (a0 + 6), zj wy_43, zj st_44, zj hd_45, zj hn_46, zj sn_47, zp (a0 + 9), zp (a0 + 10), zj nm_48, zj ar_49, zj pk_50, zj dn_51]) ∧ (∃ fs_53 : List Value, w_40[(a0 + 1)]? = some (zob 0 fs_53) ∧ (∃ r_56 : Int, Zc sc 13 [zp (a0 + 1), zj r_15] w_40 (some (zj r_56)) w_40 0 0 ∧ Zr sc 94 4 [zp a0, zj (x1 + r_56), zj (x2 + 1), zj r_15] [] w_40 ov w' c s))))))))))))))))))) : Zr sc 94 4 [zp a0, zj x1, zj x2, v3] [] w ov w' c s := by
  refine Zr_st (q := (5, [zp a0, zj x1, zj x2, v3], [zj x2])) rfl rfl rfl ?_
  show Zr sc 94 5 [zp a0, zj x1, zj x2, v3] [zj x2] w ov w' c s
  refine Zr_st (q := (6, [zp a0, zj x1, zj x2, v3], [zp a0, zj x2])) rfl rfl rfl ?_
  show Zr sc 94 6 [zp a0, zj x1, zj x2, v3] [zp a0, zj x2] w ov w' c s
  refine rl_gf rfl L0 rfl rfl ?_
  show Zr sc 94 9 [zp a0, zj x1, zj x2, v3] [zp (a0 + 1), zj x2] w ov w' c s
  obtain ⟨fs_2, hl_1, h⟩ := h
  obtain ⟨r_5, hk_9, h⟩ := h
  refine rn_cal0 (ins := .invokevirtual 97) (rest := [zj x2]) rfl rfl rfl rfl (zinv_v (fs := _) hl_1 rfl rfl rfl rfl) rfl rfl hk_9 ?_
  show Zr sc 94 12 [zp a0, zj x1, zj x2, v3] [zj r_5, zj x2] w ov w' c s
  obtain ⟨hr_6, h⟩ := h
  refine Zr_br (p := r_5 ≤ x2) rfl rfl (zcmp_j (cnd := .ge) hr_6.1 hr_6.2) (fun hp => ?_) (fun hp => ?_)
  · replace h := h.1 hp
    show Zr sc 94 75 [zp a0, zj x1, zj x2, v3] [] w ov w' c s
    refine Zr_st (q := (76, [zp a0, zj x1, zj x2, v3], [zp a0])) rfl rfl rfl ?_
    show Zr sc 94 76 [zp a0, zj x1, zj x2, v3] [zp a0] w ov w' c s
    refine Zr_st (q := (77, [zp a0, zj x1, zj x2, v3], [zj x1, zp a0])) rfl rfl rfl ?_
    show Zr sc 94 77 [zp a0, zj x1, zj x2, v3] [zj x1, zp a0] w ov w' c s
    obtain ⟨w_7, hk_8, h⟩ := h
    refine rn_cal0 (ins := .invokevirtual 105) (rest := []) rfl rfl rfl rfl (zinv_v (fs := _) L0 rfl rfl rfl rfl) rfl rfl hk_8 ?_
    show Zr sc 94 80 [zp a0, zj x1, zj x2, v3] [] w_7 ov w' c s
    refine Zr_st (q := (81, [zp a0, zj x1, zj x2, v3], [zp a0])) rfl rfl rfl ?_
    show Zr sc 94 81 [zp a0, zj x1, zj x2, v3] [zp a0] w_7 ov w' c s
    obtain ⟨fs_10, hl_9, h⟩ := h
    obtain ⟨w_11, hk_12, h⟩ := h
    refine rn_cal0 (ins := .invokevirtual 84) (rest := []) rfl rfl rfl rfl (zinv_v (fs := _) hl_9 rfl rfl rfl rfl) rfl rfl hk_12 ?_
    show Zr sc 94 84 [zp a0, zj x1, zj x2, v3] [] w_11 ov w' c s
    obtain ⟨h1, h2, h3, h4⟩ := h
    subst h1; subst h2; subst h3; subst h4
    exact Zr_ret (ins := .return_) rfl rfl
  · replace h := h.2 hp
    show Zr sc 94 15 [zp a0, zj x1, zj x2, v3] [] w ov w' c s
    refine Zr_st (q := (16, [zp a0, zj x1, zj x2, v3], [zp a0])) rfl rfl rfl ?_
    show Zr sc 94 16 [zp a0, zj x1, zj x2, v3] [zp a0] w ov w' c s
    refine rl_gf rfl L0 rfl rfl ?_
    show Zr sc 94 19 [zp a0, zj x1, zj x2, v3] [zp (a0 + 1)] w ov w' c s
    refine Zr_st (q := (20, [zp a0, zj x1, zj x2, v3], [zj x2, zp (a0 + 1)])) rfl rfl rfl ?_
    show Zr sc 94 20 [zp a0, zj x1, zj x2, v3] [zj x2, zp (a0 + 1)] w ov w' c s
    obtain ⟨r_15, hk_9, h⟩ := h
    refine rn_cal0 (ins := .invokevirtual 98) (rest := []) rfl rfl rfl rfl (zinv_v (fs := _) hl_1 rfl rfl rfl rfl) rfl rfl hk_9 ?_
    show Zr sc 94 23 [zp a0, zj x1, zj x2, v3] [zj r_15] w ov w' c s
    refine Zr_st (q := (24, [zp a0, zj x1, zj x2, zj r_15], [])) rfl rfl rfl ?_
    show Zr sc 94 24 [zp a0, zj x1, zj x2, zj r_15] [] w ov w' c s
    refine Zr_st (q := (25, [zp a0, zj x1, zj x2, zj r_15], [zp a0])) rfl rfl rfl ?_
    show Zr sc 94 25 [zp a0, zj x1, zj x2, zj r_15] [zp a0] w ov w' c s
    refine rl_gf rfl L0 rfl rfl ?_
    show Zr sc 94 28 [zp a0, zj x1, zj x2, zj r_15] [zp (a0 + 1)] w ov w' c s
    refine Zr_st (q := (29, [zp a0, zj x1, zj x2, zj r_15], [zj r_15, zp (a0 + 1)])) rfl rfl rfl ?_
    show Zr sc 94 29 [zp a0, zj x1, zj x2, zj r_15] [zj r_15, zp (a0 + 1)] w ov w' c s
    obtain ⟨r_18, hk_9, h⟩ := h
    refine rn_cal0 (ins := .invokevirtual 101) (rest := []) rfl rfl rfl rfl (zinv_v (fs := _) hl_1 rfl rfl rfl rfl) rfl rfl hk_9 ?_
    show Zr sc 94 32 [zp a0, zj x1, zj x2, zj r_15] [zj r_18] w ov w' c s
    refine Zr_st (q := (33, [zp a0, zj x1, zj x2, zj r_15], [zj x1, zj r_18])) rfl rfl rfl ?_
    show Zr sc 94 33 [zp a0, zj x1, zj x2, zj r_15] [zj x1, zj r_18] w ov w' c s
    obtain ⟨hr_19, h⟩ := h
    refine Zr_br (p := r_18 = x1) rfl rfl (zcmp_j (cnd := .eq) hr_19.1 hr_19.2) (fun hp => ?_) (fun hp => ?_)
    · replace h := h.1 hp
      show Zr sc 94 58 [zp a0, zj x1, zj x2, zj r_15] [] w ov w' c s
      refine Zr_st (q := (59, [zp a0, zj x1, zj x2, zj r_15], [zj x1])) rfl rfl rfl ?_
      show Zr sc 94 59 [zp a0, zj x1, zj x2, zj r_15] [zj x1] w ov w' c s
      refine Zr_st (q := (60, [zp a0, zj x1, zj x2, zj r_15], [zp a0, zj x1])) rfl rfl rfl ?_
      show Zr sc 94 60 [zp a0, zj x1, zj x2, zj r_15] [zp a0, zj x1] w ov w' c s
      refine rl_gf rfl L0 rfl rfl ?_
      show Zr sc 94 63 [zp a0, zj x1, zj x2, zj r_15] [zp (a0 + 1), zj x1] w ov w' c s
      refine Zr_st (q := (64, [zp a0, zj x1, zj x2, zj r_15], [zj r_15, zp (a0 + 1), zj x1])) rfl rfl rfl ?_
      show Zr sc 94 64 [zp a0, zj x1, zj x2, zj r_15] [zj r_15, zp (a0 + 1), zj x1] w ov w' c s
      obtain ⟨r_22, hk_9, h⟩ := h
      refine rn_cal0 (ins := .invokevirtual 78) (rest := [zj x1]) rfl rfl rfl rfl (zinv_v (fs := _) hl_1 rfl rfl rfl rfl) rfl rfl hk_9 ?_
      show Zr sc 94 67 [zp a0, zj x1, zj x2, zj r_15] [zj r_22, zj x1] w ov w' c s
      refine rl_add rfl ?_
      show Zr sc 94 68 [zp a0, zj x1, zj x2, zj r_15] [zj (x1 + r_22)] w ov w' c s
      refine Zr_st (q := (69, [zp a0, zj (x1 + r_22), zj x2, zj r_15], [])) rfl rfl rfl ?_
      show Zr sc 94 69 [zp a0, zj (x1 + r_22), zj x2, zj r_15] [] w ov w' c s
      refine rl_inc rfl rfl rfl rfl ?_
      show Zr sc 94 72 [zp a0, zj (x1 + r_22), zj (x2 + 1), zj r_15] [] w ov w' c s
      refine Zr_st (q := (4, [zp a0, zj (x1 + r_22), zj (x2 + 1), zj r_15], [])) rfl rfl rfl ?_
      show Zr sc 94 4 [zp a0, zj (x1 + r_22), zj (x2 + 1), zj r_15] [] w ov w' c s
      exact h
    · replace h := h.2 hp
      show Zr sc 94 36 [zp a0, zj x1, zj x2, zj r_15] [] w ov w' c s
      refine Zr_st (q := (37, [zp a0, zj x1, zj x2, zj r_15], [zp a0])) rfl rfl rfl ?_
      show Zr sc 94 37 [zp a0, zj x1, zj x2, zj r_15] [zp a0] w ov w' c s
      refine rl_gf rfl L0 rfl rfl ?_
      show Zr sc 94 40 [zp a0, zj x1, zj x2, zj r_15] [zp (a0 + 1)] w ov w' c s
      refine Zr_st (q := (41, [zp a0, zj x1, zj x2, zj r_15], [zj r_15, zp (a0 + 1)])) rfl rfl rfl ?_
      show Zr sc 94 41 [zp a0, zj x1, zj x2, zj r_15] [zj r_15, zp (a0 + 1)] w ov w' c s
      refine Zr_st (q := (42, [zp a0, zj x1, zj x2, zj r_15], [zj x1, zj r_15, zp (a0 + 1)])) rfl rfl rfl ?_
      show Zr sc 94 42 [zp a0, zj x1, zj x2, zj r_15] [zj x1, zj r_15, zp (a0 + 1)] w ov w' c s
      obtain ⟨w_23, hk_24, h⟩ := h
      refine rn_cal0 (ins := .invokevirtual 102) (rest := []) rfl rfl rfl rfl (zinv_v (fs := _) hl_1 rfl rfl rfl rfl) rfl rfl hk_24 ?_
      show Zr sc 94 45 [zp a0, zj x1, zj x2, zj r_15] [] w_23 ov w' c s
      refine Zr_st (q := (46, [zp a0, zj x1, zj x2, zj r_15], [zp a0])) rfl rfl rfl ?_
      show Zr sc 94 46 [zp a0, zj x1, zj x2, zj r_15] [zp a0] w_23 ov w' c s
      refine rl_ic rfl ?_
      show Zr sc 94 47 [zp a0, zj x1, zj x2, zj r_15] [zj 3, zp a0] w_23 ov w' c s
      refine Zr_st (q := (48, [zp a0, zj x1, zj x2, zj r_15], [zp a0, zj 3, zp a0])) rfl rfl rfl ?_
      show Zr sc 94 48 [zp a0, zj x1, zj x2, zj r_15] [zp a0, zj 3, zp a0] w_23 ov w' c s
      obtain ⟨wy_26, st_27, hd_28, hn_29, sn_30, nm_31, ar_32, pk_33, dn_34, hw_25, h⟩ := h
      refine rl_gf rfl hw_25 rfl rfl ?_
      show Zr sc 94 51 [zp a0, zj x1, zj x2, zj r_15] [zp (a0 + 1), zj 3, zp a0] w_23 ov w' c s
      refine Zr_st (q := (52, [zp a0, zj x1, zj x2, zj r_15], [zj r_15, zp (a0 + 1), zj 3, zp a0])) rfl rfl rfl ?_
      show Zr sc 94 52 [zp a0, zj x1, zj x2, zj r_15] [zj r_15, zp (a0 + 1), zj 3, zp a0] w_23 ov w' c s
      obtain ⟨fs_36, hl_35, h⟩ := h
      obtain ⟨r_39, hk_9, h⟩ := h
      refine rn_cal0 (ins := .invokevirtual 78) (rest := [zj 3, zp a0]) rfl rfl rfl rfl (zinv_v (fs := _) hl_35 rfl rfl rfl rfl) rfl rfl hk_9 ?_
      show Zr sc 94 55 [zp a0, zj x1, zj x2, zj r_15] [zj r_39, zj 3, zp a0] w_23 ov w' c s
      obtain ⟨w_40, hk_41, h⟩ := h
      refine rn_cal0 (ins := .invokevirtual 91) (rest := []) rfl rfl rfl rfl (zinv_v (fs := _) hw_25 rfl rfl rfl rfl) rfl rfl hk_41 ?_
      show Zr sc 94 58 [zp a0, zj x1, zj x2, zj r_15] [] w_40 ov w' c s
      refine Zr_st (q := (59, [zp a0, zj x1, zj x2, zj r_15], [zj x1])) rfl rfl rfl ?_
      show Zr sc 94 59 [zp a0, zj x1, zj x2, zj r_15] [zj x1] w_40 ov w' c s
      refine Zr_st (q := (60, [zp a0, zj x1, zj x2, zj r_15], [zp a0, zj x1])) rfl rfl rfl ?_
      show Zr sc 94 60 [zp a0, zj x1, zj x2, zj r_15] [zp a0, zj x1] w_40 ov w' c s
      obtain ⟨wy_43, st_44, hd_45, hn_46, sn_47, nm_48, ar_49, pk_50, dn_51, hw_42, h⟩ := h
      refine rl_gf rfl hw_42 rfl rfl ?_
      show Zr sc 94 63 [zp a0, zj x1, zj x2, zj r_15] [zp (a0 + 1), zj x1] w_40 ov w' c s
      refine Zr_st (q := (64, [zp a0, zj x1, zj x2, zj r_15], [zj r_15, zp (a0 + 1), zj x1])) rfl rfl rfl ?_
      show Zr sc 94 64 [zp a0, zj x1, zj x2, zj r_15] [zj r_15, zp (a0 + 1), zj x1] w_40 ov w' c s
      obtain ⟨fs_53, hl_52, h⟩ := h
      obtain ⟨r_56, hk_9, h⟩ := h
      refine rn_cal0 (ins := .invokevirtual 78) (rest := [zj x1]) rfl rfl rfl rfl (zinv_v (fs := _) hl_52 rfl rfl rfl rfl) rfl rfl hk_9 ?_
      show Zr sc 94 67 [zp a0, zj x1, zj x2, zj r_15] [zj r_56, zj x1] w_40 ov w' c s
      refine rl_add rfl ?_
      show Zr sc 94 68 [zp a0, zj x1, zj x2, zj r_15] [zj (x1 + r_56)] w_40 ov w' c s
      refine Zr_st (q := (69, [zp a0, zj (x1 + r_56), zj x2, zj r_15], [])) rfl rfl rfl ?_
      show Zr sc 94 69 [zp a0, zj (x1 + r_56), zj x2, zj r_15] [] w_40 ov w' c s
      refine rl_inc rfl rfl rfl rfl ?_
      show Zr sc 94 72 [zp a0, zj (x1 + r_56), zj (x2 + 1), zj r_15] [] w_40 ov w' c s
      refine Zr_st (q := (4, [zp a0, zj (x1 + r_56), zj (x2 + 1), zj r_15], [])) rfl rfl rfl ?_
      show Zr sc 94 4 [zp a0, zj (x1 + r_56), zj (x2 + 1), zj r_15] [] w_40 ov w' c s
      exact h

-- HeapwrightLab$Blocks.setPlace(II)V
set_option maxRecDepth 100000 in
theorem V95_0 {sc : List Value} {w w' : List zE} {ov : Option Value} {c s : Nat} {a0 : Nat} {x1 : Int} {x2 : Int} {ct : Int} {rt : Int} {pl : List Int} (L0 : w[a0]? = some (zob 0 [zp (a0 + 1), zp (a0 + 2), zp (a0 + 3), zp (a0 + 4), zj ct, zj rt])) (L1 : w[(a0 + 1)]? = some (za pl)) (h : (∃ r_3 : Int, Zc sc 7 [zp a0, zj x1] w (some (zj r_3)) w 0 0 ∧ ((zrg r_3) ∧ ((r_3 = 0 → (ov = none ∧ w' = w ∧ c = 0 ∧ s = 0)) ∧ (¬ (r_3 = 0) → (((0 : Int) ≤ x1 ∧ x1 < (pl.length : Int) ∧ x1 ≤ (2147483647 : Int)) ∧ (ov = none ∧ w' = (w.set (a0 + 1) (za (zsi pl x1 x2))) ∧ c = 0 ∧ s = 0))))))) : Zr sc 95 0 [zp a0, zj x1, zj x2] [] w ov w' c s := by
  refine Zr_st (q := (1, [zp a0, zj x1, zj x2], [zp a0])) rfl rfl rfl ?_
  show Zr sc 95 1 [zp a0, zj x1, zj x2] [zp a0] w ov w' c s
  refine Zr_st (q := (2, [zp a0, zj x1, zj x2], [zj x1, zp a0])) rfl rfl rfl ?_
  show Zr sc 95 2 [zp a0, zj x1, zj x2] [zj x1, zp a0] w ov w' c s
  obtain ⟨r_3, hk_9, h⟩ := h
  refine rn_cal0 (ins := .invokevirtual 37) (rest := []) rfl rfl rfl rfl (zinv_v (fs := _) L0 rfl rfl rfl rfl) rfl rfl hk_9 ?_
  show Zr sc 95 5 [zp a0, zj x1, zj x2] [zj r_3] w ov w' c s
  obtain ⟨hr_4, h⟩ := h
  refine Zr_b0 (p := r_3 = 0) rfl rfl (zcmp_0 (cnd := .eq) hr_4) (fun hp => ?_) (fun hp => ?_)
  · replace h := h.1 hp
    show Zr sc 95 15 [zp a0, zj x1, zj x2] [] w ov w' c s
    obtain ⟨h1, h2, h3, h4⟩ := h
    subst h1; subst h2; subst h3; subst h4
    exact Zr_ret (ins := .return_) rfl rfl
  · replace h := h.2 hp
    show Zr sc 95 8 [zp a0, zj x1, zj x2] [] w ov w' c s
    refine Zr_st (q := (9, [zp a0, zj x1, zj x2], [zp a0])) rfl rfl rfl ?_
    show Zr sc 95 9 [zp a0, zj x1, zj x2] [zp a0] w ov w' c s
    refine rl_gf rfl L0 rfl rfl ?_
    show Zr sc 95 12 [zp a0, zj x1, zj x2] [zp (a0 + 1)] w ov w' c s
    refine Zr_st (q := (13, [zp a0, zj x1, zj x2], [zj x1, zp (a0 + 1)])) rfl rfl rfl ?_
    show Zr sc 95 13 [zp a0, zj x1, zj x2] [zj x1, zp (a0 + 1)] w ov w' c s
    refine Zr_st (q := (14, [zp a0, zj x1, zj x2], [zj x2, zj x1, zp (a0 + 1)])) rfl rfl rfl ?_
    show Zr sc 95 14 [zp a0, zj x1, zj x2] [zj x2, zj x1, zp (a0 + 1)] w ov w' c s
    obtain ⟨hi_5, h⟩ := h
    refine rl_is rfl L1 hi_5.1 hi_5.2.1 hi_5.2.2 ?_
    show Zr sc 95 15 [zp a0, zj x1, zj x2] [] (w.set (a0 + 1) (za (zsi pl x1 x2))) ov w' c s
    obtain ⟨h1, h2, h3, h4⟩ := h
    subst h1; subst h2; subst h3; subst h4
    exact Zr_ret (ins := .return_) rfl rfl

-- HeapwrightLab$Memory.pack()V
set_option maxRecDepth 100000 in
theorem V96_0_1 {sc : List Value} {w w' : List zE} {ov : Option Value} {c s : Nat} {a0 : Nat} (h : (ov = none ∧ w' = w ∧ c = 0 ∧ s = 0)) : Zr sc 96 0 [zp a0] [] w ov w' c s := by
  obtain ⟨h1, h2, h3, h4⟩ := h
  subst h1; subst h2; subst h3; subst h4
  exact Zr_ret (ins := .return_) rfl rfl

-- HeapwrightLab$Memory.pack()V
set_option maxRecDepth 100000 in
theorem V96_0_4 {sc : List Value} {w w' : List zE} {ov : Option Value} {c s : Nat} {a0 : Nat} (h : (ov = none ∧ w' = w ∧ c = 0 ∧ s = 0)) : Zr sc 96 0 [zp a0] [] w ov w' c s := by
  obtain ⟨h1, h2, h3, h4⟩ := h
  subst h1; subst h2; subst h3; subst h4
  exact Zr_ret (ins := .return_) rfl rfl

-- HeapwrightLab$Memory.leaveArena()V
set_option maxRecDepth 100000 in
theorem V97_0_1 {sc : List Value} {w w' : List zE} {ov : Option Value} {c s : Nat} {a0 : Nat} {wy : Int} {st : Int} {hd : Int} {hn : Int} {sn : Int} {nm : Int} {ar : Int} {pk : Int} {dn : Int} (L0 : w[a0]? = some (zob 1 [zp (a0 + 1), zp (a0 + 6), zj wy, zj st, zj hd, zj hn, zj sn, zp (a0 + 9), zp (a0 + 10), zj nm, zj ar, zj pk, zj dn])) (h : Zr sc 97 7 [zp a0, zj (nm - 1)] [] w ov w' c s) : Zr sc 97 0 [zp a0, zmk] [] w ov w' c s := by
  refine Zr_st (q := (1, [zp a0, zmk], [zp a0])) rfl rfl rfl ?_
  show Zr sc 97 1 [zp a0, zmk] [zp a0] w ov w' c s
  refine rl_gf rfl L0 rfl rfl ?_
  show Zr sc 97 4 [zp a0, zmk] [zj nm] w ov w' c s
  refine rl_ic rfl ?_
  show Zr sc 97 5 [zp a0, zmk] [zj 1, zj nm] w ov w' c s
  refine rl_sub rfl ?_
  show Zr sc 97 6 [zp a0, zmk] [zj (nm - 1)] w ov w' c s
  refine Zr_st (q := (7, [zp a0, zj (nm - 1)], [])) rfl rfl rfl ?_
  show Zr sc 97 7 [zp a0, zj (nm - 1)] [] w ov w' c s
  exact h
set_option maxRecDepth 100000 in
theorem V97_7_1 {sc : List Value} {w w' : List zE} {ov : Option Value} {c s : Nat} {a0 : Nat} {x1 : Int} {wy : Int} {st : Int} {hd : Int} {hn : Int} {sn : Int} {nm : Int} {ar : Int} {pk : Int} {dn : Int} {dp : List Int} (L0 : w[a0]? = some (zob 1 [zp (a0 + 1), zp (a0 + 6), zj wy, zj st, zj hd, zj hn, zj sn, zp (a0 + 9), zp (a0 + 10), zj nm, zj ar, zj pk, zj dn])) (L10 : w[(a0 + 10)]? = some (za dp)) (h : ((zrg x1) ∧ ((x1 < 0 → (ov = none ∧ w' = (w.set a0 (zob 1 [zp (a0 + 1), zp (a0 + 6), zj wy, zj st, zj hd, zj hn, zj sn, zp (a0 + 9), zp (a0 + 10), zj nm, zj (ar - 1), zj pk, zj dn])) ∧ c = 0 ∧ s = 0)) ∧ (¬ (x1 < 0) → (((0 : Int) ≤ x1 ∧ x1 < (dp.length : Int) ∧ x1 ≤ (2147483647 : Int)) ∧ ((zrg (zgi dp x1) ∧ zrg ar) ∧ (((zgi dp x1) ≠ ar → Zr sc 97 7 [zp a0, zj (x1 + (-1))] [] w ov w' c s) ∧ (¬ ((zgi dp x1) ≠ ar) → (∃ w_4 : List zE, Zc sc 83 [zp a0, zj x1] w none w_4 0 0 ∧ Zr sc 97 7 [zp a0, zj (x1 + (-1))] [] w_4 ov w' c s))))))))) : Zr sc 97 7 [zp a0, zj x1] [] w ov w' c s := by
  refine Zr_st (q := (8, [zp a0, zj x1], [zj x1])) rfl rfl rfl ?_
  show Zr sc 97 8 [zp a0, zj x1] [zj x1] w ov w' c s
  obtain ⟨hr_1, h⟩ := h
  refine Zr_b0 (p := x1 < 0) rfl rfl (zcmp_0 (cnd := .lt) hr_1) (fun hp => ?_) (fun hp => ?_)
  · replace h := h.1 hp
    show Zr sc 97 35 [zp a0, zj x1] [] w ov w' c s
    refine Zr_st (q := (36, [zp a0, zj x1], [zp a0])) rfl rfl rfl ?_
    show Zr sc 97 36 [zp a0, zj x1] [zp a0] w ov w' c s
    refine Zr_st (q := (37, [zp a0, zj x1], [zp a0, zp a0])) rfl rfl rfl ?_
    show Zr sc 97 37 [zp a0, zj x1] [zp a0, zp a0] w ov w' c s
    refine rl_gf rfl L0 rfl rfl ?_
    show Zr sc 97 40 [zp a0, zj x1] [zj ar, zp a0] w ov w' c s
    refine rl_ic rfl ?_
    show Zr sc 97 41 [zp a0, zj x1] [zj 1, zj ar, zp a0] w ov w' c s
    refine rl_sub rfl ?_
    show Zr sc 97 42 [zp a0, zj x1] [zj (ar - 1), zp a0] w ov w' c s
    refine rl_pf rfl L0 rfl rfl rfl ?_
    show Zr sc 97 45 [zp a0, zj x1] [] (w.set a0 (zob 1 [zp (a0 + 1), zp (a0 + 6), zj wy, zj st, zj hd, zj hn, zj sn, zp (a0 + 9), zp (a0 + 10), zj nm, zj (ar - 1), zj pk, zj dn])) ov w' c s
    obtain ⟨h1, h2, h3, h4⟩ := h
    subst h1; subst h2; subst h3; subst h4
    exact Zr_ret (ins := .return_) rfl rfl
  · replace h := h.2 hp
    show Zr sc 97 11 [zp a0, zj x1] [] w ov w' c s
    refine Zr_st (q := (12, [zp a0, zj x1], [zp a0])) rfl rfl rfl ?_
    show Zr sc 97 12 [zp a0, zj x1] [zp a0] w ov w' c s
    refine rl_gf rfl L0 rfl rfl ?_
    show Zr sc 97 15 [zp a0, zj x1] [zp (a0 + 10)] w ov w' c s
    refine Zr_st (q := (16, [zp a0, zj x1], [zj x1, zp (a0 + 10)])) rfl rfl rfl ?_
    show Zr sc 97 16 [zp a0, zj x1] [zj x1, zp (a0 + 10)] w ov w' c s
    obtain ⟨hi_2, h⟩ := h
    refine rl_ia rfl L10 hi_2.1 hi_2.2.1 hi_2.2.2 ?_
    show Zr sc 97 17 [zp a0, zj x1] [zj (zgi dp x1)] w ov w' c s
    refine Zr_st (q := (18, [zp a0, zj x1], [zp a0, zj (zgi dp x1)])) rfl rfl rfl ?_
    show Zr sc 97 18 [zp a0, zj x1] [zp a0, zj (zgi dp x1)] w ov w' c s
    refine rl_gf rfl L0 rfl rfl ?_
    show Zr sc 97 21 [zp a0, zj x1] [zj ar, zj (zgi dp x1)] w ov w' c s
    obtain ⟨hr_3, h⟩ := h
    refine Zr_br (p := (zgi dp x1) ≠ ar) rfl rfl (zcmp_j (cnd := .ne) hr_3.1 hr_3.2) (fun hp => ?_) (fun hp => ?_)
    · replace h := h.1 hp
      show Zr sc 97 29 [zp a0, zj x1] [] w ov w' c s
      refine rl_inc rfl rfl rfl rfl ?_
      show Zr sc 97 32 [zp a0, zj (x1 + (-1))] [] w ov w' c s
      refine Zr_st (q := (7, [zp a0, zj (x1 + (-1))], [])) rfl rfl rfl ?_
      show Zr sc 97 7 [zp a0, zj (x1 + (-1))] [] w ov w' c s
      exact h
    · replace h := h.2 hp
      show Zr sc 97 24 [zp a0, zj x1] [] w ov w' c s
      refine Zr_st (q := (25, [zp a0, zj x1], [zp a0])) rfl rfl rfl ?_
      show Zr sc 97 25 [zp a0, zj x1] [zp a0] w ov w' c s
      refine Zr_st (q := (26, [zp a0, zj x1], [zj x1, zp a0])) rfl rfl rfl ?_
      show Zr sc 97 26 [zp a0, zj x1] [zj x1, zp a0] w ov w' c s
      obtain ⟨w_4, hk_5, h⟩ := h
      refine rn_cal0 (ins := .invokevirtual 97) (rest := []) rfl rfl rfl rfl (zinv_v (fs := _) L0 rfl rfl rfl rfl) rfl rfl hk_5 ?_
      show Zr sc 97 29 [zp a0, zj x1] [] w_4 ov w' c s
      refine rl_inc rfl rfl rfl rfl ?_
      show Zr sc 97 32 [zp a0, zj (x1 + (-1))] [] w_4 ov w' c s
      refine Zr_st (q := (7, [zp a0, zj (x1 + (-1))], [])) rfl rfl rfl ?_
      show Zr sc 97 7 [zp a0, zj (x1 + (-1))] [] w_4 ov w' c s
      exact h

-- HeapwrightLab$Memory.leaveArena()V
set_option maxRecDepth 100000 in
theorem V97_0_2 {sc : List Value} {w w' : List zE} {ov : Option Value} {c s : Nat} {a0 : Nat} {wy : Int} {st : Int} {hd : Int} {hn : Int} {sn : Int} {nm : Int} {ar : Int} {pk : Int} {dn : Int} (L0 : w[a0]? = some (zob 2 [zp (a0 + 1), zp (a0 + 6), zj wy, zj st, zj hd, zj hn, zj sn, zp (a0 + 9), zp (a0 + 10), zj nm, zj ar, zj pk, zj dn])) (h : Zr sc 97 7 [zp a0, zj (nm - 1)] [] w ov w' c s) : Zr sc 97 0 [zp a0, zmk] [] w ov w' c s := by
  refine Zr_st (q := (1, [zp a0, zmk], [zp a0])) rfl rfl rfl ?_
  show Zr sc 97 1 [zp a0, zmk] [zp a0] w ov w' c s
  refine rl_gf rfl L0 rfl rfl ?_
  show Zr sc 97 4 [zp a0, zmk] [zj nm] w ov w' c s
  refine rl_ic rfl ?_
  show Zr sc 97 5 [zp a0, zmk] [zj 1, zj nm] w ov w' c s
  refine rl_sub rfl ?_
  show Zr sc 97 6 [zp a0, zmk] [zj (nm - 1)] w ov w' c s
  refine Zr_st (q := (7, [zp a0, zj (nm - 1)], [])) rfl rfl rfl ?_
  show Zr sc 97 7 [zp a0, zj (nm - 1)] [] w ov w' c s
  exact h
set_option maxRecDepth 100000 in
theorem V97_7_2 {sc : List Value} {w w' : List zE} {ov : Option Value} {c s : Nat} {a0 : Nat} {x1 : Int} {wy : Int} {st : Int} {hd : Int} {hn : Int} {sn : Int} {nm : Int} {ar : Int} {pk : Int} {dn : Int} {dp : List Int} (L0 : w[a0]? = some (zob 2 [zp (a0 + 1), zp (a0 + 6), zj wy, zj st, zj hd, zj hn, zj sn, zp (a0 + 9), zp (a0 + 10), zj nm, zj ar, zj pk, zj dn])) (L10 : w[(a0 + 10)]? = some (za dp)) (h : ((zrg x1) ∧ ((x1 < 0 → (ov = none ∧ w' = (w.set a0 (zob 2 [zp (a0 + 1), zp (a0 + 6), zj wy, zj st, zj hd, zj hn, zj sn, zp (a0 + 9), zp (a0 + 10), zj nm, zj (ar - 1), zj pk, zj dn])) ∧ c = 0 ∧ s = 0)) ∧ (¬ (x1 < 0) → (((0 : Int) ≤ x1 ∧ x1 < (dp.length : Int) ∧ x1 ≤ (2147483647 : Int)) ∧ ((zrg (zgi dp x1) ∧ zrg ar) ∧ (((zgi dp x1) ≠ ar → Zr sc 97 7 [zp a0, zj (x1 + (-1))] [] w ov w' c s) ∧ (¬ ((zgi dp x1) ≠ ar) → (∃ w_4 : List zE, Zc sc 83 [zp a0, zj x1] w none w_4 0 0 ∧ Zr sc 97 7 [zp a0, zj (x1 + (-1))] [] w_4 ov w' c s))))))))) : Zr sc 97 7 [zp a0, zj x1] [] w ov w' c s := by
  refine Zr_st (q := (8, [zp a0, zj x1], [zj x1])) rfl rfl rfl ?_
  show Zr sc 97 8 [zp a0, zj x1] [zj x1] w ov w' c s
  obtain ⟨hr_1, h⟩ := h
  refine Zr_b0 (p := x1 < 0) rfl rfl (zcmp_0 (cnd := .lt) hr_1) (fun hp => ?_) (fun hp => ?_)
  · replace h := h.1 hp
    show Zr sc 97 35 [zp a0, zj x1] [] w ov w' c s
    refine Zr_st (q := (36, [zp a0, zj x1], [zp a0])) rfl rfl rfl ?_
    show Zr sc 97 36 [zp a0, zj x1] [zp a0] w ov w' c s
    refine Zr_st (q := (37, [zp a0, zj x1], [zp a0, zp a0])) rfl rfl rfl ?_
    show Zr sc 97 37 [zp a0, zj x1] [zp a0, zp a0] w ov w' c s
    refine rl_gf rfl L0 rfl rfl ?_
    show Zr sc 97 40 [zp a0, zj x1] [zj ar, zp a0] w ov w' c s
    refine rl_ic rfl ?_
    show Zr sc 97 41 [zp a0, zj x1] [zj 1, zj ar, zp a0] w ov w' c s
    refine rl_sub rfl ?_
    show Zr sc 97 42 [zp a0, zj x1] [zj (ar - 1), zp a0] w ov w' c s
    refine rl_pf rfl L0 rfl rfl rfl ?_
    show Zr sc 97 45 [zp a0, zj x1] [] (w.set a0 (zob 2 [zp (a0 + 1), zp (a0 + 6), zj wy, zj st, zj hd, zj hn, zj sn, zp (a0 + 9), zp (a0 + 10), zj nm, zj (ar - 1), zj pk, zj dn])) ov w' c s
    obtain ⟨h1, h2, h3, h4⟩ := h
    subst h1; subst h2; subst h3; subst h4
    exact Zr_ret (ins := .return_) rfl rfl
  · replace h := h.2 hp
    show Zr sc 97 11 [zp a0, zj x1] [] w ov w' c s
    refine Zr_st (q := (12, [zp a0, zj x1], [zp a0])) rfl rfl rfl ?_
    show Zr sc 97 12 [zp a0, zj x1] [zp a0] w ov w' c s
    refine rl_gf rfl L0 rfl rfl ?_
    show Zr sc 97 15 [zp a0, zj x1] [zp (a0 + 10)] w ov w' c s
    refine Zr_st (q := (16, [zp a0, zj x1], [zj x1, zp (a0 + 10)])) rfl rfl rfl ?_
    show Zr sc 97 16 [zp a0, zj x1] [zj x1, zp (a0 + 10)] w ov w' c s
    obtain ⟨hi_2, h⟩ := h
    refine rl_ia rfl L10 hi_2.1 hi_2.2.1 hi_2.2.2 ?_
    show Zr sc 97 17 [zp a0, zj x1] [zj (zgi dp x1)] w ov w' c s
    refine Zr_st (q := (18, [zp a0, zj x1], [zp a0, zj (zgi dp x1)])) rfl rfl rfl ?_
    show Zr sc 97 18 [zp a0, zj x1] [zp a0, zj (zgi dp x1)] w ov w' c s
    refine rl_gf rfl L0 rfl rfl ?_
    show Zr sc 97 21 [zp a0, zj x1] [zj ar, zj (zgi dp x1)] w ov w' c s
    obtain ⟨hr_3, h⟩ := h
    refine Zr_br (p := (zgi dp x1) ≠ ar) rfl rfl (zcmp_j (cnd := .ne) hr_3.1 hr_3.2) (fun hp => ?_) (fun hp => ?_)
    · replace h := h.1 hp
      show Zr sc 97 29 [zp a0, zj x1] [] w ov w' c s
      refine rl_inc rfl rfl rfl rfl ?_
      show Zr sc 97 32 [zp a0, zj (x1 + (-1))] [] w ov w' c s
      refine Zr_st (q := (7, [zp a0, zj (x1 + (-1))], [])) rfl rfl rfl ?_
      show Zr sc 97 7 [zp a0, zj (x1 + (-1))] [] w ov w' c s
      exact h
    · replace h := h.2 hp
      show Zr sc 97 24 [zp a0, zj x1] [] w ov w' c s
      refine Zr_st (q := (25, [zp a0, zj x1], [zp a0])) rfl rfl rfl ?_
      show Zr sc 97 25 [zp a0, zj x1] [zp a0] w ov w' c s
      refine Zr_st (q := (26, [zp a0, zj x1], [zj x1, zp a0])) rfl rfl rfl ?_
      show Zr sc 97 26 [zp a0, zj x1] [zj x1, zp a0] w ov w' c s
      obtain ⟨w_4, hk_5, h⟩ := h
      refine rn_cal0 (ins := .invokevirtual 97) (rest := []) rfl rfl rfl rfl (zinv_v (fs := _) L0 rfl rfl rfl rfl) rfl rfl hk_5 ?_
      show Zr sc 97 29 [zp a0, zj x1] [] w_4 ov w' c s
      refine rl_inc rfl rfl rfl rfl ?_
      show Zr sc 97 32 [zp a0, zj (x1 + (-1))] [] w_4 ov w' c s
      refine Zr_st (q := (7, [zp a0, zj (x1 + (-1))], [])) rfl rfl rfl ?_
      show Zr sc 97 7 [zp a0, zj (x1 + (-1))] [] w_4 ov w' c s
      exact h

-- HeapwrightLab$Memory.leaveArena()V
set_option maxRecDepth 100000 in
theorem V97_0_4 {sc : List Value} {w w' : List zE} {ov : Option Value} {c s : Nat} {a0 : Nat} {wy : Int} {st : Int} {hd : Int} {hn : Int} {sn : Int} {nm : Int} {ar : Int} {pk : Int} {dn : Int} (L0 : w[a0]? = some (zob 4 [zp (a0 + 1), zp (a0 + 6), zj wy, zj st, zj hd, zj hn, zj sn, zp (a0 + 9), zp (a0 + 10), zj nm, zj ar, zj pk, zj dn, zp (a0 + 11)])) (h : Zr sc 97 7 [zp a0, zj (nm - 1)] [] w ov w' c s) : Zr sc 97 0 [zp a0, zmk] [] w ov w' c s := by
  refine Zr_st (q := (1, [zp a0, zmk], [zp a0])) rfl rfl rfl ?_
  show Zr sc 97 1 [zp a0, zmk] [zp a0] w ov w' c s
  refine rl_gf rfl L0 rfl rfl ?_
  show Zr sc 97 4 [zp a0, zmk] [zj nm] w ov w' c s
  refine rl_ic rfl ?_
  show Zr sc 97 5 [zp a0, zmk] [zj 1, zj nm] w ov w' c s
  refine rl_sub rfl ?_
  show Zr sc 97 6 [zp a0, zmk] [zj (nm - 1)] w ov w' c s
  refine Zr_st (q := (7, [zp a0, zj (nm - 1)], [])) rfl rfl rfl ?_
  show Zr sc 97 7 [zp a0, zj (nm - 1)] [] w ov w' c s
  exact h
set_option maxRecDepth 100000 in
theorem V97_7_4 {sc : List Value} {w w' : List zE} {ov : Option Value} {c s : Nat} {a0 : Nat} {x1 : Int} {wy : Int} {st : Int} {hd : Int} {hn : Int} {sn : Int} {nm : Int} {ar : Int} {pk : Int} {dn : Int} {dp : List Int} (L0 : w[a0]? = some (zob 4 [zp (a0 + 1), zp (a0 + 6), zj wy, zj st, zj hd, zj hn, zj sn, zp (a0 + 9), zp (a0 + 10), zj nm, zj ar, zj pk, zj dn, zp (a0 + 11)])) (L10 : w[(a0 + 10)]? = some (za dp)) (h : ((zrg x1) ∧ ((x1 < 0 → (ov = none ∧ w' = (w.set a0 (zob 4 [zp (a0 + 1), zp (a0 + 6), zj wy, zj st, zj hd, zj hn, zj sn, zp (a0 + 9), zp (a0 + 10), zj nm, zj (ar - 1), zj pk, zj dn, zp (a0 + 11)])) ∧ c = 0 ∧ s = 0)) ∧ (¬ (x1 < 0) → (((0 : Int) ≤ x1 ∧ x1 < (dp.length : Int) ∧ x1 ≤ (2147483647 : Int)) ∧ ((zrg (zgi dp x1) ∧ zrg ar) ∧ (((zgi dp x1) ≠ ar → Zr sc 97 7 [zp a0, zj (x1 + (-1))] [] w ov w' c s) ∧ (¬ ((zgi dp x1) ≠ ar) → (∃ w_4 : List zE, Zc sc 83 [zp a0, zj x1] w none w_4 0 0 ∧ Zr sc 97 7 [zp a0, zj (x1 + (-1))] [] w_4 ov w' c s))))))))) : Zr sc 97 7 [zp a0, zj x1] [] w ov w' c s := by
  refine Zr_st (q := (8, [zp a0, zj x1], [zj x1])) rfl rfl rfl ?_
  show Zr sc 97 8 [zp a0, zj x1] [zj x1] w ov w' c s
  obtain ⟨hr_1, h⟩ := h
  refine Zr_b0 (p := x1 < 0) rfl rfl (zcmp_0 (cnd := .lt) hr_1) (fun hp => ?_) (fun hp => ?_)
  · replace h := h.1 hp
    show Zr sc 97 35 [zp a0, zj x1] [] w ov w' c s
    refine Zr_st (q := (36, [zp a0, zj x1], [zp a0])) rfl rfl rfl ?_
    show Zr sc 97 36 [zp a0, zj x1] [zp a0] w ov w' c s
    refine Zr_st (q := (37, [zp a0, zj x1], [zp a0, zp a0])) rfl rfl rfl ?_
    show Zr sc 97 37 [zp a0, zj x1] [zp a0, zp a0] w ov w' c s
    refine rl_gf rfl L0 rfl rfl ?_
    show Zr sc 97 40 [zp a0, zj x1] [zj ar, zp a0] w ov w' c s
    refine rl_ic rfl ?_
    show Zr sc 97 41 [zp a0, zj x1] [zj 1, zj ar, zp a0] w ov w' c s
    refine rl_sub rfl ?_
    show Zr sc 97 42 [zp a0, zj x1] [zj (ar - 1), zp a0] w ov w' c s
    refine rl_pf rfl L0 rfl rfl rfl ?_
    show Zr sc 97 45 [zp a0, zj x1] [] (w.set a0 (zob 4 [zp (a0 + 1), zp (a0 + 6), zj wy, zj st, zj hd, zj hn, zj sn, zp (a0 + 9), zp (a0 + 10), zj nm, zj (ar - 1), zj pk, zj dn, zp (a0 + 11)])) ov w' c s
    obtain ⟨h1, h2, h3, h4⟩ := h
    subst h1; subst h2; subst h3; subst h4
    exact Zr_ret (ins := .return_) rfl rfl
  · replace h := h.2 hp
    show Zr sc 97 11 [zp a0, zj x1] [] w ov w' c s
    refine Zr_st (q := (12, [zp a0, zj x1], [zp a0])) rfl rfl rfl ?_
    show Zr sc 97 12 [zp a0, zj x1] [zp a0] w ov w' c s
    refine rl_gf rfl L0 rfl rfl ?_
    show Zr sc 97 15 [zp a0, zj x1] [zp (a0 + 10)] w ov w' c s
    refine Zr_st (q := (16, [zp a0, zj x1], [zj x1, zp (a0 + 10)])) rfl rfl rfl ?_
    show Zr sc 97 16 [zp a0, zj x1] [zj x1, zp (a0 + 10)] w ov w' c s
    obtain ⟨hi_2, h⟩ := h
    refine rl_ia rfl L10 hi_2.1 hi_2.2.1 hi_2.2.2 ?_
    show Zr sc 97 17 [zp a0, zj x1] [zj (zgi dp x1)] w ov w' c s
    refine Zr_st (q := (18, [zp a0, zj x1], [zp a0, zj (zgi dp x1)])) rfl rfl rfl ?_
    show Zr sc 97 18 [zp a0, zj x1] [zp a0, zj (zgi dp x1)] w ov w' c s
    refine rl_gf rfl L0 rfl rfl ?_
    show Zr sc 97 21 [zp a0, zj x1] [zj ar, zj (zgi dp x1)] w ov w' c s
    obtain ⟨hr_3, h⟩ := h
    refine Zr_br (p := (zgi dp x1) ≠ ar) rfl rfl (zcmp_j (cnd := .ne) hr_3.1 hr_3.2) (fun hp => ?_) (fun hp => ?_)
    · replace h := h.1 hp
      show Zr sc 97 29 [zp a0, zj x1] [] w ov w' c s
      refine rl_inc rfl rfl rfl rfl ?_
      show Zr sc 97 32 [zp a0, zj (x1 + (-1))] [] w ov w' c s
      refine Zr_st (q := (7, [zp a0, zj (x1 + (-1))], [])) rfl rfl rfl ?_
      show Zr sc 97 7 [zp a0, zj (x1 + (-1))] [] w ov w' c s
      exact h
    · replace h := h.2 hp
      show Zr sc 97 24 [zp a0, zj x1] [] w ov w' c s
      refine Zr_st (q := (25, [zp a0, zj x1], [zp a0])) rfl rfl rfl ?_
      show Zr sc 97 25 [zp a0, zj x1] [zp a0] w ov w' c s
      refine Zr_st (q := (26, [zp a0, zj x1], [zj x1, zp a0])) rfl rfl rfl ?_
      show Zr sc 97 26 [zp a0, zj x1] [zj x1, zp a0] w ov w' c s
      obtain ⟨w_4, hk_5, h⟩ := h
      refine rn_cal0 (ins := .invokevirtual 97) (rest := []) rfl rfl rfl rfl (zinv_v (fs := _) L0 rfl rfl rfl rfl) rfl rfl hk_5 ?_
      show Zr sc 97 29 [zp a0, zj x1] [] w_4 ov w' c s
      refine rl_inc rfl rfl rfl rfl ?_
      show Zr sc 97 32 [zp a0, zj (x1 + (-1))] [] w_4 ov w' c s
      refine Zr_st (q := (7, [zp a0, zj (x1 + (-1))], [])) rfl rfl rfl ?_
      show Zr sc 97 7 [zp a0, zj (x1 + (-1))] [] w_4 ov w' c s
      exact h

-- HeapwrightLab.bestWay()I
set_option maxRecDepth 100000 in
theorem V98_0 {sc : List Value} {w w' : List zE} {ov : Option Value} {c s : Nat} {a0 : Nat} (h : Zr sc 98 4 [zp a0, zj 0, zj 1] [] w ov w' c s) : Zr sc 98 0 [zp a0, zmk, zmk] [] w ov w' c s := by
  refine rl_ic rfl ?_
  show Zr sc 98 1 [zp a0, zmk, zmk] [zj 0] w ov w' c s
  refine Zr_st (q := (2, [zp a0, zj 0, zmk], [])) rfl rfl rfl ?_
  show Zr sc 98 2 [zp a0, zj 0, zmk] [] w ov w' c s
  refine rl_ic rfl ?_
  show Zr sc 98 3 [zp a0, zj 0, zmk] [zj 1] w ov w' c s
  refine Zr_st (q := (4, [zp a0, zj 0, zj 1], [])) rfl rfl rfl ?_
  show Zr sc 98 4 [zp a0, zj 0, zj 1] [] w ov w' c s
  exact h
set_option maxRecDepth 100000 in
theorem V98_4 {sc : List Value} {w w' : List zE} {ov : Option Value} {c s : Nat} {a0 : Nat} {x1 : Int} {x2 : Int} {wy : Int} (L0 : w[a0]? = some (zob 6 [zp (a0 + 1), zp (a0 + 5), zp (a0 + 16), zp (a0 + 27), zp (a0 + 38), zp (a0 + 49), zp (a0 + 60), zj wy])) (h : ((zrg x2 ∧ zrg 6) ∧ ((6 ≤ x2 → (ov = some (zj x1) ∧ w' = w ∧ c = 0 ∧ s = 0)) ∧ (¬ (6 ≤ x2) → (∃ p_4 : Nat, Zc sc 2 [zp a0, zj x2] w (some (zp p_4)) w 0 0 ∧ (∃ cn_5 : Nat, ∃ fs_6 : List Value, w[p_4]? = some (zob cn_5 fs_6) ∧ (cn_5 = 1 ∨ cn_5 = 2 ∨ cn_5 = 4) ∧ (∃ p_13 : Nat, ∃ w_11 : List zE, Zc sc 57 [zp p_4, zp (a0 + 1)] w (some (zp p_13)) w_11 0 0 ∧ (∃ fs_15 : List Value, w_11[a0]? = some (zob 6 fs_15) ∧ (∃ p_18 : Nat, Zc sc 2 [zp a0, zj x1] w_11 (some (zp p_18)) w_11 0 0 ∧ (∃ wy_20 : Int, w_11[a0]? = some (zob 6 [zp (a0 + 1), zp (a0 + 5), zp (a0 + 16), zp (a0 + 27), zp (a0 + 38), zp (a0 + 49), zp (a0 + 60), zj wy_20]) ∧ (∃ cn_21 : Nat, ∃ fs_22 : List Value, w_11[p_18]? = some (zob cn_21 fs_22) ∧ (cn_21 = 1 ∨ cn_21 = 2 ∨ cn_21 = 4) ∧ (∃ p_29 : Nat, ∃ w_27 : List zE, Zc sc 57 [zp p_18, zp (a0 + 1)] w_11 (some (zp p_29)) w_27 0 0 ∧ (∃ r_32 : Int, Zc sc 99 [zp p_13, zp p_29] w_27 (some (zj r_32)) w_27 0 0 ∧ ((zrg r_32) ∧ ((r_32 = 0 → Zr sc 98 4 [zp a0, zj x1, zj (x2 + 1)] [] w_27 ov w' c s) ∧ (¬ (r_32 = 0) → Zr sc 98 4 [zp a0, zj x2, zj (x2 + 1)] [] w_27 ov w' c s)))))))))))))))) : Zr sc 98 4 [zp a0, zj x1, zj x2] [] w ov w' c s := by
  refine Zr_st (q := (5, [zp a0, zj x1, zj x2], [zj x2])) rfl rfl rfl ?_
  show Zr sc 98 5 [zp a0, zj x1, zj x2] [zj x2] w ov w' c s
  refine rl_bi rfl (by decide) ?_
  show Zr sc 98 7 [zp a0, zj x1, zj x2] [zj 6, zj x2] w ov w' c s
  obtain ⟨hr_1, h⟩ := h
  refine Zr_br (p := 6 ≤ x2) rfl rfl (zcmp_j (cnd := .ge) hr_1.1 hr_1.2) (fun hp => ?_) (fun hp => ?_)
  · replace h := h.1 hp
    show Zr sc 98 48 [zp a0, zj x1, zj x2] [] w ov w' c s
    refine Zr_st (q := (49, [zp a0, zj x1, zj x2], [zj x1])) rfl rfl rfl ?_
    show Zr sc 98 49 [zp a0, zj x1, zj x2] [zj x1] w ov w' c s
    obtain ⟨h1, h2, h3, h4⟩ := h
    subst h1; subst h2; subst h3; subst h4
    exact Zr_ret (ins := .ireturn) rfl rfl
  · replace h := h.2 hp
    show Zr sc 98 10 [zp a0, zj x1, zj x2] [] w ov w' c s
    refine Zr_st (q := (11, [zp a0, zj x1, zj x2], [zp a0])) rfl rfl rfl ?_
    show Zr sc 98 11 [zp a0, zj x1, zj x2] [zp a0] w ov w' c s
    refine Zr_st (q := (12, [zp a0, zj x1, zj x2], [zj x2, zp a0])) rfl rfl rfl ?_
    show Zr sc 98 12 [zp a0, zj x1, zj x2] [zj x2, zp a0] w ov w' c s
    obtain ⟨p_4, hk_9, h⟩ := h
    refine rn_cal0 (ins := .invokevirtual 70) (rest := []) rfl rfl rfl rfl (zinv_v (fs := _) L0 rfl rfl rfl rfl) rfl rfl hk_9 ?_
    show Zr sc 98 15 [zp a0, zj x1, zj x2] [zp p_4] w ov w' c s
    refine Zr_st (q := (16, [zp a0, zj x1, zj x2], [zp a0, zp p_4])) rfl rfl rfl ?_
    show Zr sc 98 16 [zp a0, zj x1, zj x2] [zp a0, zp p_4] w ov w' c s
    refine rl_gf rfl L0 rfl rfl ?_
    show Zr sc 98 19 [zp a0, zj x1, zj x2] [zp (a0 + 1), zp p_4] w ov w' c s
    obtain ⟨cn_5, fs_6, hw_7, hcn_8, h⟩ := h
    have hz_9 : ∃ kd, zinv 98 (.invokevirtual 103) [zp (a0 + 1), zp p_4] (false, w) = some (kd, 57, [zp p_4, zp (a0 + 1)], []) ∧ decide (kd < 6) = true := by rcases hcn_8 with rfl | rfl | rfl <;> exact zinv_u hw_7 rfl rfl rfl rfl rfl rfl rfl
    obtain ⟨kd_10, hz_9⟩ := hz_9
    obtain ⟨p_13, w_11, hk_12, h⟩ := h
    refine rn_cal0 (ins := .invokevirtual 103) (rest := []) rfl rfl rfl rfl hz_9.1 rfl hz_9.2 hk_12 ?_
    show Zr sc 98 22 [zp a0, zj x1, zj x2] [zp p_13] w_11 ov w' c s
    refine Zr_st (q := (23, [zp a0, zj x1, zj x2], [zp a0, zp p_13])) rfl rfl rfl ?_
    show Zr sc 98 23 [zp a0, zj x1, zj x2] [zp a0, zp p_13] w_11 ov w' c s
    refine Zr_st (q := (24, [zp a0, zj x1, zj x2], [zj x1, zp a0, zp p_13])) rfl rfl rfl ?_
    show Zr sc 98 24 [zp a0, zj x1, zj x2] [zj x1, zp a0, zp p_13] w_11 ov w' c s
    obtain ⟨fs_15, hl_14, h⟩ := h
    obtain ⟨p_18, hk_9, h⟩ := h
    refine rn_cal0 (ins := .invokevirtual 70) (rest := [zp p_13]) rfl rfl rfl rfl (zinv_v (fs := _) hl_14 rfl rfl rfl rfl) rfl rfl hk_9 ?_
    show Zr sc 98 27 [zp a0, zj x1, zj x2] [zp p_18, zp p_13] w_11 ov w' c s
    refine Zr_st (q := (28, [zp a0, zj x1, zj x2], [zp a0, zp p_18, zp p_13])) rfl rfl rfl ?_
    show Zr sc 98 28 [zp a0, zj x1, zj x2] [zp a0, zp p_18, zp p_13] w_11 ov w' c s
    obtain ⟨wy_20, hw_19, h⟩ := h
    refine rl_gf rfl hw_19 rfl rfl ?_
    show Zr sc 98 31 [zp a0, zj x1, zj x2] [zp (a0 + 1), zp p_18, zp p_13] w_11 ov w' c s
    obtain ⟨cn_21, fs_22, hw_23, hcn_24, h⟩ := h
    have hz_25 : ∃ kd, zinv 98 (.invokevirtual 103) [zp (a0 + 1), zp p_18, zp p_13] (false, w_11) = some (kd, 57, [zp p_18, zp (a0 + 1)], [zp p_13]) ∧ decide (kd < 6) = true := by rcases hcn_24 with rfl | rfl | rfl <;> exact zinv_u hw_23 rfl rfl rfl rfl rfl rfl rfl
    obtain ⟨kd_26, hz_25⟩ := hz_25
    obtain ⟨p_29, w_27, hk_28, h⟩ := h
    refine rn_cal0 (ins := .invokevirtual 103) (rest := [zp p_13]) rfl rfl rfl rfl hz_25.1 rfl hz_25.2 hk_28 ?_
    show Zr sc 98 34 [zp a0, zj x1, zj x2] [zp p_29, zp p_13] w_27 ov w' c s
    obtain ⟨r_32, hk_9, h⟩ := h
    refine rn_cal0 (ins := .invokestatic 197) (rest := []) rfl rfl rfl rfl (zinv_t rfl rfl rfl rfl) rfl rfl hk_9 ?_
    show Zr sc 98 37 [zp a0, zj x1, zj x2] [zj r_32] w_27 ov w' c s
    obtain ⟨hr_33, h⟩ := h
    refine Zr_b0 (p := r_32 = 0) rfl rfl (zcmp_0 (cnd := .eq) hr_33) (fun hp => ?_) (fun hp => ?_)
    · replace h := h.1 hp
      show Zr sc 98 42 [zp a0, zj x1, zj x2] [] w_27 ov w' c s
      refine rl_inc rfl rfl rfl rfl ?_
      show Zr sc 98 45 [zp a0, zj x1, zj (x2 + 1)] [] w_27 ov w' c s
      refine Zr_st (q := (4, [zp a0, zj x1, zj (x2 + 1)], [])) rfl rfl rfl ?_
      show Zr sc 98 4 [zp a0, zj x1, zj (x2 + 1)] [] w_27 ov w' c s
      exact h
    · replace h := h.2 hp
      show Zr sc 98 40 [zp a0, zj x1, zj x2] [] w_27 ov w' c s
      refine Zr_st (q := (41, [zp a0, zj x1, zj x2], [zj x2])) rfl rfl rfl ?_
      show Zr sc 98 41 [zp a0, zj x1, zj x2] [zj x2] w_27 ov w' c s
      refine Zr_st (q := (42, [zp a0, zj x2, zj x2], [])) rfl rfl rfl ?_
      show Zr sc 98 42 [zp a0, zj x2, zj x2] [] w_27 ov w' c s
      refine rl_inc rfl rfl rfl rfl ?_
      show Zr sc 98 45 [zp a0, zj x2, zj (x2 + 1)] [] w_27 ov w' c s
      refine Zr_st (q := (4, [zp a0, zj x2, zj (x2 + 1)], [])) rfl rfl rfl ?_
      show Zr sc 98 4 [zp a0, zj x2, zj (x2 + 1)] [] w_27 ov w' c s
      exact h

-- HeapwrightLab.isBetter(LHeapwrightLab$Memory;LHeapwrightLab$Memory;)Z
set_option maxRecDepth 100000 in
theorem V99_0 {sc : List Value} {w w' : List zE} {ov : Option Value} {c s : Nat} {a0 : Nat} {a1 : Nat} (h : (∃ cn_1 : Nat, ∃ fs_2 : List Value, w[a0]? = some (zob cn_1 fs_2) ∧ (cn_1 = 1 ∨ cn_1 = 2 ∨ cn_1 = 4) ∧ (∃ r_9 : Int, Zc sc 34 [zp a0, zj 4] w (some (zj r_9)) w 0 0 ∧ (∃ cn_10 : Nat, ∃ fs_11 : List Value, w[a1]? = some (zob cn_10 fs_11) ∧ (cn_10 = 1 ∨ cn_10 = 2 ∨ cn_10 = 4) ∧ (∃ r_18 : Int, Zc sc 34 [zp a1, zj 4] w (some (zj r_18)) w 0 0 ∧ ((zrg r_9 ∧ zrg r_18) ∧ ((r_9 = r_18 → (∃ cn_20 : Nat, ∃ fs_21 : List Value, w[a0]? = some (zob cn_20 fs_21) ∧ (cn_20 = 1 ∨ cn_20 = 2 ∨ cn_20 = 4) ∧ (∃ r_28 : Int, Zc sc 34 [zp a0, zj 5] w (some (zj r_28)) w 0 0 ∧ (∃ cn_29 : Nat, ∃ fs_30 : List Value, w[a1]? = some (zob cn_29 fs_30) ∧ (cn_29 = 1 ∨ cn_29 = 2 ∨ cn_29 = 4) ∧ (∃ r_37 : Int, Zc sc 34 [zp a1, zj 5] w (some (zj r_37)) w 0 0 ∧ ((zrg r_28 ∧ zrg r_37) ∧ ((r_37 ≤ r_28 → (ov = some (zj 0) ∧ w' = w ∧ c = 0 ∧ s = 0)) ∧ (¬ (r_37 ≤ r_28) → (ov = some (zj 1) ∧ w' = w ∧ c = 0 ∧ s = 0))))))))) ∧ (¬ (r_9 = r_18) → (∃ cn_39 : Nat, ∃ fs_40 : List Value, w[a0]? = some (zob cn_39 fs_40) ∧ (cn_39 = 1 ∨ cn_39 = 2 ∨ cn_39 = 4) ∧ (∃ r_47 : Int, Zc sc 34 [zp a0, zj 4] w (some (zj r_47)) w 0 0 ∧ (∃ cn_48 : Nat, ∃ fs_49 : List Value, w[a1]? = some (zob cn_48 fs_49) ∧ (cn_48 = 1 ∨ cn_48 = 2 ∨ cn_48 = 4) ∧ (∃ r_56 : Int, Zc sc 34 [zp a1, zj 4] w (some (zj r_56)) w 0 0 ∧ ((zrg r_47 ∧ zrg r_56) ∧ ((r_56 ≤ r_47 → (ov = some (zj 0) ∧ w' = w ∧ c = 0 ∧ s = 0)) ∧ (¬ (r_56 ≤ r_47) → (ov = some (zj 1) ∧ w' = w ∧ c = 0 ∧ s = 0)))))))))))))))) : Zr sc 99 0 [zp a0, zp a1] [] w ov w' c s := by
  refine Zr_st (q := (1, [zp a0, zp a1], [zp a0])) rfl rfl rfl ?_
  show Zr sc 99 1 [zp a0, zp a1] [zp a0] w ov w' c s
  refine rl_ic rfl ?_
  show Zr sc 99 2 [zp a0, zp a1] [zj 4, zp a0] w ov w' c s
  obtain ⟨cn_1, fs_2, hw_3, hcn_4, h⟩ := h
  have hz_5 : ∃ kd, zinv 99 (.invokevirtual 128) [zj 4, zp a0] (false, w) = some (kd, 34, [zp a0, zj 4], []) ∧ decide (kd < 6) = true := by rcases hcn_4 with rfl | rfl | rfl <;> exact zinv_u hw_3 rfl rfl rfl rfl rfl rfl rfl
  obtain ⟨kd_6, hz_5⟩ := hz_5
  obtain ⟨r_9, hk_9, h⟩ := h
  refine rn_cal0 (ins := .invokevirtual 128) (rest := []) rfl rfl rfl rfl hz_5.1 rfl hz_5.2 hk_9 ?_
  show Zr sc 99 5 [zp a0, zp a1] [zj r_9] w ov w' c s
  refine Zr_st (q := (6, [zp a0, zp a1], [zp a1, zj r_9])) rfl rfl rfl ?_
  show Zr sc 99 6 [zp a0, zp a1] [zp a1, zj r_9] w ov w' c s
  refine rl_ic rfl ?_
  show Zr sc 99 7 [zp a0, zp a1] [zj 4, zp a1, zj r_9] w ov w' c s
  obtain ⟨cn_10, fs_11, hw_12, hcn_13, h⟩ := h
  have hz_14 : ∃ kd, zinv 99 (.invokevirtual 128) [zj 4, zp a1, zj r_9] (false, w) = some (kd, 34, [zp a1, zj 4], [zj r_9]) ∧ decide (kd < 6) = true := by rcases hcn_13 with rfl | rfl | rfl <;> exact zinv_u hw_12 rfl rfl rfl rfl rfl rfl rfl
  obtain ⟨kd_15, hz_14⟩ := hz_14
  obtain ⟨r_18, hk_9, h⟩ := h
  refine rn_cal0 (ins := .invokevirtual 128) (rest := [zj r_9]) rfl rfl rfl rfl hz_14.1 rfl hz_14.2 hk_9 ?_
  show Zr sc 99 10 [zp a0, zp a1] [zj r_18, zj r_9] w ov w' c s
  obtain ⟨hr_19, h⟩ := h
  refine Zr_br (p := r_9 = r_18) rfl rfl (zcmp_j (cnd := .eq) hr_19.1 hr_19.2) (fun hp => ?_) (fun hp => ?_)
  · replace h := h.1 hp
    show Zr sc 99 32 [zp a0, zp a1] [] w ov w' c s
    refine Zr_st (q := (33, [zp a0, zp a1], [zp a0])) rfl rfl rfl ?_
    show Zr sc 99 33 [zp a0, zp a1] [zp a0] w ov w' c s
    refine rl_ic rfl ?_
    show Zr sc 99 34 [zp a0, zp a1] [zj 5, zp a0] w ov w' c s
    obtain ⟨cn_20, fs_21, hw_22, hcn_23, h⟩ := h
    have hz_24 : ∃ kd, zinv 99 (.invokevirtual 128) [zj 5, zp a0] (false, w) = some (kd, 34, [zp a0, zj 5], []) ∧ decide (kd < 6) = true := by rcases hcn_23 with rfl | rfl | rfl <;> exact zinv_u hw_22 rfl rfl rfl rfl rfl rfl rfl
    obtain ⟨kd_25, hz_24⟩ := hz_24
    obtain ⟨r_28, hk_9, h⟩ := h
    refine rn_cal0 (ins := .invokevirtual 128) (rest := []) rfl rfl rfl rfl hz_24.1 rfl hz_24.2 hk_9 ?_
    show Zr sc 99 37 [zp a0, zp a1] [zj r_28] w ov w' c s
    refine Zr_st (q := (38, [zp a0, zp a1], [zp a1, zj r_28])) rfl rfl rfl ?_
    show Zr sc 99 38 [zp a0, zp a1] [zp a1, zj r_28] w ov w' c s
    refine rl_ic rfl ?_
    show Zr sc 99 39 [zp a0, zp a1] [zj 5, zp a1, zj r_28] w ov w' c s
    obtain ⟨cn_29, fs_30, hw_31, hcn_32, h⟩ := h
    have hz_33 : ∃ kd, zinv 99 (.invokevirtual 128) [zj 5, zp a1, zj r_28] (false, w) = some (kd, 34, [zp a1, zj 5], [zj r_28]) ∧ decide (kd < 6) = true := by rcases hcn_32 with rfl | rfl | rfl <;> exact zinv_u hw_31 rfl rfl rfl rfl rfl rfl rfl
    obtain ⟨kd_34, hz_33⟩ := hz_33
    obtain ⟨r_37, hk_9, h⟩ := h
    refine rn_cal0 (ins := .invokevirtual 128) (rest := [zj r_28]) rfl rfl rfl rfl hz_33.1 rfl hz_33.2 hk_9 ?_
    show Zr sc 99 42 [zp a0, zp a1] [zj r_37, zj r_28] w ov w' c s
    obtain ⟨hr_38, h⟩ := h
    refine Zr_br (p := r_37 ≤ r_28) rfl rfl (zcmp_j (cnd := .ge) hr_38.1 hr_38.2) (fun hp => ?_) (fun hp => ?_)
    · replace h := h.1 hp
      show Zr sc 99 49 [zp a0, zp a1] [] w ov w' c s
      refine rl_ic rfl ?_
      show Zr sc 99 50 [zp a0, zp a1] [zj 0] w ov w' c s
      obtain ⟨h1, h2, h3, h4⟩ := h
      subst h1; subst h2; subst h3; subst h4
      exact Zr_ret (ins := .ireturn) rfl rfl
    · replace h := h.2 hp
      show Zr sc 99 45 [zp a0, zp a1] [] w ov w' c s
      refine rl_ic rfl ?_
      show Zr sc 99 46 [zp a0, zp a1] [zj 1] w ov w' c s
      refine Zr_st (q := (50, [zp a0, zp a1], [zj 1])) rfl rfl rfl ?_
      show Zr sc 99 50 [zp a0, zp a1] [zj 1] w ov w' c s
      obtain ⟨h1, h2, h3, h4⟩ := h
      subst h1; subst h2; subst h3; subst h4
      exact Zr_ret (ins := .ireturn) rfl rfl
  · replace h := h.2 hp
    show Zr sc 99 13 [zp a0, zp a1] [] w ov w' c s
    refine Zr_st (q := (14, [zp a0, zp a1], [zp a0])) rfl rfl rfl ?_
    show Zr sc 99 14 [zp a0, zp a1] [zp a0] w ov w' c s
    refine rl_ic rfl ?_
    show Zr sc 99 15 [zp a0, zp a1] [zj 4, zp a0] w ov w' c s
    obtain ⟨cn_39, fs_40, hw_41, hcn_42, h⟩ := h
    have hz_43 : ∃ kd, zinv 99 (.invokevirtual 128) [zj 4, zp a0] (false, w) = some (kd, 34, [zp a0, zj 4], []) ∧ decide (kd < 6) = true := by rcases hcn_42 with rfl | rfl | rfl <;> exact zinv_u hw_41 rfl rfl rfl rfl rfl rfl rfl
    obtain ⟨kd_44, hz_43⟩ := hz_43
    obtain ⟨r_47, hk_9, h⟩ := h
    refine rn_cal0 (ins := .invokevirtual 128) (rest := []) rfl rfl rfl rfl hz_43.1 rfl hz_43.2 hk_9 ?_
    show Zr sc 99 18 [zp a0, zp a1] [zj r_47] w ov w' c s
    refine Zr_st (q := (19, [zp a0, zp a1], [zp a1, zj r_47])) rfl rfl rfl ?_
    show Zr sc 99 19 [zp a0, zp a1] [zp a1, zj r_47] w ov w' c s
    refine rl_ic rfl ?_
    show Zr sc 99 20 [zp a0, zp a1] [zj 4, zp a1, zj r_47] w ov w' c s
    obtain ⟨cn_48, fs_49, hw_50, hcn_51, h⟩ := h
    have hz_52 : ∃ kd, zinv 99 (.invokevirtual 128) [zj 4, zp a1, zj r_47] (false, w) = some (kd, 34, [zp a1, zj 4], [zj r_47]) ∧ decide (kd < 6) = true := by rcases hcn_51 with rfl | rfl | rfl <;> exact zinv_u hw_50 rfl rfl rfl rfl rfl rfl rfl
    obtain ⟨kd_53, hz_52⟩ := hz_52
    obtain ⟨r_56, hk_9, h⟩ := h
    refine rn_cal0 (ins := .invokevirtual 128) (rest := [zj r_47]) rfl rfl rfl rfl hz_52.1 rfl hz_52.2 hk_9 ?_
    show Zr sc 99 23 [zp a0, zp a1] [zj r_56, zj r_47] w ov w' c s
    obtain ⟨hr_57, h⟩ := h
    refine Zr_br (p := r_56 ≤ r_47) rfl rfl (zcmp_j (cnd := .ge) hr_57.1 hr_57.2) (fun hp => ?_) (fun hp => ?_)
    · replace h := h.1 hp
      show Zr sc 99 30 [zp a0, zp a1] [] w ov w' c s
      refine rl_ic rfl ?_
      show Zr sc 99 31 [zp a0, zp a1] [zj 0] w ov w' c s
      obtain ⟨h1, h2, h3, h4⟩ := h
      subst h1; subst h2; subst h3; subst h4
      exact Zr_ret (ins := .ireturn) rfl rfl
    · replace h := h.2 hp
      show Zr sc 99 26 [zp a0, zp a1] [] w ov w' c s
      refine rl_ic rfl ?_
      show Zr sc 99 27 [zp a0, zp a1] [zj 1] w ov w' c s
      refine Zr_st (q := (31, [zp a0, zp a1], [zj 1])) rfl rfl rfl ?_
      show Zr sc 99 31 [zp a0, zp a1] [zj 1] w ov w' c s
      obtain ⟨h1, h2, h3, h4⟩ := h
      subst h1; subst h2; subst h3; subst h4
      exact Zr_ret (ins := .ireturn) rfl rfl

-- HeapwrightLab.digest()J
set_option maxRecDepth 100000 in
theorem V100_0 {sc : List Value} {w w' : List zE} {ov : Option Value} {c s : Nat} {a0 : Nat} {wy : Int} (L0 : w[a0]? = some (zob 6 [zp (a0 + 1), zp (a0 + 5), zp (a0 + 16), zp (a0 + 27), zp (a0 + 38), zp (a0 + 49), zp (a0 + 60), zj wy])) (h : (∃ p_3 : Nat, Zc sc 1 [zp a0] w (some (zp p_3)) w 0 0 ∧ (∃ cn_4 : Nat, ∃ fs_5 : List Value, w[p_3]? = some (zob cn_4 fs_5) ∧ (cn_4 = 1 ∨ cn_4 = 2 ∨ cn_4 = 4) ∧ (∃ r_12 : Int, Zc sc 3 [zp p_3] w (some (zj r_12)) w 0 0 ∧ (∃ fs_14 : List Value, w[(a0 + 1)]? = some (zob 5 fs_14) ∧ (∃ r_17 : Int, Zc sc 58 [zp (a0 + 1)] w (some (zj r_17)) w 0 0 ∧ (∃ cn_18 : Nat, ∃ fs_19 : List Value, w[p_3]? = some (zob cn_18 fs_19) ∧ (cn_18 = 1 ∨ cn_18 = 2 ∨ cn_18 = 4) ∧ (∃ r_26 : Int, Zc sc 101 [zp p_3] w (some (zj r_26)) w 0 0 ∧ (∃ cn_27 : Nat, ∃ fs_28 : List Value, w[p_3]? = some (zob cn_27 fs_28) ∧ (cn_27 = 1 ∨ cn_27 = 2 ∨ cn_27 = 4) ∧ (∃ p_35 : Nat, Zc sc 6 [zp p_3] w (some (zp p_35)) w 0 0 ∧ (∃ fs_37 : List Value, w[p_35]? = some (zob 0 fs_37) ∧ (∃ r_40 : Int, Zc sc 18 [zp p_35] w (some (zj r_40)) w 0 0 ∧ (∃ r_43 : Int, Zc sc 27 [zp a0] w (some (zj r_43)) w 0 0 ∧ (∃ r_46 : Int, Zc sc 29 [zp a0] w (some (zj r_46)) w 0 0 ∧ (∃ r_49 : Int, Zc sc 31 [zp a0] w (some (zj r_49)) w 0 0 ∧ (∃ r_52 : Int, Zc sc 35 [zp a0] w (some (zj r_52)) w 0 0 ∧ (∃ cn_53 : Nat, ∃ fs_54 : List Value, w[p_3]? = some (zob cn_53 fs_54) ∧ (cn_53 = 1 ∨ cn_53 = 2 ∨ cn_53 = 4) ∧ (∃ r_61 : Int, Zc sc 102 [zp p_3] w (some (zj r_61)) w 0 0 ∧ Zr sc 100 138 [zp a0, zp p_3, .long ((((((((((((((((((((2657 * 31) + ((Int32.ofInt wy).toInt64)) * 31) + ((Int32.ofInt r_12).toInt64)) * 31) + ((Int32.ofInt r_17).toInt64)) * 31) + ((Int32.ofInt r_26).toInt64)) * 31) + ((Int32.ofInt r_40).toInt64)) * 31) + ((Int32.ofInt r_43).toInt64)) * 31) + ((Int32.ofInt r_46).toInt64)) * 31) + ((Int32.ofInt r_49).toInt64)) * 31) + ((Int32.ofInt r_52).toInt64)) * 31) + ((Int32.ofInt r_61).toInt64)), zmk, zj 0, zmk] [] w ov w' c s)))))))))))))))))) : Zr sc 100 0 [zp a0, zmk, zmk, zmk, zmk, zmk] [] w ov w' c s := by
  refine Zr_st (q := (1, [zp a0, zmk, zmk, zmk, zmk, zmk], [zp a0])) rfl rfl rfl ?_
  show Zr sc 100 1 [zp a0, zmk, zmk, zmk, zmk, zmk] [zp a0] w ov w' c s
  obtain ⟨p_3, hk_9, h⟩ := h
  refine rn_cal0 (ins := .invokevirtual 83) (rest := []) rfl rfl rfl rfl (zinv_v (fs := _) L0 rfl rfl rfl rfl) rfl rfl hk_9 ?_
  show Zr sc 100 4 [zp a0, zmk, zmk, zmk, zmk, zmk] [zp p_3] w ov w' c s
  refine Zr_st (q := (5, [zp a0, zp p_3, zmk, zmk, zmk, zmk], [])) rfl rfl rfl ?_
  show Zr sc 100 5 [zp a0, zp p_3, zmk, zmk, zmk, zmk] [] w ov w' c s
  refine rl_lc (z := 2657) rfl rfl (by decide) ?_
  show Zr sc 100 8 [zp a0, zp p_3, zmk, zmk, zmk, zmk] [.long 2657] w ov w' c s
  refine Zr_st (q := (9, [zp a0, zp p_3, .long 2657, zmk, zmk, zmk], [])) rfl rfl rfl ?_
  show Zr sc 100 9 [zp a0, zp p_3, .long 2657, zmk, zmk, zmk] [] w ov w' c s
  refine Zr_st (q := (10, [zp a0, zp p_3, .long 2657, zmk, zmk, zmk], [.long 2657])) rfl rfl rfl ?_
  show Zr sc 100 10 [zp a0, zp p_3, .long 2657, zmk, zmk, zmk] [.long 2657] w ov w' c s
  refine rl_lc (z := 31) rfl rfl (by decide) ?_
  show Zr sc 100 13 [zp a0, zp p_3, .long 2657, zmk, zmk, zmk] [.long 31, .long 2657] w ov w' c s
  refine rl_lmul rfl ?_
  show Zr sc 100 14 [zp a0, zp p_3, .long 2657, zmk, zmk, zmk] [.long (2657 * 31)] w ov w' c s
  refine Zr_st (q := (15, [zp a0, zp p_3, .long 2657, zmk, zmk, zmk], [zp a0, .long (2657 * 31)])) rfl rfl rfl ?_
  show Zr sc 100 15 [zp a0, zp p_3, .long 2657, zmk, zmk, zmk] [zp a0, .long (2657 * 31)] w ov w' c s
  refine rl_gf rfl L0 rfl rfl ?_
  show Zr sc 100 18 [zp a0, zp p_3, .long 2657, zmk, zmk, zmk] [zj wy, .long (2657 * 31)] w ov w' c s
  refine rl_i2l rfl ?_
  show Zr sc 100 19 [zp a0, zp p_3, .long 2657, zmk, zmk, zmk] [.long ((Int32.ofInt wy).toInt64), .long (2657 * 31)] w ov w' c s
  refine rl_ladd rfl ?_
  show Zr sc 100 20 [zp a0, zp p_3, .long 2657, zmk, zmk, zmk] [.long ((2657 * 31) + ((Int32.ofInt wy).toInt64))] w ov w' c s
  refine Zr_st (q := (21, [zp a0, zp p_3, .long ((2657 * 31) + ((Int32.ofInt wy).toInt64)), zmk, zmk, zmk], [])) rfl rfl rfl ?_
  show Zr sc 100 21 [zp a0, zp p_3, .long ((2657 * 31) + ((Int32.ofInt wy).toInt64)), zmk, zmk, zmk] [] w ov w' c s
  refine Zr_st (q := (22, [zp a0, zp p_3, .long ((2657 * 31) + ((Int32.ofInt wy).toInt64)), zmk, zmk, zmk], [.long ((2657 * 31) + ((Int32.ofInt wy).toInt64))])) rfl rfl rfl ?_
  show Zr sc 100 22 [zp a0, zp p_3, .long ((2657 * 31) + ((Int32.ofInt wy).toInt64)), zmk, zmk, zmk] [.long ((2657 * 31) + ((Int32.ofInt wy).toInt64))] w ov w' c s
  refine rl_lc (z := 31) rfl rfl (by decide) ?_
  show Zr sc 100 25 [zp a0, zp p_3, .long ((2657 * 31) + ((Int32.ofInt wy).toInt64)), zmk, zmk, zmk] [.long 31, .long ((2657 * 31) + ((Int32.ofInt wy).toInt64))] w ov w' c s
  refine rl_lmul rfl ?_
  show Zr sc 100 26 [zp a0, zp p_3, .long ((2657 * 31) + ((Int32.ofInt wy).toInt64)), zmk, zmk, zmk] [.long (((2657 * 31) + ((Int32.ofInt wy).toInt64)) * 31)] w ov w' c s
  refine Zr_st (q := (27, [zp a0, zp p_3, .long ((2657 * 31) + ((Int32.ofInt wy).toInt64)), zmk, zmk, zmk], [zp p_3, .long (((2657 * 31) + ((Int32.ofInt wy).toInt64)) * 31)])) rfl rfl rfl ?_
  show Zr sc 100 27 [zp a0, zp p_3, .long ((2657 * 31) + ((Int32.ofInt wy).toInt64)), zmk, zmk, zmk] [zp p_3, .long (((2657 * 31) + ((Int32.ofInt wy).toInt64)) * 31)] w ov w' c s
  obtain ⟨cn_4, fs_5, hw_6, hcn_7, h⟩ := h
  have hz_8 : ∃ kd, zinv 100 (.invokevirtual 87) [zp p_3, .long (((2657 * 31) + ((Int32.ofInt wy).toInt64)) * 31)] (false, w) = some (kd, 3, [zp p_3], [.long (((2657 * 31) + ((Int32.ofInt wy).toInt64)) * 31)]) ∧ decide (kd < 6) = true := by rcases hcn_7 with rfl | rfl | rfl <;> exact zinv_u hw_6 rfl rfl rfl rfl rfl rfl rfl
  obtain ⟨kd_9, hz_8⟩ := hz_8
  obtain ⟨r_12, hk_9, h⟩ := h
  refine rn_cal0 (ins := .invokevirtual 87) (rest := [.long (((2657 * 31) + ((Int32.ofInt wy).toInt64)) * 31)]) rfl rfl rfl rfl hz_8.1 rfl hz_8.2 hk_9 ?_
  show Zr sc 100 30 [zp a0, zp p_3, .long ((2657 * 31) + ((Int32.ofInt wy).toInt64)), zmk, zmk, zmk] [zj r_12, .long (((2657 * 31) + ((Int32.ofInt wy).toInt64)) * 31)] w ov w' c s
  refine rl_i2l rfl ?_
  show Zr sc 100 31 [zp a0, zp p_3, .long ((2657 * 31) + ((Int32.ofInt wy).toInt64)), zmk, zmk, zmk] [.long ((Int32.ofInt r_12).toInt64), .long (((2657 * 31) + ((Int32.ofInt wy).toInt64)) * 31)] w ov w' c s
  refine rl_ladd rfl ?_
  show Zr sc 100 32 [zp a0, zp p_3, .long ((2657 * 31) + ((Int32.ofInt wy).toInt64)), zmk, zmk, zmk] [.long ((((2657 * 31) + ((Int32.ofInt wy).toInt64)) * 31) + ((Int32.ofInt r_12).toInt64))] w ov w' c s
  refine Zr_st (q := (33, [zp a0, zp p_3, .long ((((2657 * 31) + ((Int32.ofInt wy).toInt64)) * 31) + ((Int32.ofInt r_12).toInt64)), zmk, zmk, zmk], [])) rfl rfl rfl ?_
  show Zr sc 100 33 [zp a0, zp p_3, .long ((((2657 * 31) + ((Int32.ofInt wy).toInt64)) * 31) + ((Int32.ofInt r_12).toInt64)), zmk, zmk, zmk] [] w ov w' c s
  refine Zr_st (q := (34, [zp a0, zp p_3, .long ((((2657 * 31) + ((Int32.ofInt wy).toInt64)) * 31) + ((Int32.ofInt r_12).toInt64)), zmk, zmk, zmk], [.long ((((2657 * 31) + ((Int32.ofInt wy).toInt64)) * 31) + ((Int32.ofInt r_12).toInt64))])) rfl rfl rfl ?_
  show Zr sc 100 34 [zp a0, zp p_3, .long ((((2657 * 31) + ((Int32.ofInt wy).toInt64)) * 31) + ((Int32.ofInt r_12).toInt64)), zmk, zmk, zmk] [.long ((((2657 * 31) + ((Int32.ofInt wy).toInt64)) * 31) + ((Int32.ofInt r_12).toInt64))] w ov w' c s
  refine rl_lc (z := 31) rfl rfl (by decide) ?_
  show Zr sc 100 37 [zp a0, zp p_3, .long ((((2657 * 31) + ((Int32.ofInt wy).toInt64)) * 31) + ((Int32.ofInt r_12).toInt64)), zmk, zmk, zmk] [.long 31, .long ((((2657 * 31) + ((Int32.ofInt wy).toInt64)) * 31) + ((Int32.ofInt r_12).toInt64))] w ov w' c s
  refine rl_lmul rfl ?_
  show Zr sc 100 38 [zp a0, zp p_3, .long ((((2657 * 31) + ((Int32.ofInt wy).toInt64)) * 31) + ((Int32.ofInt r_12).toInt64)), zmk, zmk, zmk] [.long (((((2657 * 31) + ((Int32.ofInt wy).toInt64)) * 31) + ((Int32.ofInt r_12).toInt64)) * 31)] w ov w' c s
  refine Zr_st (q := (39, [zp a0, zp p_3, .long ((((2657 * 31) + ((Int32.ofInt wy).toInt64)) * 31) + ((Int32.ofInt r_12).toInt64)), zmk, zmk, zmk], [zp a0, .long (((((2657 * 31) + ((Int32.ofInt wy).toInt64)) * 31) + ((Int32.ofInt r_12).toInt64)) * 31)])) rfl rfl rfl ?_
  show Zr sc 100 39 [zp a0, zp p_3, .long ((((2657 * 31) + ((Int32.ofInt wy).toInt64)) * 31) + ((Int32.ofInt r_12).toInt64)), zmk, zmk, zmk] [zp a0, .long (((((2657 * 31) + ((Int32.ofInt wy).toInt64)) * 31) + ((Int32.ofInt r_12).toInt64)) * 31)] w ov w' c s
  refine rl_gf rfl L0 rfl rfl ?_
  show Zr sc 100 42 [zp a0, zp p_3, .long ((((2657 * 31) + ((Int32.ofInt wy).toInt64)) * 31) + ((Int32.ofInt r_12).toInt64)), zmk, zmk, zmk] [zp (a0 + 1), .long (((((2657 * 31) + ((Int32.ofInt wy).toInt64)) * 31) + ((Int32.ofInt r_12).toInt64)) * 31)] w ov w' c s
  obtain ⟨fs_14, hl_13, h⟩ := h
  obtain ⟨r_17, hk_9, h⟩ := h
  refine rn_cal0 (ins := .invokevirtual 141) (rest := [.long (((((2657 * 31) + ((Int32.ofInt wy).toInt64)) * 31) + ((Int32.ofInt r_12).toInt64)) * 31)]) rfl rfl rfl rfl (zinv_v (fs := _) hl_13 rfl rfl rfl rfl) rfl rfl hk_9 ?_
  show Zr sc 100 45 [zp a0, zp p_3, .long ((((2657 * 31) + ((Int32.ofInt wy).toInt64)) * 31) + ((Int32.ofInt r_12).toInt64)), zmk, zmk, zmk] [zj r_17, .long (((((2657 * 31) + ((Int32.ofInt wy).toInt64)) * 31) + ((Int32.ofInt r_12).toInt64)) * 31)] w ov w' c s
  refine rl_i2l rfl ?_
  show Zr sc 100 46 [zp a0, zp p_3, .long ((((2657 * 31) + ((Int32.ofInt wy).toInt64)) * 31) + ((Int32.ofInt r_12).toInt64)), zmk, zmk, zmk] [.long ((Int32.ofInt r_17).toInt64), .long (((((2657 * 31) + ((Int32.ofInt wy).toInt64)) * 31) + ((Int32.ofInt r_12).toInt64)) * 31)] w ov w' c s
  refine rl_ladd rfl ?_
  show Zr sc 100 47 [zp a0, zp p_3, .long ((((2657 * 31) + ((Int32.ofInt wy).toInt64)) * 31) + ((Int32.ofInt r_12).toInt64)), zmk, zmk, zmk] [.long ((((((2657 * 31) + ((Int32.ofInt wy).toInt64)) * 31) + ((Int32.ofInt r_12).toInt64)) * 31) + ((Int32.ofInt r_17).toInt64))] w ov w' c s
  refine Zr_st (q := (48, [zp a0, zp p_3, .long ((((((2657 * 31) + ((Int32.ofInt wy).toInt64)) * 31) + ((Int32.ofInt r_12).toInt64)) * 31) + ((Int32.ofInt r_17).toInt64)), zmk, zmk, zmk], [])) rfl rfl rfl ?_
  show Zr sc 100 48 [zp a0, zp p_3, .long ((((((2657 * 31) + ((Int32.ofInt wy).toInt64)) * 31) + ((Int32.ofInt r_12).toInt64)) * 31) + ((Int32.ofInt r_17).toInt64)), zmk, zmk, zmk] [] w ov w' c s
  refine Zr_st (q := (49, [zp a0, zp p_3, .long ((((((2657 * 31) + ((Int32.ofInt wy).toInt64)) * 31) + ((Int32.ofInt r_12).toInt64)) * 31) + ((Int32.ofInt r_17).toInt64)), zmk, zmk, zmk], [.long ((((((2657 * 31) + ((Int32.ofInt wy).toInt64)) * 31) + ((Int32.ofInt r_12).toInt64)) * 31) + ((Int32.ofInt r_17).toInt64))])) rfl rfl rfl ?_
  show Zr sc 100 49 [zp a0, zp p_3, .long ((((((2657 * 31) + ((Int32.ofInt wy).toInt64)) * 31) + ((Int32.ofInt r_12).toInt64)) * 31) + ((Int32.ofInt r_17).toInt64)), zmk, zmk, zmk] [.long ((((((2657 * 31) + ((Int32.ofInt wy).toInt64)) * 31) + ((Int32.ofInt r_12).toInt64)) * 31) + ((Int32.ofInt r_17).toInt64))] w ov w' c s
  refine rl_lc (z := 31) rfl rfl (by decide) ?_
  show Zr sc 100 52 [zp a0, zp p_3, .long ((((((2657 * 31) + ((Int32.ofInt wy).toInt64)) * 31) + ((Int32.ofInt r_12).toInt64)) * 31) + ((Int32.ofInt r_17).toInt64)), zmk, zmk, zmk] [.long 31, .long ((((((2657 * 31) + ((Int32.ofInt wy).toInt64)) * 31) + ((Int32.ofInt r_12).toInt64)) * 31) + ((Int32.ofInt r_17).toInt64))] w ov w' c s
  refine rl_lmul rfl ?_
  show Zr sc 100 53 [zp a0, zp p_3, .long ((((((2657 * 31) + ((Int32.ofInt wy).toInt64)) * 31) + ((Int32.ofInt r_12).toInt64)) * 31) + ((Int32.ofInt r_17).toInt64)), zmk, zmk, zmk] [.long (((((((2657 * 31) + ((Int32.ofInt wy).toInt64)) * 31) + ((Int32.ofInt r_12).toInt64)) * 31) + ((Int32.ofInt r_17).toInt64)) * 31)] w ov w' c s
  refine Zr_st (q := (54, [zp a0, zp p_3, .long ((((((2657 * 31) + ((Int32.ofInt wy).toInt64)) * 31) + ((Int32.ofInt r_12).toInt64)) * 31) + ((Int32.ofInt r_17).toInt64)), zmk, zmk, zmk], [zp p_3, .long (((((((2657 * 31) + ((Int32.ofInt wy).toInt64)) * 31) + ((Int32.ofInt r_12).toInt64)) * 31) + ((Int32.ofInt r_17).toInt64)) * 31)])) rfl rfl rfl ?_
  show Zr sc 100 54 [zp a0, zp p_3, .long ((((((2657 * 31) + ((Int32.ofInt wy).toInt64)) * 31) + ((Int32.ofInt r_12).toInt64)) * 31) + ((Int32.ofInt r_17).toInt64)), zmk, zmk, zmk] [zp p_3, .long (((((((2657 * 31) + ((Int32.ofInt wy).toInt64)) * 31) + ((Int32.ofInt r_12).toInt64)) * 31) + ((Int32.ofInt r_17).toInt64)) * 31)] w ov w' c s
  obtain ⟨cn_18, fs_19, hw_20, hcn_21, h⟩ := h
  have hz_22 : ∃ kd, zinv 100 (.invokevirtual 131) [zp p_3, .long (((((((2657 * 31) + ((Int32.ofInt wy).toInt64)) * 31) + ((Int32.ofInt r_12).toInt64)) * 31) + ((Int32.ofInt r_17).toInt64)) * 31)] (false, w) = some (kd, 101, [zp p_3], [.long (((((((2657 * 31) + ((Int32.ofInt wy).toInt64)) * 31) + ((Int32.ofInt r_12).toInt64)) * 31) + ((Int32.ofInt r_17).toInt64)) * 31)]) ∧ decide (kd < 6) = true := by rcases hcn_21 with rfl | rfl | rfl <;> exact zinv_u hw_20 rfl rfl rfl rfl rfl rfl rfl
  obtain ⟨kd_23, hz_22⟩ := hz_22
  obtain ⟨r_26, hk_9, h⟩ := h
  refine rn_cal0 (ins := .invokevirtual 131) (rest := [.long (((((((2657 * 31) + ((Int32.ofInt wy).toInt64)) * 31) + ((Int32.ofInt r_12).toInt64)) * 31) + ((Int32.ofInt r_17).toInt64)) * 31)]) rfl rfl rfl rfl hz_22.1 rfl hz_22.2 hk_9 ?_
  show Zr sc 100 57 [zp a0, zp p_3, .long ((((((2657 * 31) + ((Int32.ofInt wy).toInt64)) * 31) + ((Int32.ofInt r_12).toInt64)) * 31) + ((Int32.ofInt r_17).toInt64)), zmk, zmk, zmk] [zj r_26, .long (((((((2657 * 31) + ((Int32.ofInt wy).toInt64)) * 31) + ((Int32.ofInt r_12).toInt64)) * 31) + ((Int32.ofInt r_17).toInt64)) * 31)] w ov w' c s
  refine rl_i2l rfl ?_
  show Zr sc 100 58 [zp a0, zp p_3, .long ((((((2657 * 31) + ((Int32.ofInt wy).toInt64)) * 31) + ((Int32.ofInt r_12).toInt64)) * 31) + ((Int32.ofInt r_17).toInt64)), zmk, zmk, zmk] [.long ((Int32.ofInt r_26).toInt64), .long (((((((2657 * 31) + ((Int32.ofInt wy).toInt64)) * 31) + ((Int32.ofInt r_12).toInt64)) * 31) + ((Int32.ofInt r_17).toInt64)) * 31)] w ov w' c s
  refine rl_ladd rfl ?_
  show Zr sc 100 59 [zp a0, zp p_3, .long ((((((2657 * 31) + ((Int32.ofInt wy).toInt64)) * 31) + ((Int32.ofInt r_12).toInt64)) * 31) + ((Int32.ofInt r_17).toInt64)), zmk, zmk, zmk] [.long ((((((((2657 * 31) + ((Int32.ofInt wy).toInt64)) * 31) + ((Int32.ofInt r_12).toInt64)) * 31) + ((Int32.ofInt r_17).toInt64)) * 31) + ((Int32.ofInt r_26).toInt64))] w ov w' c s
  refine Zr_st (q := (60, [zp a0, zp p_3, .long ((((((((2657 * 31) + ((Int32.ofInt wy).toInt64)) * 31) + ((Int32.ofInt r_12).toInt64)) * 31) + ((Int32.ofInt r_17).toInt64)) * 31) + ((Int32.ofInt r_26).toInt64)), zmk, zmk, zmk], [])) rfl rfl rfl ?_
  show Zr sc 100 60 [zp a0, zp p_3, .long ((((((((2657 * 31) + ((Int32.ofInt wy).toInt64)) * 31) + ((Int32.ofInt r_12).toInt64)) * 31) + ((Int32.ofInt r_17).toInt64)) * 31) + ((Int32.ofInt r_26).toInt64)), zmk, zmk, zmk] [] w ov w' c s
  refine Zr_st (q := (61, [zp a0, zp p_3, .long ((((((((2657 * 31) + ((Int32.ofInt wy).toInt64)) * 31) + ((Int32.ofInt r_12).toInt64)) * 31) + ((Int32.ofInt r_17).toInt64)) * 31) + ((Int32.ofInt r_26).toInt64)), zmk, zmk, zmk], [.long ((((((((2657 * 31) + ((Int32.ofInt wy).toInt64)) * 31) + ((Int32.ofInt r_12).toInt64)) * 31) + ((Int32.ofInt r_17).toInt64)) * 31) + ((Int32.ofInt r_26).toInt64))])) rfl rfl rfl ?_
  show Zr sc 100 61 [zp a0, zp p_3, .long ((((((((2657 * 31) + ((Int32.ofInt wy).toInt64)) * 31) + ((Int32.ofInt r_12).toInt64)) * 31) + ((Int32.ofInt r_17).toInt64)) * 31) + ((Int32.ofInt r_26).toInt64)), zmk, zmk, zmk] [.long ((((((((2657 * 31) + ((Int32.ofInt wy).toInt64)) * 31) + ((Int32.ofInt r_12).toInt64)) * 31) + ((Int32.ofInt r_17).toInt64)) * 31) + ((Int32.ofInt r_26).toInt64))] w ov w' c s
  refine rl_lc (z := 31) rfl rfl (by decide) ?_
  show Zr sc 100 64 [zp a0, zp p_3, .long ((((((((2657 * 31) + ((Int32.ofInt wy).toInt64)) * 31) + ((Int32.ofInt r_12).toInt64)) * 31) + ((Int32.ofInt r_17).toInt64)) * 31) + ((Int32.ofInt r_26).toInt64)), zmk, zmk, zmk] [.long 31, .long ((((((((2657 * 31) + ((Int32.ofInt wy).toInt64)) * 31) + ((Int32.ofInt r_12).toInt64)) * 31) + ((Int32.ofInt r_17).toInt64)) * 31) + ((Int32.ofInt r_26).toInt64))] w ov w' c s
  refine rl_lmul rfl ?_
  show Zr sc 100 65 [zp a0, zp p_3, .long ((((((((2657 * 31) + ((Int32.ofInt wy).toInt64)) * 31) + ((Int32.ofInt r_12).toInt64)) * 31) + ((Int32.ofInt r_17).toInt64)) * 31) + ((Int32.ofInt r_26).toInt64)), zmk, zmk, zmk] [.long (((((((((2657 * 31) + ((Int32.ofInt wy).toInt64)) * 31) + ((Int32.ofInt r_12).toInt64)) * 31) + ((Int32.ofInt r_17).toInt64)) * 31) + ((Int32.ofInt r_26).toInt64)) * 31)] w ov w' c s
  refine Zr_st (q := (66, [zp a0, zp p_3, .long ((((((((2657 * 31) + ((Int32.ofInt wy).toInt64)) * 31) + ((Int32.ofInt r_12).toInt64)) * 31) + ((Int32.ofInt r_17).toInt64)) * 31) + ((Int32.ofInt r_26).toInt64)), zmk, zmk, zmk], [zp p_3, .long (((((((((2657 * 31) + ((Int32.ofInt wy).toInt64)) * 31) + ((Int32.ofInt r_12).toInt64)) * 31) + ((Int32.ofInt r_17).toInt64)) * 31) + ((Int32.ofInt r_26).toInt64)) * 31)])) rfl rfl rfl ?_
  show Zr sc 100 66 [zp a0, zp p_3, .long ((((((((2657 * 31) + ((Int32.ofInt wy).toInt64)) * 31) + ((Int32.ofInt r_12).toInt64)) * 31) + ((Int32.ofInt r_17).toInt64)) * 31) + ((Int32.ofInt r_26).toInt64)), zmk, zmk, zmk] [zp p_3, .long (((((((((2657 * 31) + ((Int32.ofInt wy).toInt64)) * 31) + ((Int32.ofInt r_12).toInt64)) * 31) + ((Int32.ofInt r_17).toInt64)) * 31) + ((Int32.ofInt r_26).toInt64)) * 31)] w ov w' c s
  obtain ⟨cn_27, fs_28, hw_29, hcn_30, h⟩ := h
  have hz_31 : ∃ kd, zinv 100 (.invokevirtual 113) [zp p_3, .long (((((((((2657 * 31) + ((Int32.ofInt wy).toInt64)) * 31) + ((Int32.ofInt r_12).toInt64)) * 31) + ((Int32.ofInt r_17).toInt64)) * 31) + ((Int32.ofInt r_26).toInt64)) * 31)] (false, w) = some (kd, 6, [zp p_3], [.long (((((((((2657 * 31) + ((Int32.ofInt wy).toInt64)) * 31) + ((Int32.ofInt r_12).toInt64)) * 31) + ((Int32.ofInt r_17).toInt64)) * 31) + ((Int32.ofInt r_26).toInt64)) * 31)]) ∧ decide (kd < 6) = true := by rcases hcn_30 with rfl | rfl | rfl <;> exact zinv_u hw_29 rfl rfl rfl rfl rfl rfl rfl
  obtain ⟨kd_32, hz_31⟩ := hz_31
  obtain ⟨p_35, hk_9, h⟩ := h
  refine rn_cal0 (ins := .invokevirtual 113) (rest := [.long (((((((((2657 * 31) + ((Int32.ofInt wy).toInt64)) * 31) + ((Int32.ofInt r_12).toInt64)) * 31) + ((Int32.ofInt r_17).toInt64)) * 31) + ((Int32.ofInt r_26).toInt64)) * 31)]) rfl rfl rfl rfl hz_31.1 rfl hz_31.2 hk_9 ?_
  show Zr sc 100 69 [zp a0, zp p_3, .long ((((((((2657 * 31) + ((Int32.ofInt wy).toInt64)) * 31) + ((Int32.ofInt r_12).toInt64)) * 31) + ((Int32.ofInt r_17).toInt64)) * 31) + ((Int32.ofInt r_26).toInt64)), zmk, zmk, zmk] [zp p_35, .long (((((((((2657 * 31) + ((Int32.ofInt wy).toInt64)) * 31) + ((Int32.ofInt r_12).toInt64)) * 31) + ((Int32.ofInt r_17).toInt64)) * 31) + ((Int32.ofInt r_26).toInt64)) * 31)] w ov w' c s
  obtain ⟨fs_37, hl_36, h⟩ := h
  obtain ⟨r_40, hk_9, h⟩ := h
  refine rn_cal0 (ins := .invokevirtual 138) (rest := [.long (((((((((2657 * 31) + ((Int32.ofInt wy).toInt64)) * 31) + ((Int32.ofInt r_12).toInt64)) * 31) + ((Int32.ofInt r_17).toInt64)) * 31) + ((Int32.ofInt r_26).toInt64)) * 31)]) rfl rfl rfl rfl (zinv_v (fs := _) hl_36 rfl rfl rfl rfl) rfl rfl hk_9 ?_
  show Zr sc 100 72 [zp a0, zp p_3, .long ((((((((2657 * 31) + ((Int32.ofInt wy).toInt64)) * 31) + ((Int32.ofInt r_12).toInt64)) * 31) + ((Int32.ofInt r_17).toInt64)) * 31) + ((Int32.ofInt r_26).toInt64)), zmk, zmk, zmk] [zj r_40, .long (((((((((2657 * 31) + ((Int32.ofInt wy).toInt64)) * 31) + ((Int32.ofInt r_12).toInt64)) * 31) + ((Int32.ofInt r_17).toInt64)) * 31) + ((Int32.ofInt r_26).toInt64)) * 31)] w ov w' c s
  refine rl_i2l rfl ?_
  show Zr sc 100 73 [zp a0, zp p_3, .long ((((((((2657 * 31) + ((Int32.ofInt wy).toInt64)) * 31) + ((Int32.ofInt r_12).toInt64)) * 31) + ((Int32.ofInt r_17).toInt64)) * 31) + ((Int32.ofInt r_26).toInt64)), zmk, zmk, zmk] [.long ((Int32.ofInt r_40).toInt64), .long (((((((((2657 * 31) + ((Int32.ofInt wy).toInt64)) * 31) + ((Int32.ofInt r_12).toInt64)) * 31) + ((Int32.ofInt r_17).toInt64)) * 31) + ((Int32.ofInt r_26).toInt64)) * 31)] w ov w' c s
  refine rl_ladd rfl ?_
  show Zr sc 100 74 [zp a0, zp p_3, .long ((((((((2657 * 31) + ((Int32.ofInt wy).toInt64)) * 31) + ((Int32.ofInt r_12).toInt64)) * 31) + ((Int32.ofInt r_17).toInt64)) * 31) + ((Int32.ofInt r_26).toInt64)), zmk, zmk, zmk] [.long ((((((((((2657 * 31) + ((Int32.ofInt wy).toInt64)) * 31) + ((Int32.ofInt r_12).toInt64)) * 31) + ((Int32.ofInt r_17).toInt64)) * 31) + ((Int32.ofInt r_26).toInt64)) * 31) + ((Int32.ofInt r_40).toInt64))] w ov w' c s
  refine Zr_st (q := (75, [zp a0, zp p_3, .long ((((((((((2657 * 31) + ((Int32.ofInt wy).toInt64)) * 31) + ((Int32.ofInt r_12).toInt64)) * 31) + ((Int32.ofInt r_17).toInt64)) * 31) + ((Int32.ofInt r_26).toInt64)) * 31) + ((Int32.ofInt r_40).toInt64)), zmk, zmk, zmk], [])) rfl rfl rfl ?_
  show Zr sc 100 75 [zp a0, zp p_3, .long ((((((((((2657 * 31) + ((Int32.ofInt wy).toInt64)) * 31) + ((Int32.ofInt r_12).toInt64)) * 31) + ((Int32.ofInt r_17).toInt64)) * 31) + ((Int32.ofInt r_26).toInt64)) * 31) + ((Int32.ofInt r_40).toInt64)), zmk, zmk, zmk] [] w ov w' c s
  refine Zr_st (q := (76, [zp a0, zp p_3, .long ((((((((((2657 * 31) + ((Int32.ofInt wy).toInt64)) * 31) + ((Int32.ofInt r_12).toInt64)) * 31) + ((Int32.ofInt r_17).toInt64)) * 31) + ((Int32.ofInt r_26).toInt64)) * 31) + ((Int32.ofInt r_40).toInt64)), zmk, zmk, zmk], [.long ((((((((((2657 * 31) + ((Int32.ofInt wy).toInt64)) * 31) + ((Int32.ofInt r_12).toInt64)) * 31) + ((Int32.ofInt r_17).toInt64)) * 31) + ((Int32.ofInt r_26).toInt64)) * 31) + ((Int32.ofInt r_40).toInt64))])) rfl rfl rfl ?_
  show Zr sc 100 76 [zp a0, zp p_3, .long ((((((((((2657 * 31) + ((Int32.ofInt wy).toInt64)) * 31) + ((Int32.ofInt r_12).toInt64)) * 31) + ((Int32.ofInt r_17).toInt64)) * 31) + ((Int32.ofInt r_26).toInt64)) * 31) + ((Int32.ofInt r_40).toInt64)), zmk, zmk, zmk] [.long ((((((((((2657 * 31) + ((Int32.ofInt wy).toInt64)) * 31) + ((Int32.ofInt r_12).toInt64)) * 31) + ((Int32.ofInt r_17).toInt64)) * 31) + ((Int32.ofInt r_26).toInt64)) * 31) + ((Int32.ofInt r_40).toInt64))] w ov w' c s
  refine rl_lc (z := 31) rfl rfl (by decide) ?_
  show Zr sc 100 79 [zp a0, zp p_3, .long ((((((((((2657 * 31) + ((Int32.ofInt wy).toInt64)) * 31) + ((Int32.ofInt r_12).toInt64)) * 31) + ((Int32.ofInt r_17).toInt64)) * 31) + ((Int32.ofInt r_26).toInt64)) * 31) + ((Int32.ofInt r_40).toInt64)), zmk, zmk, zmk] [.long 31, .long ((((((((((2657 * 31) + ((Int32.ofInt wy).toInt64)) * 31) + ((Int32.ofInt r_12).toInt64)) * 31) + ((Int32.ofInt r_17).toInt64)) * 31) + ((Int32.ofInt r_26).toInt64)) * 31) + ((Int32.ofInt r_40).toInt64))] w ov w' c s
  refine rl_lmul rfl ?_
  show Zr sc 100 80 [zp a0, zp p_3, .long ((((((((((2657 * 31) + ((Int32.ofInt wy).toInt64)) * 31) + ((Int32.ofInt r_12).toInt64)) * 31) + ((Int32.ofInt r_17).toInt64)) * 31) + ((Int32.ofInt r_26).toInt64)) * 31) + ((Int32.ofInt r_40).toInt64)), zmk, zmk, zmk] [.long (((((((((((2657 * 31) + ((Int32.ofInt wy).toInt64)) * 31) + ((Int32.ofInt r_12).toInt64)) * 31) + ((Int32.ofInt r_17).toInt64)) * 31) + ((Int32.ofInt r_26).toInt64)) * 31) + ((Int32.ofInt r_40).toInt64)) * 31)] w ov w' c s
  refine Zr_st (q := (81, [zp a0, zp p_3, .long ((((((((((2657 * 31) + ((Int32.ofInt wy).toInt64)) * 31) + ((Int32.ofInt r_12).toInt64)) * 31) + ((Int32.ofInt r_17).toInt64)) * 31) + ((Int32.ofInt r_26).toInt64)) * 31) + ((Int32.ofInt r_40).toInt64)), zmk, zmk, zmk], [zp a0, .long (((((((((((2657 * 31) + ((Int32.ofInt wy).toInt64)) * 31) + ((Int32.ofInt r_12).toInt64)) * 31) + ((Int32.ofInt r_17).toInt64)) * 31) + ((Int32.ofInt r_26).toInt64)) * 31) + ((Int32.ofInt r_40).toInt64)) * 31)])) rfl rfl rfl ?_
  show Zr sc 100 81 [zp a0, zp p_3, .long ((((((((((2657 * 31) + ((Int32.ofInt wy).toInt64)) * 31) + ((Int32.ofInt r_12).toInt64)) * 31) + ((Int32.ofInt r_17).toInt64)) * 31) + ((Int32.ofInt r_26).toInt64)) * 31) + ((Int32.ofInt r_40).toInt64)), zmk, zmk, zmk] [zp a0, .long (((((((((((2657 * 31) + ((Int32.ofInt wy).toInt64)) * 31) + ((Int32.ofInt r_12).toInt64)) * 31) + ((Int32.ofInt r_17).toInt64)) * 31) + ((Int32.ofInt r_26).toInt64)) * 31) + ((Int32.ofInt r_40).toInt64)) * 31)] w ov w' c s
  obtain ⟨r_43, hk_9, h⟩ := h
  refine rn_cal0 (ins := .invokevirtual 208) (rest := [.long (((((((((((2657 * 31) + ((Int32.ofInt wy).toInt64)) * 31) + ((Int32.ofInt r_12).toInt64)) * 31) + ((Int32.ofInt r_17).toInt64)) * 31) + ((Int32.ofInt r_26).toInt64)) * 31) + ((Int32.ofInt r_40).toInt64)) * 31)]) rfl rfl rfl rfl (zinv_v (fs := _) L0 rfl rfl rfl rfl) rfl rfl hk_9 ?_
  show Zr sc 100 84 [zp a0, zp p_3, .long ((((((((((2657 * 31) + ((Int32.ofInt wy).toInt64)) * 31) + ((Int32.ofInt r_12).toInt64)) * 31) + ((Int32.ofInt r_17).toInt64)) * 31) + ((Int32.ofInt r_26).toInt64)) * 31) + ((Int32.ofInt r_40).toInt64)), zmk, zmk, zmk] [zj r_43, .long (((((((((((2657 * 31) + ((Int32.ofInt wy).toInt64)) * 31) + ((Int32.ofInt r_12).toInt64)) * 31) + ((Int32.ofInt r_17).toInt64)) * 31) + ((Int32.ofInt r_26).toInt64)) * 31) + ((Int32.ofInt r_40).toInt64)) * 31)] w ov w' c s
  refine rl_i2l rfl ?_
  show Zr sc 100 85 [zp a0, zp p_3, .long ((((((((((2657 * 31) + ((Int32.ofInt wy).toInt64)) * 31) + ((Int32.ofInt r_12).toInt64)) * 31) + ((Int32.ofInt r_17).toInt64)) * 31) + ((Int32.ofInt r_26).toInt64)) * 31) + ((Int32.ofInt r_40).toInt64)), zmk, zmk, zmk] [.long ((Int32.ofInt r_43).toInt64), .long (((((((((((2657 * 31) + ((Int32.ofInt wy).toInt64)) * 31) + ((Int32.ofInt r_12).toInt64)) * 31) + ((Int32.ofInt r_17).toInt64)) * 31) + ((Int32.ofInt r_26).toInt64)) * 31) + ((Int32.ofInt r_40).toInt64)) * 31)] w ov w' c s
  refine rl_ladd rfl ?_
  show Zr sc 100 86 [zp a0, zp p_3, .long ((((((((((2657 * 31) + ((Int32.ofInt wy).toInt64)) * 31) + ((Int32.ofInt r_12).toInt64)) * 31) + ((Int32.ofInt r_17).toInt64)) * 31) + ((Int32.ofInt r_26).toInt64)) * 31) + ((Int32.ofInt r_40).toInt64)), zmk, zmk, zmk] [.long ((((((((((((2657 * 31) + ((Int32.ofInt wy).toInt64)) * 31) + ((Int32.ofInt r_12).toInt64)) * 31) + ((Int32.ofInt r_17).toInt64)) * 31) + ((Int32.ofInt r_26).toInt64)) * 31) + ((Int32.ofInt r_40).toInt64)) * 31) + ((Int32.ofInt r_43).toInt64))] w ov w' c s
  refine Zr_st (q := (87, [zp a0, zp p_3, .long ((((((((((((2657 * 31) + ((Int32.ofInt wy).toInt64)) * 31) + ((Int32.ofInt r_12).toInt64)) * 31) + ((Int32.ofInt r_17).toInt64)) * 31) + ((Int32.ofInt r_26).toInt64)) * 31) + ((Int32.ofInt r_40).toInt64)) * 31) + ((Int32.ofInt r_43).toInt64)), zmk, zmk, zmk], [])) rfl rfl rfl ?_
  show Zr sc 100 87 [zp a0, zp p_3, .long ((((((((((((2657 * 31) + ((Int32.ofInt wy).toInt64)) * 31) + ((Int32.ofInt r_12).toInt64)) * 31) + ((Int32.ofInt r_17).toInt64)) * 31) + ((Int32.ofInt r_26).toInt64)) * 31) + ((Int32.ofInt r_40).toInt64)) * 31) + ((Int32.ofInt r_43).toInt64)), zmk, zmk, zmk] [] w ov w' c s
  refine Zr_st (q := (88, [zp a0, zp p_3, .long ((((((((((((2657 * 31) + ((Int32.ofInt wy).toInt64)) * 31) + ((Int32.ofInt r_12).toInt64)) * 31) + ((Int32.ofInt r_17).toInt64)) * 31) + ((Int32.ofInt r_26).toInt64)) * 31) + ((Int32.ofInt r_40).toInt64)) * 31) + ((Int32.ofInt r_43).toInt64)), zmk, zmk, zmk], [.long ((((((((((((2657 * 31) + ((Int32.ofInt wy).toInt64)) * 31) + ((Int32.ofInt r_12).toInt64)) * 31) + ((Int32.ofInt r_17).toInt64)) * 31) + ((Int32.ofInt r_26).toInt64)) * 31) + ((Int32.ofInt r_40).toInt64)) * 31) + ((Int32.ofInt r_43).toInt64))])) rfl rfl rfl ?_
  show Zr sc 100 88 [zp a0, zp p_3, .long ((((((((((((2657 * 31) + ((Int32.ofInt wy).toInt64)) * 31) + ((Int32.ofInt r_12).toInt64)) * 31) + ((Int32.ofInt r_17).toInt64)) * 31) + ((Int32.ofInt r_26).toInt64)) * 31) + ((Int32.ofInt r_40).toInt64)) * 31) + ((Int32.ofInt r_43).toInt64)), zmk, zmk, zmk] [.long ((((((((((((2657 * 31) + ((Int32.ofInt wy).toInt64)) * 31) + ((Int32.ofInt r_12).toInt64)) * 31) + ((Int32.ofInt r_17).toInt64)) * 31) + ((Int32.ofInt r_26).toInt64)) * 31) + ((Int32.ofInt r_40).toInt64)) * 31) + ((Int32.ofInt r_43).toInt64))] w ov w' c s
  refine rl_lc (z := 31) rfl rfl (by decide) ?_
  show Zr sc 100 91 [zp a0, zp p_3, .long ((((((((((((2657 * 31) + ((Int32.ofInt wy).toInt64)) * 31) + ((Int32.ofInt r_12).toInt64)) * 31) + ((Int32.ofInt r_17).toInt64)) * 31) + ((Int32.ofInt r_26).toInt64)) * 31) + ((Int32.ofInt r_40).toInt64)) * 31) + ((Int32.ofInt r_43).toInt64)), zmk, zmk, zmk] [.long 31, .long ((((((((((((2657 * 31) + ((Int32.ofInt wy).toInt64)) * 31) + ((Int32.ofInt r_12).toInt64)) * 31) + ((Int32.ofInt r_17).toInt64)) * 31) + ((Int32.ofInt r_26).toInt64)) * 31) + ((Int32.ofInt r_40).toInt64)) * 31) + ((Int32.ofInt r_43).toInt64))] w ov w' c s
  refine rl_lmul rfl ?_
  show Zr sc 100 92 [zp a0, zp p_3, .long ((((((((((((2657 * 31) + ((Int32.ofInt wy).toInt64)) * 31) + ((Int32.ofInt r_12).toInt64)) * 31) + ((Int32.ofInt r_17).toInt64)) * 31) + ((Int32.ofInt r_26).toInt64)) * 31) + ((Int32.ofInt r_40).toInt64)) * 31) + ((Int32.ofInt r_43).toInt64)), zmk, zmk, zmk] [.long (((((((((((((2657 * 31) + ((Int32.ofInt wy).toInt64)) * 31) + ((Int32.ofInt r_12).toInt64)) * 31) + ((Int32.ofInt r_17).toInt64)) * 31) + ((Int32.ofInt r_26).toInt64)) * 31) + ((Int32.ofInt r_40).toInt64)) * 31) + ((Int32.ofInt r_43).toInt64)) * 31)] w ov w' c s
  refine Zr_st (q := (93, [zp a0, zp p_3, .long ((((((((((((2657 * 31) + ((Int32.ofInt wy).toInt64)) * 31) + ((Int32.ofInt r_12).toInt64)) * 31) + ((Int32.ofInt r_17).toInt64)) * 31) + ((Int32.ofInt r_26).toInt64)) * 31) + ((Int32.ofInt r_40).toInt64)) * 31) + ((Int32.ofInt r_43).toInt64)), zmk, zmk, zmk], [zp a0, .long (((((((((((((2657 * 31) + ((Int32.ofInt wy).toInt64)) * 31) + ((Int32.ofInt r_12).toInt64)) * 31) + ((Int32.ofInt r_17).toInt64)) * 31) + ((Int32.ofInt r_26).toInt64)) * 31) + ((Int32.ofInt r_40).toInt64)) * 31) + ((Int32.ofInt r_43).toInt64)) * 31)])) rfl rfl rfl ?_
  show Zr sc 100 93 [zp a0, zp p_3, .long ((((((((((((2657 * 31) + ((Int32.ofInt wy).toInt64)) * 31) + ((Int32.ofInt r_12).toInt64)) * 31) + ((Int32.ofInt r_17).toInt64)) * 31) + ((Int32.ofInt r_26).toInt64)) * 31) + ((Int32.ofInt r_40).toInt64)) * 31) + ((Int32.ofInt r_43).toInt64)), zmk, zmk, zmk] [zp a0, .long (((((((((((((2657 * 31) + ((Int32.ofInt wy).toInt64)) * 31) + ((Int32.ofInt r_12).toInt64)) * 31) + ((Int32.ofInt r_17).toInt64)) * 31) + ((Int32.ofInt r_26).toInt64)) * 31) + ((Int32.ofInt r_40).toInt64)) * 31) + ((Int32.ofInt r_43).toInt64)) * 31)] w ov w' c s
  obtain ⟨r_46, hk_9, h⟩ := h
  refine rn_cal0 (ins := .invokevirtual 211) (rest := [.long (((((((((((((2657 * 31) + ((Int32.ofInt wy).toInt64)) * 31) + ((Int32.ofInt r_12).toInt64)) * 31) + ((Int32.ofInt r_17).toInt64)) * 31) + ((Int32.ofInt r_26).toInt64)) * 31) + ((Int32.ofInt r_40).toInt64)) * 31) + ((Int32.ofInt r_43).toInt64)) * 31)]) rfl rfl rfl rfl (zinv_v (fs := _) L0 rfl rfl rfl rfl) rfl rfl hk_9 ?_
  show Zr sc 100 96 [zp a0, zp p_3, .long ((((((((((((2657 * 31) + ((Int32.ofInt wy).toInt64)) * 31) + ((Int32.ofInt r_12).toInt64)) * 31) + ((Int32.ofInt r_17).toInt64)) * 31) + ((Int32.ofInt r_26).toInt64)) * 31) + ((Int32.ofInt r_40).toInt64)) * 31) + ((Int32.ofInt r_43).toInt64)), zmk, zmk, zmk] [zj r_46, .long (((((((((((((2657 * 31) + ((Int32.ofInt wy).toInt64)) * 31) + ((Int32.ofInt r_12).toInt64)) * 31) + ((Int32.ofInt r_17).toInt64)) * 31) + ((Int32.ofInt r_26).toInt64)) * 31) + ((Int32.ofInt r_40).toInt64)) * 31) + ((Int32.ofInt r_43).toInt64)) * 31)] w ov w' c s
  refine rl_i2l rfl ?_
  show Zr sc 100 97 [zp a0, zp p_3, .long ((((((((((((2657 * 31) + ((Int32.ofInt wy).toInt64)) * 31) + ((Int32.ofInt r_12).toInt64)) * 31) + ((Int32.ofInt r_17).toInt64)) * 31) + ((Int32.ofInt r_26).toInt64)) * 31) + ((Int32.ofInt r_40).toInt64)) * 31) + ((Int32.ofInt r_43).toInt64)), zmk, zmk, zmk] [.long ((Int32.ofInt r_46).toInt64), .long (((((((((((((2657 * 31) + ((Int32.ofInt wy).toInt64)) * 31) + ((Int32.ofInt r_12).toInt64)) * 31) + ((Int32.ofInt r_17).toInt64)) * 31) + ((Int32.ofInt r_26).toInt64)) * 31) + ((Int32.ofInt r_40).toInt64)) * 31) + ((Int32.ofInt r_43).toInt64)) * 31)] w ov w' c s
  refine rl_ladd rfl ?_
  show Zr sc 100 98 [zp a0, zp p_3, .long ((((((((((((2657 * 31) + ((Int32.ofInt wy).toInt64)) * 31) + ((Int32.ofInt r_12).toInt64)) * 31) + ((Int32.ofInt r_17).toInt64)) * 31) + ((Int32.ofInt r_26).toInt64)) * 31) + ((Int32.ofInt r_40).toInt64)) * 31) + ((Int32.ofInt r_43).toInt64)), zmk, zmk, zmk] [.long ((((((((((((((2657 * 31) + ((Int32.ofInt wy).toInt64)) * 31) + ((Int32.ofInt r_12).toInt64)) * 31) + ((Int32.ofInt r_17).toInt64)) * 31) + ((Int32.ofInt r_26).toInt64)) * 31) + ((Int32.ofInt r_40).toInt64)) * 31) + ((Int32.ofInt r_43).toInt64)) * 31) + ((Int32.ofInt r_46).toInt64))] w ov w' c s
  refine Zr_st (q := (99, [zp a0, zp p_3, .long ((((((((((((((2657 * 31) + ((Int32.ofInt wy).toInt64)) * 31) + ((Int32.ofInt r_12).toInt64)) * 31) + ((Int32.ofInt r_17).toInt64)) * 31) + ((Int32.ofInt r_26).toInt64)) * 31) + ((Int32.ofInt r_40).toInt64)) * 31) + ((Int32.ofInt r_43).toInt64)) * 31) + ((Int32.ofInt r_46).toInt64)), zmk, zmk, zmk], [])) rfl rfl rfl ?_
  show Zr sc 100 99 [zp a0, zp p_3, .long ((((((((((((((2657 * 31) + ((Int32.ofInt wy).toInt64)) * 31) + ((Int32.ofInt r_12).toInt64)) * 31) + ((Int32.ofInt r_17).toInt64)) * 31) + ((Int32.ofInt r_26).toInt64)) * 31) + ((Int32.ofInt r_40).toInt64)) * 31) + ((Int32.ofInt r_43).toInt64)) * 31) + ((Int32.ofInt r_46).toInt64)), zmk, zmk, zmk] [] w ov w' c s
  refine Zr_st (q := (100, [zp a0, zp p_3, .long ((((((((((((((2657 * 31) + ((Int32.ofInt wy).toInt64)) * 31) + ((Int32.ofInt r_12).toInt64)) * 31) + ((Int32.ofInt r_17).toInt64)) * 31) + ((Int32.ofInt r_26).toInt64)) * 31) + ((Int32.ofInt r_40).toInt64)) * 31) + ((Int32.ofInt r_43).toInt64)) * 31) + ((Int32.ofInt r_46).toInt64)), zmk, zmk, zmk], [.long ((((((((((((((2657 * 31) + ((Int32.ofInt wy).toInt64)) * 31) + ((Int32.ofInt r_12).toInt64)) * 31) + ((Int32.ofInt r_17).toInt64)) * 31) + ((Int32.ofInt r_26).toInt64)) * 31) + ((Int32.ofInt r_40).toInt64)) * 31) + ((Int32.ofInt r_43).toInt64)) * 31) + ((Int32.ofInt r_46).toInt64))])) rfl rfl rfl ?_
  show Zr sc 100 100 [zp a0, zp p_3, .long ((((((((((((((2657 * 31) + ((Int32.ofInt wy).toInt64)) * 31) + ((Int32.ofInt r_12).toInt64)) * 31) + ((Int32.ofInt r_17).toInt64)) * 31) + ((Int32.ofInt r_26).toInt64)) * 31) + ((Int32.ofInt r_40).toInt64)) * 31) + ((Int32.ofInt r_43).toInt64)) * 31) + ((Int32.ofInt r_46).toInt64)), zmk, zmk, zmk] [.long ((((((((((((((2657 * 31) + ((Int32.ofInt wy).toInt64)) * 31) + ((Int32.ofInt r_12).toInt64)) * 31) + ((Int32.ofInt r_17).toInt64)) * 31) + ((Int32.ofInt r_26).toInt64)) * 31) + ((Int32.ofInt r_40).toInt64)) * 31) + ((Int32.ofInt r_43).toInt64)) * 31) + ((Int32.ofInt r_46).toInt64))] w ov w' c s
  refine rl_lc (z := 31) rfl rfl (by decide) ?_
  show Zr sc 100 103 [zp a0, zp p_3, .long ((((((((((((((2657 * 31) + ((Int32.ofInt wy).toInt64)) * 31) + ((Int32.ofInt r_12).toInt64)) * 31) + ((Int32.ofInt r_17).toInt64)) * 31) + ((Int32.ofInt r_26).toInt64)) * 31) + ((Int32.ofInt r_40).toInt64)) * 31) + ((Int32.ofInt r_43).toInt64)) * 31) + ((Int32.ofInt r_46).toInt64)), zmk, zmk, zmk] [.long 31, .long ((((((((((((((2657 * 31) + ((Int32.ofInt wy).toInt64)) * 31) + ((Int32.ofInt r_12).toInt64)) * 31) + ((Int32.ofInt r_17).toInt64)) * 31) + ((Int32.ofInt r_26).toInt64)) * 31) + ((Int32.ofInt r_40).toInt64)) * 31) + ((Int32.ofInt r_43).toInt64)) * 31) + ((Int32.ofInt r_46).toInt64))] w ov w' c s
  refine rl_lmul rfl ?_
  show Zr sc 100 104 [zp a0, zp p_3, .long ((((((((((((((2657 * 31) + ((Int32.ofInt wy).toInt64)) * 31) + ((Int32.ofInt r_12).toInt64)) * 31) + ((Int32.ofInt r_17).toInt64)) * 31) + ((Int32.ofInt r_26).toInt64)) * 31) + ((Int32.ofInt r_40).toInt64)) * 31) + ((Int32.ofInt r_43).toInt64)) * 31) + ((Int32.ofInt r_46).toInt64)), zmk, zmk, zmk] [.long (((((((((((((((2657 * 31) + ((Int32.ofInt wy).toInt64)) * 31) + ((Int32.ofInt r_12).toInt64)) * 31) + ((Int32.ofInt r_17).toInt64)) * 31) + ((Int32.ofInt r_26).toInt64)) * 31) + ((Int32.ofInt r_40).toInt64)) * 31) + ((Int32.ofInt r_43).toInt64)) * 31) + ((Int32.ofInt r_46).toInt64)) * 31)] w ov w' c s
  refine Zr_st (q := (105, [zp a0, zp p_3, .long ((((((((((((((2657 * 31) + ((Int32.ofInt wy).toInt64)) * 31) + ((Int32.ofInt r_12).toInt64)) * 31) + ((Int32.ofInt r_17).toInt64)) * 31) + ((Int32.ofInt r_26).toInt64)) * 31) + ((Int32.ofInt r_40).toInt64)) * 31) + ((Int32.ofInt r_43).toInt64)) * 31) + ((Int32.ofInt r_46).toInt64)), zmk, zmk, zmk], [zp a0, .long (((((((((((((((2657 * 31) + ((Int32.ofInt wy).toInt64)) * 31) + ((Int32.ofInt r_12).toInt64)) * 31) + ((Int32.ofInt r_17).toInt64)) * 31) + ((Int32.ofInt r_26).toInt64)) * 31) + ((Int32.ofInt r_40).toInt64)) * 31) + ((Int32.ofInt r_43).toInt64)) * 31) + ((Int32.ofInt r_46).toInt64)) * 31)])) rfl rfl rfl ?_
  show Zr sc 100 105 [zp a0, zp p_3, .long ((((((((((((((2657 * 31) + ((Int32.ofInt wy).toInt64)) * 31) + ((Int32.ofInt r_12).toInt64)) * 31) + ((Int32.ofInt r_17).toInt64)) * 31) + ((Int32.ofInt r_26).toInt64)) * 31) + ((Int32.ofInt r_40).toInt64)) * 31) + ((Int32.ofInt r_43).toInt64)) * 31) + ((Int32.ofInt r_46).toInt64)), zmk, zmk, zmk] [zp a0, .long (((((((((((((((2657 * 31) + ((Int32.ofInt wy).toInt64)) * 31) + ((Int32.ofInt r_12).toInt64)) * 31) + ((Int32.ofInt r_17).toInt64)) * 31) + ((Int32.ofInt r_26).toInt64)) * 31) + ((Int32.ofInt r_40).toInt64)) * 31) + ((Int32.ofInt r_43).toInt64)) * 31) + ((Int32.ofInt r_46).toInt64)) * 31)] w ov w' c s
  obtain ⟨r_49, hk_9, h⟩ := h
  refine rn_cal0 (ins := .invokevirtual 214) (rest := [.long (((((((((((((((2657 * 31) + ((Int32.ofInt wy).toInt64)) * 31) + ((Int32.ofInt r_12).toInt64)) * 31) + ((Int32.ofInt r_17).toInt64)) * 31) + ((Int32.ofInt r_26).toInt64)) * 31) + ((Int32.ofInt r_40).toInt64)) * 31) + ((Int32.ofInt r_43).toInt64)) * 31) + ((Int32.ofInt r_46).toInt64)) * 31)]) rfl rfl rfl rfl (zinv_v (fs := _) L0 rfl rfl rfl rfl) rfl rfl hk_9 ?_
  show Zr sc 100 108 [zp a0, zp p_3, .long ((((((((((((((2657 * 31) + ((Int32.ofInt wy).toInt64)) * 31) + ((Int32.ofInt r_12).toInt64)) * 31) + ((Int32.ofInt r_17).toInt64)) * 31) + ((Int32.ofInt r_26).toInt64)) * 31) + ((Int32.ofInt r_40).toInt64)) * 31) + ((Int32.ofInt r_43).toInt64)) * 31) + ((Int32.ofInt r_46).toInt64)), zmk, zmk, zmk] [zj r_49, .long (((((((((((((((2657 * 31) + ((Int32.ofInt wy).toInt64)) * 31) + ((Int32.ofInt r_12).toInt64)) * 31) + ((Int32.ofInt r_17).toInt64)) * 31) + ((Int32.ofInt r_26).toInt64)) * 31) + ((Int32.ofInt r_40).toInt64)) * 31) + ((Int32.ofInt r_43).toInt64)) * 31) + ((Int32.ofInt r_46).toInt64)) * 31)] w ov w' c s
  refine rl_i2l rfl ?_
  show Zr sc 100 109 [zp a0, zp p_3, .long ((((((((((((((2657 * 31) + ((Int32.ofInt wy).toInt64)) * 31) + ((Int32.ofInt r_12).toInt64)) * 31) + ((Int32.ofInt r_17).toInt64)) * 31) + ((Int32.ofInt r_26).toInt64)) * 31) + ((Int32.ofInt r_40).toInt64)) * 31) + ((Int32.ofInt r_43).toInt64)) * 31) + ((Int32.ofInt r_46).toInt64)), zmk, zmk, zmk] [.long ((Int32.ofInt r_49).toInt64), .long (((((((((((((((2657 * 31) + ((Int32.ofInt wy).toInt64)) * 31) + ((Int32.ofInt r_12).toInt64)) * 31) + ((Int32.ofInt r_17).toInt64)) * 31) + ((Int32.ofInt r_26).toInt64)) * 31) + ((Int32.ofInt r_40).toInt64)) * 31) + ((Int32.ofInt r_43).toInt64)) * 31) + ((Int32.ofInt r_46).toInt64)) * 31)] w ov w' c s
  refine rl_ladd rfl ?_
  show Zr sc 100 110 [zp a0, zp p_3, .long ((((((((((((((2657 * 31) + ((Int32.ofInt wy).toInt64)) * 31) + ((Int32.ofInt r_12).toInt64)) * 31) + ((Int32.ofInt r_17).toInt64)) * 31) + ((Int32.ofInt r_26).toInt64)) * 31) + ((Int32.ofInt r_40).toInt64)) * 31) + ((Int32.ofInt r_43).toInt64)) * 31) + ((Int32.ofInt r_46).toInt64)), zmk, zmk, zmk] [.long ((((((((((((((((2657 * 31) + ((Int32.ofInt wy).toInt64)) * 31) + ((Int32.ofInt r_12).toInt64)) * 31) + ((Int32.ofInt r_17).toInt64)) * 31) + ((Int32.ofInt r_26).toInt64)) * 31) + ((Int32.ofInt r_40).toInt64)) * 31) + ((Int32.ofInt r_43).toInt64)) * 31) + ((Int32.ofInt r_46).toInt64)) * 31) + ((Int32.ofInt r_49).toInt64))] w ov w' c s
  refine Zr_st (q := (111, [zp a0, zp p_3, .long ((((((((((((((((2657 * 31) + ((Int32.ofInt wy).toInt64)) * 31) + ((Int32.ofInt r_12).toInt64)) * 31) + ((Int32.ofInt r_17).toInt64)) * 31) + ((Int32.ofInt r_26).toInt64)) * 31) + ((Int32.ofInt r_40).toInt64)) * 31) + ((Int32.ofInt r_43).toInt64)) * 31) + ((Int32.ofInt r_46).toInt64)) * 31) + ((Int32.ofInt r_49).toInt64)), zmk, zmk, zmk], [])) rfl rfl rfl ?_
  show Zr sc 100 111 [zp a0, zp p_3, .long ((((((((((((((((2657 * 31) + ((Int32.ofInt wy).toInt64)) * 31) + ((Int32.ofInt r_12).toInt64)) * 31) + ((Int32.ofInt r_17).toInt64)) * 31) + ((Int32.ofInt r_26).toInt64)) * 31) + ((Int32.ofInt r_40).toInt64)) * 31) + ((Int32.ofInt r_43).toInt64)) * 31) + ((Int32.ofInt r_46).toInt64)) * 31) + ((Int32.ofInt r_49).toInt64)), zmk, zmk, zmk] [] w ov w' c s
  refine Zr_st (q := (112, [zp a0, zp p_3, .long ((((((((((((((((2657 * 31) + ((Int32.ofInt wy).toInt64)) * 31) + ((Int32.ofInt r_12).toInt64)) * 31) + ((Int32.ofInt r_17).toInt64)) * 31) + ((Int32.ofInt r_26).toInt64)) * 31) + ((Int32.ofInt r_40).toInt64)) * 31) + ((Int32.ofInt r_43).toInt64)) * 31) + ((Int32.ofInt r_46).toInt64)) * 31) + ((Int32.ofInt r_49).toInt64)), zmk, zmk, zmk], [.long ((((((((((((((((2657 * 31) + ((Int32.ofInt wy).toInt64)) * 31) + ((Int32.ofInt r_12).toInt64)) * 31) + ((Int32.ofInt r_17).toInt64)) * 31) + ((Int32.ofInt r_26).toInt64)) * 31) + ((Int32.ofInt r_40).toInt64)) * 31) + ((Int32.ofInt r_43).toInt64)) * 31) + ((Int32.ofInt r_46).toInt64)) * 31) + ((Int32.ofInt r_49).toInt64))])) rfl rfl rfl ?_
  show Zr sc 100 112 [zp a0, zp p_3, .long ((((((((((((((((2657 * 31) + ((Int32.ofInt wy).toInt64)) * 31) + ((Int32.ofInt r_12).toInt64)) * 31) + ((Int32.ofInt r_17).toInt64)) * 31) + ((Int32.ofInt r_26).toInt64)) * 31) + ((Int32.ofInt r_40).toInt64)) * 31) + ((Int32.ofInt r_43).toInt64)) * 31) + ((Int32.ofInt r_46).toInt64)) * 31) + ((Int32.ofInt r_49).toInt64)), zmk, zmk, zmk] [.long ((((((((((((((((2657 * 31) + ((Int32.ofInt wy).toInt64)) * 31) + ((Int32.ofInt r_12).toInt64)) * 31) + ((Int32.ofInt r_17).toInt64)) * 31) + ((Int32.ofInt r_26).toInt64)) * 31) + ((Int32.ofInt r_40).toInt64)) * 31) + ((Int32.ofInt r_43).toInt64)) * 31) + ((Int32.ofInt r_46).toInt64)) * 31) + ((Int32.ofInt r_49).toInt64))] w ov w' c s
  refine rl_lc (z := 31) rfl rfl (by decide) ?_
  show Zr sc 100 115 [zp a0, zp p_3, .long ((((((((((((((((2657 * 31) + ((Int32.ofInt wy).toInt64)) * 31) + ((Int32.ofInt r_12).toInt64)) * 31) + ((Int32.ofInt r_17).toInt64)) * 31) + ((Int32.ofInt r_26).toInt64)) * 31) + ((Int32.ofInt r_40).toInt64)) * 31) + ((Int32.ofInt r_43).toInt64)) * 31) + ((Int32.ofInt r_46).toInt64)) * 31) + ((Int32.ofInt r_49).toInt64)), zmk, zmk, zmk] [.long 31, .long ((((((((((((((((2657 * 31) + ((Int32.ofInt wy).toInt64)) * 31) + ((Int32.ofInt r_12).toInt64)) * 31) + ((Int32.ofInt r_17).toInt64)) * 31) + ((Int32.ofInt r_26).toInt64)) * 31) + ((Int32.ofInt r_40).toInt64)) * 31) + ((Int32.ofInt r_43).toInt64)) * 31) + ((Int32.ofInt r_46).toInt64)) * 31) + ((Int32.ofInt r_49).toInt64))] w ov w' c s
  refine rl_lmul rfl ?_
  show Zr sc 100 116 [zp a0, zp p_3, .long ((((((((((((((((2657 * 31) + ((Int32.ofInt wy).toInt64)) * 31) + ((Int32.ofInt r_12).toInt64)) * 31) + ((Int32.ofInt r_17).toInt64)) * 31) + ((Int32.ofInt r_26).toInt64)) * 31) + ((Int32.ofInt r_40).toInt64)) * 31) + ((Int32.ofInt r_43).toInt64)) * 31) + ((Int32.ofInt r_46).toInt64)) * 31) + ((Int32.ofInt r_49).toInt64)), zmk, zmk, zmk] [.long (((((((((((((((((2657 * 31) + ((Int32.ofInt wy).toInt64)) * 31) + ((Int32.ofInt r_12).toInt64)) * 31) + ((Int32.ofInt r_17).toInt64)) * 31) + ((Int32.ofInt r_26).toInt64)) * 31) + ((Int32.ofInt r_40).toInt64)) * 31) + ((Int32.ofInt r_43).toInt64)) * 31) + ((Int32.ofInt r_46).toInt64)) * 31) + ((Int32.ofInt r_49).toInt64)) * 31)] w ov w' c s
  refine Zr_st (q := (117, [zp a0, zp p_3, .long ((((((((((((((((2657 * 31) + ((Int32.ofInt wy).toInt64)) * 31) + ((Int32.ofInt r_12).toInt64)) * 31) + ((Int32.ofInt r_17).toInt64)) * 31) + ((Int32.ofInt r_26).toInt64)) * 31) + ((Int32.ofInt r_40).toInt64)) * 31) + ((Int32.ofInt r_43).toInt64)) * 31) + ((Int32.ofInt r_46).toInt64)) * 31) + ((Int32.ofInt r_49).toInt64)), zmk, zmk, zmk], [zp a0, .long (((((((((((((((((2657 * 31) + ((Int32.ofInt wy).toInt64)) * 31) + ((Int32.ofInt r_12).toInt64)) * 31) + ((Int32.ofInt r_17).toInt64)) * 31) + ((Int32.ofInt r_26).toInt64)) * 31) + ((Int32.ofInt r_40).toInt64)) * 31) + ((Int32.ofInt r_43).toInt64)) * 31) + ((Int32.ofInt r_46).toInt64)) * 31) + ((Int32.ofInt r_49).toInt64)) * 31)])) rfl rfl rfl ?_
  show Zr sc 100 117 [zp a0, zp p_3, .long ((((((((((((((((2657 * 31) + ((Int32.ofInt wy).toInt64)) * 31) + ((Int32.ofInt r_12).toInt64)) * 31) + ((Int32.ofInt r_17).toInt64)) * 31) + ((Int32.ofInt r_26).toInt64)) * 31) + ((Int32.ofInt r_40).toInt64)) * 31) + ((Int32.ofInt r_43).toInt64)) * 31) + ((Int32.ofInt r_46).toInt64)) * 31) + ((Int32.ofInt r_49).toInt64)), zmk, zmk, zmk] [zp a0, .long (((((((((((((((((2657 * 31) + ((Int32.ofInt wy).toInt64)) * 31) + ((Int32.ofInt r_12).toInt64)) * 31) + ((Int32.ofInt r_17).toInt64)) * 31) + ((Int32.ofInt r_26).toInt64)) * 31) + ((Int32.ofInt r_40).toInt64)) * 31) + ((Int32.ofInt r_43).toInt64)) * 31) + ((Int32.ofInt r_46).toInt64)) * 31) + ((Int32.ofInt r_49).toInt64)) * 31)] w ov w' c s
  obtain ⟨r_52, hk_9, h⟩ := h
  refine rn_cal0 (ins := .invokevirtual 217) (rest := [.long (((((((((((((((((2657 * 31) + ((Int32.ofInt wy).toInt64)) * 31) + ((Int32.ofInt r_12).toInt64)) * 31) + ((Int32.ofInt r_17).toInt64)) * 31) + ((Int32.ofInt r_26).toInt64)) * 31) + ((Int32.ofInt r_40).toInt64)) * 31) + ((Int32.ofInt r_43).toInt64)) * 31) + ((Int32.ofInt r_46).toInt64)) * 31) + ((Int32.ofInt r_49).toInt64)) * 31)]) rfl rfl rfl rfl (zinv_v (fs := _) L0 rfl rfl rfl rfl) rfl rfl hk_9 ?_
  show Zr sc 100 120 [zp a0, zp p_3, .long ((((((((((((((((2657 * 31) + ((Int32.ofInt wy).toInt64)) * 31) + ((Int32.ofInt r_12).toInt64)) * 31) + ((Int32.ofInt r_17).toInt64)) * 31) + ((Int32.ofInt r_26).toInt64)) * 31) + ((Int32.ofInt r_40).toInt64)) * 31) + ((Int32.ofInt r_43).toInt64)) * 31) + ((Int32.ofInt r_46).toInt64)) * 31) + ((Int32.ofInt r_49).toInt64)), zmk, zmk, zmk] [zj r_52, .long (((((((((((((((((2657 * 31) + ((Int32.ofInt wy).toInt64)) * 31) + ((Int32.ofInt r_12).toInt64)) * 31) + ((Int32.ofInt r_17).toInt64)) * 31) + ((Int32.ofInt r_26).toInt64)) * 31) + ((Int32.ofInt r_40).toInt64)) * 31) + ((Int32.ofInt r_43).toInt64)) * 31) + ((Int32.ofInt r_46).toInt64)) * 31) + ((Int32.ofInt r_49).toInt64)) * 31)] w ov w' c s
  refine rl_i2l rfl ?_
  show Zr sc 100 121 [zp a0, zp p_3, .long ((((((((((((((((2657 * 31) + ((Int32.ofInt wy).toInt64)) * 31) + ((Int32.ofInt r_12).toInt64)) * 31) + ((Int32.ofInt r_17).toInt64)) * 31) + ((Int32.ofInt r_26).toInt64)) * 31) + ((Int32.ofInt r_40).toInt64)) * 31) + ((Int32.ofInt r_43).toInt64)) * 31) + ((Int32.ofInt r_46).toInt64)) * 31) + ((Int32.ofInt r_49).toInt64)), zmk, zmk, zmk] [.long ((Int32.ofInt r_52).toInt64), .long (((((((((((((((((2657 * 31) + ((Int32.ofInt wy).toInt64)) * 31) + ((Int32.ofInt r_12).toInt64)) * 31) + ((Int32.ofInt r_17).toInt64)) * 31) + ((Int32.ofInt r_26).toInt64)) * 31) + ((Int32.ofInt r_40).toInt64)) * 31) + ((Int32.ofInt r_43).toInt64)) * 31) + ((Int32.ofInt r_46).toInt64)) * 31) + ((Int32.ofInt r_49).toInt64)) * 31)] w ov w' c s
  refine rl_ladd rfl ?_
  show Zr sc 100 122 [zp a0, zp p_3, .long ((((((((((((((((2657 * 31) + ((Int32.ofInt wy).toInt64)) * 31) + ((Int32.ofInt r_12).toInt64)) * 31) + ((Int32.ofInt r_17).toInt64)) * 31) + ((Int32.ofInt r_26).toInt64)) * 31) + ((Int32.ofInt r_40).toInt64)) * 31) + ((Int32.ofInt r_43).toInt64)) * 31) + ((Int32.ofInt r_46).toInt64)) * 31) + ((Int32.ofInt r_49).toInt64)), zmk, zmk, zmk] [.long ((((((((((((((((((2657 * 31) + ((Int32.ofInt wy).toInt64)) * 31) + ((Int32.ofInt r_12).toInt64)) * 31) + ((Int32.ofInt r_17).toInt64)) * 31) + ((Int32.ofInt r_26).toInt64)) * 31) + ((Int32.ofInt r_40).toInt64)) * 31) + ((Int32.ofInt r_43).toInt64)) * 31) + ((Int32.ofInt r_46).toInt64)) * 31) + ((Int32.ofInt r_49).toInt64)) * 31) + ((Int32.ofInt r_52).toInt64))] w ov w' c s
  refine Zr_st (q := (123, [zp a0, zp p_3, .long ((((((((((((((((((2657 * 31) + ((Int32.ofInt wy).toInt64)) * 31) + ((Int32.ofInt r_12).toInt64)) * 31) + ((Int32.ofInt r_17).toInt64)) * 31) + ((Int32.ofInt r_26).toInt64)) * 31) + ((Int32.ofInt r_40).toInt64)) * 31) + ((Int32.ofInt r_43).toInt64)) * 31) + ((Int32.ofInt r_46).toInt64)) * 31) + ((Int32.ofInt r_49).toInt64)) * 31) + ((Int32.ofInt r_52).toInt64)), zmk, zmk, zmk], [])) rfl rfl rfl ?_
  show Zr sc 100 123 [zp a0, zp p_3, .long ((((((((((((((((((2657 * 31) + ((Int32.ofInt wy).toInt64)) * 31) + ((Int32.ofInt r_12).toInt64)) * 31) + ((Int32.ofInt r_17).toInt64)) * 31) + ((Int32.ofInt r_26).toInt64)) * 31) + ((Int32.ofInt r_40).toInt64)) * 31) + ((Int32.ofInt r_43).toInt64)) * 31) + ((Int32.ofInt r_46).toInt64)) * 31) + ((Int32.ofInt r_49).toInt64)) * 31) + ((Int32.ofInt r_52).toInt64)), zmk, zmk, zmk] [] w ov w' c s
  refine Zr_st (q := (124, [zp a0, zp p_3, .long ((((((((((((((((((2657 * 31) + ((Int32.ofInt wy).toInt64)) * 31) + ((Int32.ofInt r_12).toInt64)) * 31) + ((Int32.ofInt r_17).toInt64)) * 31) + ((Int32.ofInt r_26).toInt64)) * 31) + ((Int32.ofInt r_40).toInt64)) * 31) + ((Int32.ofInt r_43).toInt64)) * 31) + ((Int32.ofInt r_46).toInt64)) * 31) + ((Int32.ofInt r_49).toInt64)) * 31) + ((Int32.ofInt r_52).toInt64)), zmk, zmk, zmk], [.long ((((((((((((((((((2657 * 31) + ((Int32.ofInt wy).toInt64)) * 31) + ((Int32.ofInt r_12).toInt64)) * 31) + ((Int32.ofInt r_17).toInt64)) * 31) + ((Int32.ofInt r_26).toInt64)) * 31) + ((Int32.ofInt r_40).toInt64)) * 31) + ((Int32.ofInt r_43).toInt64)) * 31) + ((Int32.ofInt r_46).toInt64)) * 31) + ((Int32.ofInt r_49).toInt64)) * 31) + ((Int32.ofInt r_52).toInt64))])) rfl rfl rfl ?_
  show Zr sc 100 124 [zp a0, zp p_3, .long ((((((((((((((((((2657 * 31) + ((Int32.ofInt wy).toInt64)) * 31) + ((Int32.ofInt r_12).toInt64)) * 31) + ((Int32.ofInt r_17).toInt64)) * 31) + ((Int32.ofInt r_26).toInt64)) * 31) + ((Int32.ofInt r_40).toInt64)) * 31) + ((Int32.ofInt r_43).toInt64)) * 31) + ((Int32.ofInt r_46).toInt64)) * 31) + ((Int32.ofInt r_49).toInt64)) * 31) + ((Int32.ofInt r_52).toInt64)), zmk, zmk, zmk] [.long ((((((((((((((((((2657 * 31) + ((Int32.ofInt wy).toInt64)) * 31) + ((Int32.ofInt r_12).toInt64)) * 31) + ((Int32.ofInt r_17).toInt64)) * 31) + ((Int32.ofInt r_26).toInt64)) * 31) + ((Int32.ofInt r_40).toInt64)) * 31) + ((Int32.ofInt r_43).toInt64)) * 31) + ((Int32.ofInt r_46).toInt64)) * 31) + ((Int32.ofInt r_49).toInt64)) * 31) + ((Int32.ofInt r_52).toInt64))] w ov w' c s
  refine rl_lc (z := 31) rfl rfl (by decide) ?_
  show Zr sc 100 127 [zp a0, zp p_3, .long ((((((((((((((((((2657 * 31) + ((Int32.ofInt wy).toInt64)) * 31) + ((Int32.ofInt r_12).toInt64)) * 31) + ((Int32.ofInt r_17).toInt64)) * 31) + ((Int32.ofInt r_26).toInt64)) * 31) + ((Int32.ofInt r_40).toInt64)) * 31) + ((Int32.ofInt r_43).toInt64)) * 31) + ((Int32.ofInt r_46).toInt64)) * 31) + ((Int32.ofInt r_49).toInt64)) * 31) + ((Int32.ofInt r_52).toInt64)), zmk, zmk, zmk] [.long 31, .long ((((((((((((((((((2657 * 31) + ((Int32.ofInt wy).toInt64)) * 31) + ((Int32.ofInt r_12).toInt64)) * 31) + ((Int32.ofInt r_17).toInt64)) * 31) + ((Int32.ofInt r_26).toInt64)) * 31) + ((Int32.ofInt r_40).toInt64)) * 31) + ((Int32.ofInt r_43).toInt64)) * 31) + ((Int32.ofInt r_46).toInt64)) * 31) + ((Int32.ofInt r_49).toInt64)) * 31) + ((Int32.ofInt r_52).toInt64))] w ov w' c s
  refine rl_lmul rfl ?_
  show Zr sc 100 128 [zp a0, zp p_3, .long ((((((((((((((((((2657 * 31) + ((Int32.ofInt wy).toInt64)) * 31) + ((Int32.ofInt r_12).toInt64)) * 31) + ((Int32.ofInt r_17).toInt64)) * 31) + ((Int32.ofInt r_26).toInt64)) * 31) + ((Int32.ofInt r_40).toInt64)) * 31) + ((Int32.ofInt r_43).toInt64)) * 31) + ((Int32.ofInt r_46).toInt64)) * 31) + ((Int32.ofInt r_49).toInt64)) * 31) + ((Int32.ofInt r_52).toInt64)), zmk, zmk, zmk] [.long (((((((((((((((((((2657 * 31) + ((Int32.ofInt wy).toInt64)) * 31) + ((Int32.ofInt r_12).toInt64)) * 31) + ((Int32.ofInt r_17).toInt64)) * 31) + ((Int32.ofInt r_26).toInt64)) * 31) + ((Int32.ofInt r_40).toInt64)) * 31) + ((Int32.ofInt r_43).toInt64)) * 31) + ((Int32.ofInt r_46).toInt64)) * 31) + ((Int32.ofInt r_49).toInt64)) * 31) + ((Int32.ofInt r_52).toInt64)) * 31)] w ov w' c s
  refine Zr_st (q := (129, [zp a0, zp p_3, .long ((((((((((((((((((2657 * 31) + ((Int32.ofInt wy).toInt64)) * 31) + ((Int32.ofInt r_12).toInt64)) * 31) + ((Int32.ofInt r_17).toInt64)) * 31) + ((Int32.ofInt r_26).toInt64)) * 31) + ((Int32.ofInt r_40).toInt64)) * 31) + ((Int32.ofInt r_43).toInt64)) * 31) + ((Int32.ofInt r_46).toInt64)) * 31) + ((Int32.ofInt r_49).toInt64)) * 31) + ((Int32.ofInt r_52).toInt64)), zmk, zmk, zmk], [zp p_3, .long (((((((((((((((((((2657 * 31) + ((Int32.ofInt wy).toInt64)) * 31) + ((Int32.ofInt r_12).toInt64)) * 31) + ((Int32.ofInt r_17).toInt64)) * 31) + ((Int32.ofInt r_26).toInt64)) * 31) + ((Int32.ofInt r_40).toInt64)) * 31) + ((Int32.ofInt r_43).toInt64)) * 31) + ((Int32.ofInt r_46).toInt64)) * 31) + ((Int32.ofInt r_49).toInt64)) * 31) + ((Int32.ofInt r_52).toInt64)) * 31)])) rfl rfl rfl ?_
  show Zr sc 100 129 [zp a0, zp p_3, .long ((((((((((((((((((2657 * 31) + ((Int32.ofInt wy).toInt64)) * 31) + ((Int32.ofInt r_12).toInt64)) * 31) + ((Int32.ofInt r_17).toInt64)) * 31) + ((Int32.ofInt r_26).toInt64)) * 31) + ((Int32.ofInt r_40).toInt64)) * 31) + ((Int32.ofInt r_43).toInt64)) * 31) + ((Int32.ofInt r_46).toInt64)) * 31) + ((Int32.ofInt r_49).toInt64)) * 31) + ((Int32.ofInt r_52).toInt64)), zmk, zmk, zmk] [zp p_3, .long (((((((((((((((((((2657 * 31) + ((Int32.ofInt wy).toInt64)) * 31) + ((Int32.ofInt r_12).toInt64)) * 31) + ((Int32.ofInt r_17).toInt64)) * 31) + ((Int32.ofInt r_26).toInt64)) * 31) + ((Int32.ofInt r_40).toInt64)) * 31) + ((Int32.ofInt r_43).toInt64)) * 31) + ((Int32.ofInt r_46).toInt64)) * 31) + ((Int32.ofInt r_49).toInt64)) * 31) + ((Int32.ofInt r_52).toInt64)) * 31)] w ov w' c s
  obtain ⟨cn_53, fs_54, hw_55, hcn_56, h⟩ := h
  have hz_57 : ∃ kd, zinv 100 (.invokevirtual 175) [zp p_3, .long (((((((((((((((((((2657 * 31) + ((Int32.ofInt wy).toInt64)) * 31) + ((Int32.ofInt r_12).toInt64)) * 31) + ((Int32.ofInt r_17).toInt64)) * 31) + ((Int32.ofInt r_26).toInt64)) * 31) + ((Int32.ofInt r_40).toInt64)) * 31) + ((Int32.ofInt r_43).toInt64)) * 31) + ((Int32.ofInt r_46).toInt64)) * 31) + ((Int32.ofInt r_49).toInt64)) * 31) + ((Int32.ofInt r_52).toInt64)) * 31)] (false, w) = some (kd, 102, [zp p_3], [.long (((((((((((((((((((2657 * 31) + ((Int32.ofInt wy).toInt64)) * 31) + ((Int32.ofInt r_12).toInt64)) * 31) + ((Int32.ofInt r_17).toInt64)) * 31) + ((Int32.ofInt r_26).toInt64)) * 31) + ((Int32.ofInt r_40).toInt64)) * 31) + ((Int32.ofInt r_43).toInt64)) * 31) + ((Int32.ofInt r_46).toInt64)) * 31) + ((Int32.ofInt r_49).toInt64)) * 31) + ((Int32.ofInt r_52).toInt64)) * 31)]) ∧ decide (kd < 6) = true := by rcases hcn_56 with rfl | rfl | rfl <;> exact zinv_u hw_55 rfl rfl rfl rfl rfl rfl rfl
  obtain ⟨kd_58, hz_57⟩ := hz_57
  obtain ⟨r_61, hk_9, h⟩ := h
  refine rn_cal0 (ins := .invokevirtual 175) (rest := [.long (((((((((((((((((((2657 * 31) + ((Int32.ofInt wy).toInt64)) * 31) + ((Int32.ofInt r_12).toInt64)) * 31) + ((Int32.ofInt r_17).toInt64)) * 31) + ((Int32.ofInt r_26).toInt64)) * 31) + ((Int32.ofInt r_40).toInt64)) * 31) + ((Int32.ofInt r_43).toInt64)) * 31) + ((Int32.ofInt r_46).toInt64)) * 31) + ((Int32.ofInt r_49).toInt64)) * 31) + ((Int32.ofInt r_52).toInt64)) * 31)]) rfl rfl rfl rfl hz_57.1 rfl hz_57.2 hk_9 ?_
  show Zr sc 100 132 [zp a0, zp p_3, .long ((((((((((((((((((2657 * 31) + ((Int32.ofInt wy).toInt64)) * 31) + ((Int32.ofInt r_12).toInt64)) * 31) + ((Int32.ofInt r_17).toInt64)) * 31) + ((Int32.ofInt r_26).toInt64)) * 31) + ((Int32.ofInt r_40).toInt64)) * 31) + ((Int32.ofInt r_43).toInt64)) * 31) + ((Int32.ofInt r_46).toInt64)) * 31) + ((Int32.ofInt r_49).toInt64)) * 31) + ((Int32.ofInt r_52).toInt64)), zmk, zmk, zmk] [zj r_61, .long (((((((((((((((((((2657 * 31) + ((Int32.ofInt wy).toInt64)) * 31) + ((Int32.ofInt r_12).toInt64)) * 31) + ((Int32.ofInt r_17).toInt64)) * 31) + ((Int32.ofInt r_26).toInt64)) * 31) + ((Int32.ofInt r_40).toInt64)) * 31) + ((Int32.ofInt r_43).toInt64)) * 31) + ((Int32.ofInt r_46).toInt64)) * 31) + ((Int32.ofInt r_49).toInt64)) * 31) + ((Int32.ofInt r_52).toInt64)) * 31)] w ov w' c s
  refine rl_i2l rfl ?_
  show Zr sc 100 133 [zp a0, zp p_3, .long ((((((((((((((((((2657 * 31) + ((Int32.ofInt wy).toInt64)) * 31) + ((Int32.ofInt r_12).toInt64)) * 31) + ((Int32.ofInt r_17).toInt64)) * 31) + ((Int32.ofInt r_26).toInt64)) * 31) + ((Int32.ofInt r_40).toInt64)) * 31) + ((Int32.ofInt r_43).toInt64)) * 31) + ((Int32.ofInt r_46).toInt64)) * 31) + ((Int32.ofInt r_49).toInt64)) * 31) + ((Int32.ofInt r_52).toInt64)), zmk, zmk, zmk] [.long ((Int32.ofInt r_61).toInt64), .long (((((((((((((((((((2657 * 31) + ((Int32.ofInt wy).toInt64)) * 31) + ((Int32.ofInt r_12).toInt64)) * 31) + ((Int32.ofInt r_17).toInt64)) * 31) + ((Int32.ofInt r_26).toInt64)) * 31) + ((Int32.ofInt r_40).toInt64)) * 31) + ((Int32.ofInt r_43).toInt64)) * 31) + ((Int32.ofInt r_46).toInt64)) * 31) + ((Int32.ofInt r_49).toInt64)) * 31) + ((Int32.ofInt r_52).toInt64)) * 31)] w ov w' c s
  refine rl_ladd rfl ?_
  show Zr sc 100 134 [zp a0, zp p_3, .long ((((((((((((((((((2657 * 31) + ((Int32.ofInt wy).toInt64)) * 31) + ((Int32.ofInt r_12).toInt64)) * 31) + ((Int32.ofInt r_17).toInt64)) * 31) + ((Int32.ofInt r_26).toInt64)) * 31) + ((Int32.ofInt r_40).toInt64)) * 31) + ((Int32.ofInt r_43).toInt64)) * 31) + ((Int32.ofInt r_46).toInt64)) * 31) + ((Int32.ofInt r_49).toInt64)) * 31) + ((Int32.ofInt r_52).toInt64)), zmk, zmk, zmk] [.long ((((((((((((((((((((2657 * 31) + ((Int32.ofInt wy).toInt64)) * 31) + ((Int32.ofInt r_12).toInt64)) * 31) + ((Int32.ofInt r_17).toInt64)) * 31) + ((Int32.ofInt r_26).toInt64)) * 31) + ((Int32.ofInt r_40).toInt64)) * 31) + ((Int32.ofInt r_43).toInt64)) * 31) + ((Int32.ofInt r_46).toInt64)) * 31) + ((Int32.ofInt r_49).toInt64)) * 31) + ((Int32.ofInt r_52).toInt64)) * 31) + ((Int32.ofInt r_61).toInt64))] w ov w' c s
  refine Zr_st (q := (135, [zp a0, zp p_3, .long ((((((((((((((((((((2657 * 31) + ((Int32.ofInt wy).toInt64)) * 31) + ((Int32.ofInt r_12).toInt64)) * 31) + ((Int32.ofInt r_17).toInt64)) * 31) + ((Int32.ofInt r_26).toInt64)) * 31) + ((Int32.ofInt r_40).toInt64)) * 31) + ((Int32.ofInt r_43).toInt64)) * 31) + ((Int32.ofInt r_46).toInt64)) * 31) + ((Int32.ofInt r_49).toInt64)) * 31) + ((Int32.ofInt r_52).toInt64)) * 31) + ((Int32.ofInt r_61).toInt64)), zmk, zmk, zmk], [])) rfl rfl rfl ?_
  show Zr sc 100 135 [zp a0, zp p_3, .long ((((((((((((((((((((2657 * 31) + ((Int32.ofInt wy).toInt64)) * 31) + ((Int32.ofInt r_12).toInt64)) * 31) + ((Int32.ofInt r_17).toInt64)) * 31) + ((Int32.ofInt r_26).toInt64)) * 31) + ((Int32.ofInt r_40).toInt64)) * 31) + ((Int32.ofInt r_43).toInt64)) * 31) + ((Int32.ofInt r_46).toInt64)) * 31) + ((Int32.ofInt r_49).toInt64)) * 31) + ((Int32.ofInt r_52).toInt64)) * 31) + ((Int32.ofInt r_61).toInt64)), zmk, zmk, zmk] [] w ov w' c s
  refine rl_ic rfl ?_
  show Zr sc 100 136 [zp a0, zp p_3, .long ((((((((((((((((((((2657 * 31) + ((Int32.ofInt wy).toInt64)) * 31) + ((Int32.ofInt r_12).toInt64)) * 31) + ((Int32.ofInt r_17).toInt64)) * 31) + ((Int32.ofInt r_26).toInt64)) * 31) + ((Int32.ofInt r_40).toInt64)) * 31) + ((Int32.ofInt r_43).toInt64)) * 31) + ((Int32.ofInt r_46).toInt64)) * 31) + ((Int32.ofInt r_49).toInt64)) * 31) + ((Int32.ofInt r_52).toInt64)) * 31) + ((Int32.ofInt r_61).toInt64)), zmk, zmk, zmk] [zj 0] w ov w' c s
  refine Zr_st (q := (138, [zp a0, zp p_3, .long ((((((((((((((((((((2657 * 31) + ((Int32.ofInt wy).toInt64)) * 31) + ((Int32.ofInt r_12).toInt64)) * 31) + ((Int32.ofInt r_17).toInt64)) * 31) + ((Int32.ofInt r_26).toInt64)) * 31) + ((Int32.ofInt r_40).toInt64)) * 31) + ((Int32.ofInt r_43).toInt64)) * 31) + ((Int32.ofInt r_46).toInt64)) * 31) + ((Int32.ofInt r_49).toInt64)) * 31) + ((Int32.ofInt r_52).toInt64)) * 31) + ((Int32.ofInt r_61).toInt64)), zmk, zj 0, zmk], [])) rfl rfl rfl ?_
  show Zr sc 100 138 [zp a0, zp p_3, .long ((((((((((((((((((((2657 * 31) + ((Int32.ofInt wy).toInt64)) * 31) + ((Int32.ofInt r_12).toInt64)) * 31) + ((Int32.ofInt r_17).toInt64)) * 31) + ((Int32.ofInt r_26).toInt64)) * 31) + ((Int32.ofInt r_40).toInt64)) * 31) + ((Int32.ofInt r_43).toInt64)) * 31) + ((Int32.ofInt r_46).toInt64)) * 31) + ((Int32.ofInt r_49).toInt64)) * 31) + ((Int32.ofInt r_52).toInt64)) * 31) + ((Int32.ofInt r_61).toInt64)), zmk, zj 0, zmk] [] w ov w' c s
  exact h
set_option maxRecDepth 100000 in
theorem V100_138 {sc : List Value} {w w' : List zE} {ov : Option Value} {c s : Nat} {a0 : Nat} {a1 : Nat} {z2 : Int64} {x4 : Int} (h : ((zrg x4 ∧ zrg 4) ∧ ((4 < x4 → (∃ z_4 : Int64, Zc sc 103 [.long z2, zp a1] w (some (.long z_4)) w 0 0 ∧ (∃ cn_5 : Nat, ∃ fs_6 : List Value, w[a1]? = some (zob cn_5 fs_6) ∧ (cn_5 = 1 ∨ cn_5 = 2 ∨ cn_5 = 4) ∧ (∃ r_13 : Int, ∃ w_11 : List zE, Zc sc 38 [zp a1, zj 1] w (some (zj r_13)) w_11 0 0 ∧ (∃ cn_14 : Nat, ∃ fs_15 : List Value, w_11[a1]? = some (zob cn_14 fs_15) ∧ (cn_14 = 1 ∨ cn_14 = 2 ∨ cn_14 = 4) ∧ (∃ r_22 : Int, ∃ w_20 : List zE, Zc sc 38 [zp a1, zj 30] w_11 (some (zj r_22)) w_20 0 0 ∧ (∃ cn_23 : Nat, ∃ fs_24 : List Value, w_20[a1]? = some (zob cn_23 fs_24) ∧ (cn_23 = 1 ∨ cn_23 = 2 ∨ cn_23 = 4) ∧ (∃ r_31 : Int, ∃ w_29 : List zE, Zc sc 38 [zp a1, zj 120] w_20 (some (zj r_31)) w_29 0 0 ∧ Zr sc 100 214 [zp a0, zp a1, .long ((((((z_4 * 31) + ((Int32.ofInt r_13).toInt64)) * 31) + ((Int32.ofInt r_22).toInt64)) * 31) + ((Int32.ofInt r_31).toInt64)), zmk, zj 0, zmk] [] w_29 ov w' c s)))))))) ∧ (¬ (4 < x4) → (∃ cn_32 : Nat, ∃ fs_33 : List Value, w[a1]? = some (zob cn_32 fs_33) ∧ (cn_32 = 1 ∨ cn_32 = 2 ∨ cn_32 = 4) ∧ (∃ r_40 : Int, Zc sc 34 [zp a1, zj x4] w (some (zj r_40)) w 0 0 ∧ Zr sc 100 138 [zp a0, zp a1, .long ((z2 * 31) + ((Int32.ofInt r_40).toInt64)), zmk, zj (x4 + 1), zmk] [] w ov w' c s)))))) : Zr sc 100 138 [zp a0, zp a1, .long z2, zmk, zj x4, zmk] [] w ov w' c s := by
  refine Zr_st (q := (140, [zp a0, zp a1, .long z2, zmk, zj x4, zmk], [zj x4])) rfl rfl rfl ?_
  show Zr sc 100 140 [zp a0, zp a1, .long z2, zmk, zj x4, zmk] [zj x4] w ov w' c s
  refine rl_ic rfl ?_
  show Zr sc 100 141 [zp a0, zp a1, .long z2, zmk, zj x4, zmk] [zj 4, zj x4] w ov w' c s
  obtain ⟨hr_1, h⟩ := h
  refine Zr_br (p := 4 < x4) rfl rfl (zcmp_j (cnd := .gt) hr_1.1 hr_1.2) (fun hp => ?_) (fun hp => ?_)
  · replace h := h.1 hp
    show Zr sc 100 164 [zp a0, zp a1, .long z2, zmk, zj x4, zmk] [] w ov w' c s
    refine Zr_st (q := (165, [zp a0, zp a1, .long z2, zmk, zj x4, zmk], [.long z2])) rfl rfl rfl ?_
    show Zr sc 100 165 [zp a0, zp a1, .long z2, zmk, zj x4, zmk] [.long z2] w ov w' c s
    refine Zr_st (q := (166, [zp a0, zp a1, .long z2, zmk, zj x4, zmk], [zp a1, .long z2])) rfl rfl rfl ?_
    show Zr sc 100 166 [zp a0, zp a1, .long z2, zmk, zj x4, zmk] [zp a1, .long z2] w ov w' c s
    obtain ⟨z_4, hk_9, h⟩ := h
    refine rn_cal0 (ins := .invokestatic 220) (rest := []) rfl rfl rfl rfl (zinv_t rfl rfl rfl rfl) rfl rfl hk_9 ?_
    show Zr sc 100 169 [zp a0, zp a1, .long z2, zmk, zj x4, zmk] [.long z_4] w ov w' c s
    refine Zr_st (q := (170, [zp a0, zp a1, .long z_4, zmk, zj x4, zmk], [])) rfl rfl rfl ?_
    show Zr sc 100 170 [zp a0, zp a1, .long z_4, zmk, zj x4, zmk] [] w ov w' c s
    refine Zr_st (q := (171, [zp a0, zp a1, .long z_4, zmk, zj x4, zmk], [.long z_4])) rfl rfl rfl ?_
    show Zr sc 100 171 [zp a0, zp a1, .long z_4, zmk, zj x4, zmk] [.long z_4] w ov w' c s
    refine rl_lc (z := 31) rfl rfl (by decide) ?_
    show Zr sc 100 174 [zp a0, zp a1, .long z_4, zmk, zj x4, zmk] [.long 31, .long z_4] w ov w' c s
    refine rl_lmul rfl ?_
    show Zr sc 100 175 [zp a0, zp a1, .long z_4, zmk, zj x4, zmk] [.long (z_4 * 31)] w ov w' c s
    refine Zr_st (q := (176, [zp a0, zp a1, .long z_4, zmk, zj x4, zmk], [zp a1, .long (z_4 * 31)])) rfl rfl rfl ?_
    show Zr sc 100 176 [zp a0, zp a1, .long z_4, zmk, zj x4, zmk] [zp a1, .long (z_4 * 31)] w ov w' c s
    refine rl_ic rfl ?_
    show Zr sc 100 177 [zp a0, zp a1, .long z_4, zmk, zj x4, zmk] [zj 1, zp a1, .long (z_4 * 31)] w ov w' c s
    obtain ⟨cn_5, fs_6, hw_7, hcn_8, h⟩ := h
    have hz_9 : ∃ kd, zinv 100 (.invokevirtual 189) [zj 1, zp a1, .long (z_4 * 31)] (false, w) = some (kd, 38, [zp a1, zj 1], [.long (z_4 * 31)]) ∧ decide (kd < 6) = true := by rcases hcn_8 with rfl | rfl | rfl <;> exact zinv_u hw_7 rfl rfl rfl rfl rfl rfl rfl
    obtain ⟨kd_10, hz_9⟩ := hz_9
    obtain ⟨r_13, w_11, hk_12, h⟩ := h
    refine rn_cal0 (ins := .invokevirtual 189) (rest := [.long (z_4 * 31)]) rfl rfl rfl rfl hz_9.1 rfl hz_9.2 hk_12 ?_
    show Zr sc 100 180 [zp a0, zp a1, .long z_4, zmk, zj x4, zmk] [zj r_13, .long (z_4 * 31)] w_11 ov w' c s
    refine rl_i2l rfl ?_
    show Zr sc 100 181 [zp a0, zp a1, .long z_4, zmk, zj x4, zmk] [.long ((Int32.ofInt r_13).toInt64), .long (z_4 * 31)] w_11 ov w' c s
    refine rl_ladd rfl ?_
    show Zr sc 100 182 [zp a0, zp a1, .long z_4, zmk, zj x4, zmk] [.long ((z_4 * 31) + ((Int32.ofInt r_13).toInt64))] w_11 ov w' c s
    refine Zr_st (q := (183, [zp a0, zp a1, .long ((z_4 * 31) + ((Int32.ofInt r_13).toInt64)), zmk, zj x4, zmk], [])) rfl rfl rfl ?_
    show Zr sc 100 183 [zp a0, zp a1, .long ((z_4 * 31) + ((Int32.ofInt r_13).toInt64)), zmk, zj x4, zmk] [] w_11 ov w' c s
    refine Zr_st (q := (184, [zp a0, zp a1, .long ((z_4 * 31) + ((Int32.ofInt r_13).toInt64)), zmk, zj x4, zmk], [.long ((z_4 * 31) + ((Int32.ofInt r_13).toInt64))])) rfl rfl rfl ?_
    show Zr sc 100 184 [zp a0, zp a1, .long ((z_4 * 31) + ((Int32.ofInt r_13).toInt64)), zmk, zj x4, zmk] [.long ((z_4 * 31) + ((Int32.ofInt r_13).toInt64))] w_11 ov w' c s
    refine rl_lc (z := 31) rfl rfl (by decide) ?_
    show Zr sc 100 187 [zp a0, zp a1, .long ((z_4 * 31) + ((Int32.ofInt r_13).toInt64)), zmk, zj x4, zmk] [.long 31, .long ((z_4 * 31) + ((Int32.ofInt r_13).toInt64))] w_11 ov w' c s
    refine rl_lmul rfl ?_
    show Zr sc 100 188 [zp a0, zp a1, .long ((z_4 * 31) + ((Int32.ofInt r_13).toInt64)), zmk, zj x4, zmk] [.long (((z_4 * 31) + ((Int32.ofInt r_13).toInt64)) * 31)] w_11 ov w' c s
    refine Zr_st (q := (189, [zp a0, zp a1, .long ((z_4 * 31) + ((Int32.ofInt r_13).toInt64)), zmk, zj x4, zmk], [zp a1, .long (((z_4 * 31) + ((Int32.ofInt r_13).toInt64)) * 31)])) rfl rfl rfl ?_
    show Zr sc 100 189 [zp a0, zp a1, .long ((z_4 * 31) + ((Int32.ofInt r_13).toInt64)), zmk, zj x4, zmk] [zp a1, .long (((z_4 * 31) + ((Int32.ofInt r_13).toInt64)) * 31)] w_11 ov w' c s
    refine rl_bi rfl (by decide) ?_
    show Zr sc 100 191 [zp a0, zp a1, .long ((z_4 * 31) + ((Int32.ofInt r_13).toInt64)), zmk, zj x4, zmk] [zj 30, zp a1, .long (((z_4 * 31) + ((Int32.ofInt r_13).toInt64)) * 31)] w_11 ov w' c s
    obtain ⟨cn_14, fs_15, hw_16, hcn_17, h⟩ := h
    have hz_18 : ∃ kd, zinv 100 (.invokevirtual 189) [zj 30, zp a1, .long (((z_4 * 31) + ((Int32.ofInt r_13).toInt64)) * 31)] (false, w_11) = some (kd, 38, [zp a1, zj 30], [.long (((z_4 * 31) + ((Int32.ofInt r_13).toInt64)) * 31)]) ∧ decide (kd < 6) = true := by rcases hcn_17 with rfl | rfl | rfl <;> exact zinv_u hw_16 rfl rfl rfl rfl rfl rfl rfl
    obtain ⟨kd_19, hz_18⟩ := hz_18
    obtain ⟨r_22, w_20, hk_21, h⟩ := h
    refine rn_cal0 (ins := .invokevirtual 189) (rest := [.long (((z_4 * 31) + ((Int32.ofInt r_13).toInt64)) * 31)]) rfl rfl rfl rfl hz_18.1 rfl hz_18.2 hk_21 ?_
    show Zr sc 100 194 [zp a0, zp a1, .long ((z_4 * 31) + ((Int32.ofInt r_13).toInt64)), zmk, zj x4, zmk] [zj r_22, .long (((z_4 * 31) + ((Int32.ofInt r_13).toInt64)) * 31)] w_20 ov w' c s
    refine rl_i2l rfl ?_
    show Zr sc 100 195 [zp a0, zp a1, .long ((z_4 * 31) + ((Int32.ofInt r_13).toInt64)), zmk, zj x4, zmk] [.long ((Int32.ofInt r_22).toInt64), .long (((z_4 * 31) + ((Int32.ofInt r_13).toInt64)) * 31)] w_20 ov w' c s
    refine rl_ladd rfl ?_
    show Zr sc 100 196 [zp a0, zp a1, .long ((z_4 * 31) + ((Int32.ofInt r_13).toInt64)), zmk, zj x4, zmk] [.long ((((z_4 * 31) + ((Int32.ofInt r_13).toInt64)) * 31) + ((Int32.ofInt r_22).toInt64))] w_20 ov w' c s
    refine Zr_st (q := (197, [zp a0, zp a1, .long ((((z_4 * 31) + ((Int32.ofInt r_13).toInt64)) * 31) + ((Int32.ofInt r_22).toInt64)), zmk, zj x4, zmk], [])) rfl rfl rfl ?_
    show Zr sc 100 197 [zp a0, zp a1, .long ((((z_4 * 31) + ((Int32.ofInt r_13).toInt64)) * 31) + ((Int32.ofInt r_22).toInt64)), zmk, zj x4, zmk] [] w_20 ov w' c s
    refine Zr_st (q := (198, [zp a0, zp a1, .long ((((z_4 * 31) + ((Int32.ofInt r_13).toInt64)) * 31) + ((Int32.ofInt r_22).toInt64)), zmk, zj x4, zmk], [.long ((((z_4 * 31) + ((Int32.ofInt r_13).toInt64)) * 31) + ((Int32.ofInt r_22).toInt64))])) rfl rfl rfl ?_
    show Zr sc 100 198 [zp a0, zp a1, .long ((((z_4 * 31) + ((Int32.ofInt r_13).toInt64)) * 31) + ((Int32.ofInt r_22).toInt64)), zmk, zj x4, zmk] [.long ((((z_4 * 31) + ((Int32.ofInt r_13).toInt64)) * 31) + ((Int32.ofInt r_22).toInt64))] w_20 ov w' c s
    refine rl_lc (z := 31) rfl rfl (by decide) ?_
    show Zr sc 100 201 [zp a0, zp a1, .long ((((z_4 * 31) + ((Int32.ofInt r_13).toInt64)) * 31) + ((Int32.ofInt r_22).toInt64)), zmk, zj x4, zmk] [.long 31, .long ((((z_4 * 31) + ((Int32.ofInt r_13).toInt64)) * 31) + ((Int32.ofInt r_22).toInt64))] w_20 ov w' c s
    refine rl_lmul rfl ?_
    show Zr sc 100 202 [zp a0, zp a1, .long ((((z_4 * 31) + ((Int32.ofInt r_13).toInt64)) * 31) + ((Int32.ofInt r_22).toInt64)), zmk, zj x4, zmk] [.long (((((z_4 * 31) + ((Int32.ofInt r_13).toInt64)) * 31) + ((Int32.ofInt r_22).toInt64)) * 31)] w_20 ov w' c s
    refine Zr_st (q := (203, [zp a0, zp a1, .long ((((z_4 * 31) + ((Int32.ofInt r_13).toInt64)) * 31) + ((Int32.ofInt r_22).toInt64)), zmk, zj x4, zmk], [zp a1, .long (((((z_4 * 31) + ((Int32.ofInt r_13).toInt64)) * 31) + ((Int32.ofInt r_22).toInt64)) * 31)])) rfl rfl rfl ?_
    show Zr sc 100 203 [zp a0, zp a1, .long ((((z_4 * 31) + ((Int32.ofInt r_13).toInt64)) * 31) + ((Int32.ofInt r_22).toInt64)), zmk, zj x4, zmk] [zp a1, .long (((((z_4 * 31) + ((Int32.ofInt r_13).toInt64)) * 31) + ((Int32.ofInt r_22).toInt64)) * 31)] w_20 ov w' c s
    refine rl_bi rfl (by decide) ?_
    show Zr sc 100 205 [zp a0, zp a1, .long ((((z_4 * 31) + ((Int32.ofInt r_13).toInt64)) * 31) + ((Int32.ofInt r_22).toInt64)), zmk, zj x4, zmk] [zj 120, zp a1, .long (((((z_4 * 31) + ((Int32.ofInt r_13).toInt64)) * 31) + ((Int32.ofInt r_22).toInt64)) * 31)] w_20 ov w' c s
    obtain ⟨cn_23, fs_24, hw_25, hcn_26, h⟩ := h
    have hz_27 : ∃ kd, zinv 100 (.invokevirtual 189) [zj 120, zp a1, .long (((((z_4 * 31) + ((Int32.ofInt r_13).toInt64)) * 31) + ((Int32.ofInt r_22).toInt64)) * 31)] (false, w_20) = some (kd, 38, [zp a1, zj 120], [.long (((((z_4 * 31) + ((Int32.ofInt r_13).toInt64)) * 31) + ((Int32.ofInt r_22).toInt64)) * 31)]) ∧ decide (kd < 6) = true := by rcases hcn_26 with rfl | rfl | rfl <;> exact zinv_u hw_25 rfl rfl rfl rfl rfl rfl rfl
    obtain ⟨kd_28, hz_27⟩ := hz_27
    obtain ⟨r_31, w_29, hk_30, h⟩ := h
    refine rn_cal0 (ins := .invokevirtual 189) (rest := [.long (((((z_4 * 31) + ((Int32.ofInt r_13).toInt64)) * 31) + ((Int32.ofInt r_22).toInt64)) * 31)]) rfl rfl rfl rfl hz_27.1 rfl hz_27.2 hk_30 ?_
    show Zr sc 100 208 [zp a0, zp a1, .long ((((z_4 * 31) + ((Int32.ofInt r_13).toInt64)) * 31) + ((Int32.ofInt r_22).toInt64)), zmk, zj x4, zmk] [zj r_31, .long (((((z_4 * 31) + ((Int32.ofInt r_13).toInt64)) * 31) + ((Int32.ofInt r_22).toInt64)) * 31)] w_29 ov w' c s
    refine rl_i2l rfl ?_
    show Zr sc 100 209 [zp a0, zp a1, .long ((((z_4 * 31) + ((Int32.ofInt r_13).toInt64)) * 31) + ((Int32.ofInt r_22).toInt64)), zmk, zj x4, zmk] [.long ((Int32.ofInt r_31).toInt64), .long (((((z_4 * 31) + ((Int32.ofInt r_13).toInt64)) * 31) + ((Int32.ofInt r_22).toInt64)) * 31)] w_29 ov w' c s
    refine rl_ladd rfl ?_
    show Zr sc 100 210 [zp a0, zp a1, .long ((((z_4 * 31) + ((Int32.ofInt r_13).toInt64)) * 31) + ((Int32.ofInt r_22).toInt64)), zmk, zj x4, zmk] [.long ((((((z_4 * 31) + ((Int32.ofInt r_13).toInt64)) * 31) + ((Int32.ofInt r_22).toInt64)) * 31) + ((Int32.ofInt r_31).toInt64))] w_29 ov w' c s
    refine Zr_st (q := (211, [zp a0, zp a1, .long ((((((z_4 * 31) + ((Int32.ofInt r_13).toInt64)) * 31) + ((Int32.ofInt r_22).toInt64)) * 31) + ((Int32.ofInt r_31).toInt64)), zmk, zj x4, zmk], [])) rfl rfl rfl ?_
    show Zr sc 100 211 [zp a0, zp a1, .long ((((((z_4 * 31) + ((Int32.ofInt r_13).toInt64)) * 31) + ((Int32.ofInt r_22).toInt64)) * 31) + ((Int32.ofInt r_31).toInt64)), zmk, zj x4, zmk] [] w_29 ov w' c s
    refine rl_ic rfl ?_
    show Zr sc 100 212 [zp a0, zp a1, .long ((((((z_4 * 31) + ((Int32.ofInt r_13).toInt64)) * 31) + ((Int32.ofInt r_22).toInt64)) * 31) + ((Int32.ofInt r_31).toInt64)), zmk, zj x4, zmk] [zj 0] w_29 ov w' c s
    refine Zr_st (q := (214, [zp a0, zp a1, .long ((((((z_4 * 31) + ((Int32.ofInt r_13).toInt64)) * 31) + ((Int32.ofInt r_22).toInt64)) * 31) + ((Int32.ofInt r_31).toInt64)), zmk, zj 0, zmk], [])) rfl rfl rfl ?_
    show Zr sc 100 214 [zp a0, zp a1, .long ((((((z_4 * 31) + ((Int32.ofInt r_13).toInt64)) * 31) + ((Int32.ofInt r_22).toInt64)) * 31) + ((Int32.ofInt r_31).toInt64)), zmk, zj 0, zmk] [] w_29 ov w' c s
    exact h
  · replace h := h.2 hp
    show Zr sc 100 144 [zp a0, zp a1, .long z2, zmk, zj x4, zmk] [] w ov w' c s
    refine Zr_st (q := (145, [zp a0, zp a1, .long z2, zmk, zj x4, zmk], [.long z2])) rfl rfl rfl ?_
    show Zr sc 100 145 [zp a0, zp a1, .long z2, zmk, zj x4, zmk] [.long z2] w ov w' c s
    refine rl_lc (z := 31) rfl rfl (by decide) ?_
    show Zr sc 100 148 [zp a0, zp a1, .long z2, zmk, zj x4, zmk] [.long 31, .long z2] w ov w' c s
    refine rl_lmul rfl ?_
    show Zr sc 100 149 [zp a0, zp a1, .long z2, zmk, zj x4, zmk] [.long (z2 * 31)] w ov w' c s
    refine Zr_st (q := (150, [zp a0, zp a1, .long z2, zmk, zj x4, zmk], [zp a1, .long (z2 * 31)])) rfl rfl rfl ?_
    show Zr sc 100 150 [zp a0, zp a1, .long z2, zmk, zj x4, zmk] [zp a1, .long (z2 * 31)] w ov w' c s
    refine Zr_st (q := (152, [zp a0, zp a1, .long z2, zmk, zj x4, zmk], [zj x4, zp a1, .long (z2 * 31)])) rfl rfl rfl ?_
    show Zr sc 100 152 [zp a0, zp a1, .long z2, zmk, zj x4, zmk] [zj x4, zp a1, .long (z2 * 31)] w ov w' c s
    obtain ⟨cn_32, fs_33, hw_34, hcn_35, h⟩ := h
    have hz_36 : ∃ kd, zinv 100 (.invokevirtual 128) [zj x4, zp a1, .long (z2 * 31)] (false, w) = some (kd, 34, [zp a1, zj x4], [.long (z2 * 31)]) ∧ decide (kd < 6) = true := by rcases hcn_35 with rfl | rfl | rfl <;> exact zinv_u hw_34 rfl rfl rfl rfl rfl rfl rfl
    obtain ⟨kd_37, hz_36⟩ := hz_36
    obtain ⟨r_40, hk_9, h⟩ := h
    refine rn_cal0 (ins := .invokevirtual 128) (rest := [.long (z2 * 31)]) rfl rfl rfl rfl hz_36.1 rfl hz_36.2 hk_9 ?_
    show Zr sc 100 155 [zp a0, zp a1, .long z2, zmk, zj x4, zmk] [zj r_40, .long (z2 * 31)] w ov w' c s
    refine rl_i2l rfl ?_
    show Zr sc 100 156 [zp a0, zp a1, .long z2, zmk, zj x4, zmk] [.long ((Int32.ofInt r_40).toInt64), .long (z2 * 31)] w ov w' c s
    refine rl_ladd rfl ?_
    show Zr sc 100 157 [zp a0, zp a1, .long z2, zmk, zj x4, zmk] [.long ((z2 * 31) + ((Int32.ofInt r_40).toInt64))] w ov w' c s
    refine Zr_st (q := (158, [zp a0, zp a1, .long ((z2 * 31) + ((Int32.ofInt r_40).toInt64)), zmk, zj x4, zmk], [])) rfl rfl rfl ?_
    show Zr sc 100 158 [zp a0, zp a1, .long ((z2 * 31) + ((Int32.ofInt r_40).toInt64)), zmk, zj x4, zmk] [] w ov w' c s
    refine rl_inc rfl rfl rfl rfl ?_
    show Zr sc 100 161 [zp a0, zp a1, .long ((z2 * 31) + ((Int32.ofInt r_40).toInt64)), zmk, zj (x4 + 1), zmk] [] w ov w' c s
    refine Zr_st (q := (138, [zp a0, zp a1, .long ((z2 * 31) + ((Int32.ofInt r_40).toInt64)), zmk, zj (x4 + 1), zmk], [])) rfl rfl rfl ?_
    show Zr sc 100 138 [zp a0, zp a1, .long ((z2 * 31) + ((Int32.ofInt r_40).toInt64)), zmk, zj (x4 + 1), zmk] [] w ov w' c s
    exact h
set_option maxRecDepth 100000 in
theorem V100_214 {sc : List Value} {w w' : List zE} {ov : Option Value} {c s : Nat} {a0 : Nat} {a1 : Nat} {z2 : Int64} {x4 : Int} {v5 : Value} {wy : Int} (L0 : w[a0]? = some (zob 6 [zp (a0 + 1), zp (a0 + 5), zp (a0 + 16), zp (a0 + 27), zp (a0 + 38), zp (a0 + 49), zp (a0 + 60), zj wy])) (h : ((zrg x4 ∧ zrg 6) ∧ ((6 ≤ x4 → (ov = some (.long z2) ∧ w' = w ∧ c = 0 ∧ s = 0)) ∧ (¬ (6 ≤ x4) → (∃ p_4 : Nat, Zc sc 2 [zp a0, zj x4] w (some (zp p_4)) w 0 0 ∧ (∃ cn_5 : Nat, ∃ fs_6 : List Value, w[p_4]? = some (zob cn_5 fs_6) ∧ (cn_5 = 1 ∨ cn_5 = 2 ∨ cn_5 = 4) ∧ (∃ p_13 : Nat, ∃ w_11 : List zE, Zc sc 57 [zp p_4, zp (a0 + 1)] w (some (zp p_13)) w_11 0 0 ∧ (∃ cn_14 : Nat, ∃ fs_15 : List Value, w_11[p_13]? = some (zob cn_14 fs_15) ∧ (cn_14 = 1 ∨ cn_14 = 2 ∨ cn_14 = 4) ∧ (∃ r_22 : Int, Zc sc 34 [zp p_13, zj 4] w_11 (some (zj r_22)) w_11 0 0 ∧ (∃ cn_23 : Nat, ∃ fs_24 : List Value, w_11[p_13]? = some (zob cn_23 fs_24) ∧ (cn_23 = 1 ∨ cn_23 = 2 ∨ cn_23 = 4) ∧ (∃ r_31 : Int, Zc sc 34 [zp p_13, zj 5] w_11 (some (zj r_31)) w_11 0 0 ∧ Zr sc 100 214 [zp a0, zp a1, .long ((((z2 * 31) + ((Int32.ofInt r_22).toInt64)) * 31) + ((Int32.ofInt r_31).toInt64)), zmk, zj (x4 + 1), zp p_13] [] w_11 ov w' c s))))))))))) : Zr sc 100 214 [zp a0, zp a1, .long z2, zmk, zj x4, v5] [] w ov w' c s := by
  refine Zr_st (q := (216, [zp a0, zp a1, .long z2, zmk, zj x4, v5], [zj x4])) rfl rfl rfl ?_
  show Zr sc 100 216 [zp a0, zp a1, .long z2, zmk, zj x4, v5] [zj x4] w ov w' c s
  refine rl_bi rfl (by decide) ?_
  show Zr sc 100 218 [zp a0, zp a1, .long z2, zmk, zj x4, v5] [zj 6, zj x4] w ov w' c s
  obtain ⟨hr_1, h⟩ := h
  refine Zr_br (p := 6 ≤ x4) rfl rfl (zcmp_j (cnd := .ge) hr_1.1 hr_1.2) (fun hp => ?_) (fun hp => ?_)
  · replace h := h.1 hp
    show Zr sc 100 270 [zp a0, zp a1, .long z2, zmk, zj x4, v5] [] w ov w' c s
    refine Zr_st (q := (271, [zp a0, zp a1, .long z2, zmk, zj x4, v5], [.long z2])) rfl rfl rfl ?_
    show Zr sc 100 271 [zp a0, zp a1, .long z2, zmk, zj x4, v5] [.long z2] w ov w' c s
    obtain ⟨h1, h2, h3, h4⟩ := h
    subst h1; subst h2; subst h3; subst h4
    exact Zr_ret (ins := .lreturn) rfl rfl
  · replace h := h.2 hp
    show Zr sc 100 221 [zp a0, zp a1, .long z2, zmk, zj x4, v5] [] w ov w' c s
    refine Zr_st (q := (222, [zp a0, zp a1, .long z2, zmk, zj x4, v5], [zp a0])) rfl rfl rfl ?_
    show Zr sc 100 222 [zp a0, zp a1, .long z2, zmk, zj x4, v5] [zp a0] w ov w' c s
    refine Zr_st (q := (224, [zp a0, zp a1, .long z2, zmk, zj x4, v5], [zj x4, zp a0])) rfl rfl rfl ?_
    show Zr sc 100 224 [zp a0, zp a1, .long z2, zmk, zj x4, v5] [zj x4, zp a0] w ov w' c s
    obtain ⟨p_4, hk_9, h⟩ := h
    refine rn_cal0 (ins := .invokevirtual 70) (rest := []) rfl rfl rfl rfl (zinv_v (fs := _) L0 rfl rfl rfl rfl) rfl rfl hk_9 ?_
    show Zr sc 100 227 [zp a0, zp a1, .long z2, zmk, zj x4, v5] [zp p_4] w ov w' c s
    refine Zr_st (q := (228, [zp a0, zp a1, .long z2, zmk, zj x4, v5], [zp a0, zp p_4])) rfl rfl rfl ?_
    show Zr sc 100 228 [zp a0, zp a1, .long z2, zmk, zj x4, v5] [zp a0, zp p_4] w ov w' c s
    refine rl_gf rfl L0 rfl rfl ?_
    show Zr sc 100 231 [zp a0, zp a1, .long z2, zmk, zj x4, v5] [zp (a0 + 1), zp p_4] w ov w' c s
    obtain ⟨cn_5, fs_6, hw_7, hcn_8, h⟩ := h
    have hz_9 : ∃ kd, zinv 100 (.invokevirtual 103) [zp (a0 + 1), zp p_4] (false, w) = some (kd, 57, [zp p_4, zp (a0 + 1)], []) ∧ decide (kd < 6) = true := by rcases hcn_8 with rfl | rfl | rfl <;> exact zinv_u hw_7 rfl rfl rfl rfl rfl rfl rfl
    obtain ⟨kd_10, hz_9⟩ := hz_9
    obtain ⟨p_13, w_11, hk_12, h⟩ := h
    refine rn_cal0 (ins := .invokevirtual 103) (rest := []) rfl rfl rfl rfl hz_9.1 rfl hz_9.2 hk_12 ?_
    show Zr sc 100 234 [zp a0, zp a1, .long z2, zmk, zj x4, v5] [zp p_13] w_11 ov w' c s
    refine Zr_st (q := (236, [zp a0, zp a1, .long z2, zmk, zj x4, zp p_13], [])) rfl rfl rfl ?_
    show Zr sc 100 236 [zp a0, zp a1, .long z2, zmk, zj x4, zp p_13] [] w_11 ov w' c s
    refine Zr_st (q := (237, [zp a0, zp a1, .long z2, zmk, zj x4, zp p_13], [.long z2])) rfl rfl rfl ?_
    show Zr sc 100 237 [zp a0, zp a1, .long z2, zmk, zj x4, zp p_13] [.long z2] w_11 ov w' c s
    refine rl_lc (z := 31) rfl rfl (by decide) ?_
    show Zr sc 100 240 [zp a0, zp a1, .long z2, zmk, zj x4, zp p_13] [.long 31, .long z2] w_11 ov w' c s
    refine rl_lmul rfl ?_
    show Zr sc 100 241 [zp a0, zp a1, .long z2, zmk, zj x4, zp p_13] [.long (z2 * 31)] w_11 ov w' c s
    refine Zr_st (q := (243, [zp a0, zp a1, .long z2, zmk, zj x4, zp p_13], [zp p_13, .long (z2 * 31)])) rfl rfl rfl ?_
    show Zr sc 100 243 [zp a0, zp a1, .long z2, zmk, zj x4, zp p_13] [zp p_13, .long (z2 * 31)] w_11 ov w' c s
    refine rl_ic rfl ?_
    show Zr sc 100 244 [zp a0, zp a1, .long z2, zmk, zj x4, zp p_13] [zj 4, zp p_13, .long (z2 * 31)] w_11 ov w' c s
    obtain ⟨cn_14, fs_15, hw_16, hcn_17, h⟩ := h
    have hz_18 : ∃ kd, zinv 100 (.invokevirtual 128) [zj 4, zp p_13, .long (z2 * 31)] (false, w_11) = some (kd, 34, [zp p_13, zj 4], [.long (z2 * 31)]) ∧ decide (kd < 6) = true := by rcases hcn_17 with rfl | rfl | rfl <;> exact zinv_u hw_16 rfl rfl rfl rfl rfl rfl rfl
    obtain ⟨kd_19, hz_18⟩ := hz_18
    obtain ⟨r_22, hk_9, h⟩ := h
    refine rn_cal0 (ins := .invokevirtual 128) (rest := [.long (z2 * 31)]) rfl rfl rfl rfl hz_18.1 rfl hz_18.2 hk_9 ?_
    show Zr sc 100 247 [zp a0, zp a1, .long z2, zmk, zj x4, zp p_13] [zj r_22, .long (z2 * 31)] w_11 ov w' c s
    refine rl_i2l rfl ?_
    show Zr sc 100 248 [zp a0, zp a1, .long z2, zmk, zj x4, zp p_13] [.long ((Int32.ofInt r_22).toInt64), .long (z2 * 31)] w_11 ov w' c s
    refine rl_ladd rfl ?_
    show Zr sc 100 249 [zp a0, zp a1, .long z2, zmk, zj x4, zp p_13] [.long ((z2 * 31) + ((Int32.ofInt r_22).toInt64))] w_11 ov w' c s
    refine Zr_st (q := (250, [zp a0, zp a1, .long ((z2 * 31) + ((Int32.ofInt r_22).toInt64)), zmk, zj x4, zp p_13], [])) rfl rfl rfl ?_
    show Zr sc 100 250 [zp a0, zp a1, .long ((z2 * 31) + ((Int32.ofInt r_22).toInt64)), zmk, zj x4, zp p_13] [] w_11 ov w' c s
    refine Zr_st (q := (251, [zp a0, zp a1, .long ((z2 * 31) + ((Int32.ofInt r_22).toInt64)), zmk, zj x4, zp p_13], [.long ((z2 * 31) + ((Int32.ofInt r_22).toInt64))])) rfl rfl rfl ?_
    show Zr sc 100 251 [zp a0, zp a1, .long ((z2 * 31) + ((Int32.ofInt r_22).toInt64)), zmk, zj x4, zp p_13] [.long ((z2 * 31) + ((Int32.ofInt r_22).toInt64))] w_11 ov w' c s
    refine rl_lc (z := 31) rfl rfl (by decide) ?_
    show Zr sc 100 254 [zp a0, zp a1, .long ((z2 * 31) + ((Int32.ofInt r_22).toInt64)), zmk, zj x4, zp p_13] [.long 31, .long ((z2 * 31) + ((Int32.ofInt r_22).toInt64))] w_11 ov w' c s
    refine rl_lmul rfl ?_
    show Zr sc 100 255 [zp a0, zp a1, .long ((z2 * 31) + ((Int32.ofInt r_22).toInt64)), zmk, zj x4, zp p_13] [.long (((z2 * 31) + ((Int32.ofInt r_22).toInt64)) * 31)] w_11 ov w' c s
    refine Zr_st (q := (257, [zp a0, zp a1, .long ((z2 * 31) + ((Int32.ofInt r_22).toInt64)), zmk, zj x4, zp p_13], [zp p_13, .long (((z2 * 31) + ((Int32.ofInt r_22).toInt64)) * 31)])) rfl rfl rfl ?_
    show Zr sc 100 257 [zp a0, zp a1, .long ((z2 * 31) + ((Int32.ofInt r_22).toInt64)), zmk, zj x4, zp p_13] [zp p_13, .long (((z2 * 31) + ((Int32.ofInt r_22).toInt64)) * 31)] w_11 ov w' c s
    refine rl_ic rfl ?_
    show Zr sc 100 258 [zp a0, zp a1, .long ((z2 * 31) + ((Int32.ofInt r_22).toInt64)), zmk, zj x4, zp p_13] [zj 5, zp p_13, .long (((z2 * 31) + ((Int32.ofInt r_22).toInt64)) * 31)] w_11 ov w' c s
    obtain ⟨cn_23, fs_24, hw_25, hcn_26, h⟩ := h
    have hz_27 : ∃ kd, zinv 100 (.invokevirtual 128) [zj 5, zp p_13, .long (((z2 * 31) + ((Int32.ofInt r_22).toInt64)) * 31)] (false, w_11) = some (kd, 34, [zp p_13, zj 5], [.long (((z2 * 31) + ((Int32.ofInt r_22).toInt64)) * 31)]) ∧ decide (kd < 6) = true := by rcases hcn_26 with rfl | rfl | rfl <;> exact zinv_u hw_25 rfl rfl rfl rfl rfl rfl rfl
    obtain ⟨kd_28, hz_27⟩ := hz_27
    obtain ⟨r_31, hk_9, h⟩ := h
    refine rn_cal0 (ins := .invokevirtual 128) (rest := [.long (((z2 * 31) + ((Int32.ofInt r_22).toInt64)) * 31)]) rfl rfl rfl rfl hz_27.1 rfl hz_27.2 hk_9 ?_
    show Zr sc 100 261 [zp a0, zp a1, .long ((z2 * 31) + ((Int32.ofInt r_22).toInt64)), zmk, zj x4, zp p_13] [zj r_31, .long (((z2 * 31) + ((Int32.ofInt r_22).toInt64)) * 31)] w_11 ov w' c s
    refine rl_i2l rfl ?_
    show Zr sc 100 262 [zp a0, zp a1, .long ((z2 * 31) + ((Int32.ofInt r_22).toInt64)), zmk, zj x4, zp p_13] [.long ((Int32.ofInt r_31).toInt64), .long (((z2 * 31) + ((Int32.ofInt r_22).toInt64)) * 31)] w_11 ov w' c s
    refine rl_ladd rfl ?_
    show Zr sc 100 263 [zp a0, zp a1, .long ((z2 * 31) + ((Int32.ofInt r_22).toInt64)), zmk, zj x4, zp p_13] [.long ((((z2 * 31) + ((Int32.ofInt r_22).toInt64)) * 31) + ((Int32.ofInt r_31).toInt64))] w_11 ov w' c s
    refine Zr_st (q := (264, [zp a0, zp a1, .long ((((z2 * 31) + ((Int32.ofInt r_22).toInt64)) * 31) + ((Int32.ofInt r_31).toInt64)), zmk, zj x4, zp p_13], [])) rfl rfl rfl ?_
    show Zr sc 100 264 [zp a0, zp a1, .long ((((z2 * 31) + ((Int32.ofInt r_22).toInt64)) * 31) + ((Int32.ofInt r_31).toInt64)), zmk, zj x4, zp p_13] [] w_11 ov w' c s
    refine rl_inc rfl rfl rfl rfl ?_
    show Zr sc 100 267 [zp a0, zp a1, .long ((((z2 * 31) + ((Int32.ofInt r_22).toInt64)) * 31) + ((Int32.ofInt r_31).toInt64)), zmk, zj (x4 + 1), zp p_13] [] w_11 ov w' c s
    refine Zr_st (q := (214, [zp a0, zp a1, .long ((((z2 * 31) + ((Int32.ofInt r_22).toInt64)) * 31) + ((Int32.ofInt r_31).toInt64)), zmk, zj (x4 + 1), zp p_13], [])) rfl rfl rfl ?_
    show Zr sc 100 214 [zp a0, zp a1, .long ((((z2 * 31) + ((Int32.ofInt r_22).toInt64)) * 31) + ((Int32.ofInt r_31).toInt64)), zmk, zj (x4 + 1), zp p_13] [] w_11 ov w' c s
    exact h

-- HeapwrightLab$Memory.arenasOpen()I
set_option maxRecDepth 100000 in
theorem V101_0_1 {sc : List Value} {w w' : List zE} {ov : Option Value} {c s : Nat} {a0 : Nat} {wy : Int} {st : Int} {hd : Int} {hn : Int} {sn : Int} {nm : Int} {ar : Int} {pk : Int} {dn : Int} (L0 : w[a0]? = some (zob 1 [zp (a0 + 1), zp (a0 + 6), zj wy, zj st, zj hd, zj hn, zj sn, zp (a0 + 9), zp (a0 + 10), zj nm, zj ar, zj pk, zj dn])) (h : (ov = some (zj ar) ∧ w' = w ∧ c = 0 ∧ s = 0)) : Zr sc 101 0 [zp a0] [] w ov w' c s := by
  refine Zr_st (q := (1, [zp a0], [zp a0])) rfl rfl rfl ?_
  show Zr sc 101 1 [zp a0] [zp a0] w ov w' c s
  refine rl_gf rfl L0 rfl rfl ?_
  show Zr sc 101 4 [zp a0] [zj ar] w ov w' c s
  obtain ⟨h1, h2, h3, h4⟩ := h
  subst h1; subst h2; subst h3; subst h4
  exact Zr_ret (ins := .ireturn) rfl rfl

-- HeapwrightLab$Memory.arenasOpen()I
set_option maxRecDepth 100000 in
theorem V101_0_2 {sc : List Value} {w w' : List zE} {ov : Option Value} {c s : Nat} {a0 : Nat} {wy : Int} {st : Int} {hd : Int} {hn : Int} {sn : Int} {nm : Int} {ar : Int} {pk : Int} {dn : Int} (L0 : w[a0]? = some (zob 2 [zp (a0 + 1), zp (a0 + 6), zj wy, zj st, zj hd, zj hn, zj sn, zp (a0 + 9), zp (a0 + 10), zj nm, zj ar, zj pk, zj dn])) (h : (ov = some (zj ar) ∧ w' = w ∧ c = 0 ∧ s = 0)) : Zr sc 101 0 [zp a0] [] w ov w' c s := by
  refine Zr_st (q := (1, [zp a0], [zp a0])) rfl rfl rfl ?_
  show Zr sc 101 1 [zp a0] [zp a0] w ov w' c s
  refine rl_gf rfl L0 rfl rfl ?_
  show Zr sc 101 4 [zp a0] [zj ar] w ov w' c s
  obtain ⟨h1, h2, h3, h4⟩ := h
  subst h1; subst h2; subst h3; subst h4
  exact Zr_ret (ins := .ireturn) rfl rfl

-- HeapwrightLab$Memory.arenasOpen()I
set_option maxRecDepth 100000 in
theorem V101_0_4 {sc : List Value} {w w' : List zE} {ov : Option Value} {c s : Nat} {a0 : Nat} {wy : Int} {st : Int} {hd : Int} {hn : Int} {sn : Int} {nm : Int} {ar : Int} {pk : Int} {dn : Int} (L0 : w[a0]? = some (zob 4 [zp (a0 + 1), zp (a0 + 6), zj wy, zj st, zj hd, zj hn, zj sn, zp (a0 + 9), zp (a0 + 10), zj nm, zj ar, zj pk, zj dn, zp (a0 + 11)])) (h : (ov = some (zj ar) ∧ w' = w ∧ c = 0 ∧ s = 0)) : Zr sc 101 0 [zp a0] [] w ov w' c s := by
  refine Zr_st (q := (1, [zp a0], [zp a0])) rfl rfl rfl ?_
  show Zr sc 101 1 [zp a0] [zp a0] w ov w' c s
  refine rl_gf rfl L0 rfl rfl ?_
  show Zr sc 101 4 [zp a0] [zj ar] w ov w' c s
  obtain ⟨h1, h2, h3, h4⟩ := h
  subst h1; subst h2; subst h3; subst h4
  exact Zr_ret (ins := .ireturn) rfl rfl

-- HeapwrightLab$Memory.handPlace()I
set_option maxRecDepth 100000 in
theorem V102_0_1 {sc : List Value} {w w' : List zE} {ov : Option Value} {c s : Nat} {a0 : Nat} {wy : Int} {st : Int} {hd : Int} {hn : Int} {sn : Int} {nm : Int} {ar : Int} {pk : Int} {dn : Int} (L0 : w[a0]? = some (zob 1 [zp (a0 + 1), zp (a0 + 6), zj wy, zj st, zj hd, zj hn, zj sn, zp (a0 + 9), zp (a0 + 10), zj nm, zj ar, zj pk, zj dn])) (h : (ov = some (zj hn) ∧ w' = w ∧ c = 0 ∧ s = 0)) : Zr sc 102 0 [zp a0] [] w ov w' c s := by
  refine Zr_st (q := (1, [zp a0], [zp a0])) rfl rfl rfl ?_
  show Zr sc 102 1 [zp a0] [zp a0] w ov w' c s
  refine rl_gf rfl L0 rfl rfl ?_
  show Zr sc 102 4 [zp a0] [zj hn] w ov w' c s
  obtain ⟨h1, h2, h3, h4⟩ := h
  subst h1; subst h2; subst h3; subst h4
  exact Zr_ret (ins := .ireturn) rfl rfl

-- HeapwrightLab$Memory.handPlace()I
set_option maxRecDepth 100000 in
theorem V102_0_2 {sc : List Value} {w w' : List zE} {ov : Option Value} {c s : Nat} {a0 : Nat} {wy : Int} {st : Int} {hd : Int} {hn : Int} {sn : Int} {nm : Int} {ar : Int} {pk : Int} {dn : Int} (L0 : w[a0]? = some (zob 2 [zp (a0 + 1), zp (a0 + 6), zj wy, zj st, zj hd, zj hn, zj sn, zp (a0 + 9), zp (a0 + 10), zj nm, zj ar, zj pk, zj dn])) (h : (ov = some (zj hn) ∧ w' = w ∧ c = 0 ∧ s = 0)) : Zr sc 102 0 [zp a0] [] w ov w' c s := by
  refine Zr_st (q := (1, [zp a0], [zp a0])) rfl rfl rfl ?_
  show Zr sc 102 1 [zp a0] [zp a0] w ov w' c s
  refine rl_gf rfl L0 rfl rfl ?_
  show Zr sc 102 4 [zp a0] [zj hn] w ov w' c s
  obtain ⟨h1, h2, h3, h4⟩ := h
  subst h1; subst h2; subst h3; subst h4
  exact Zr_ret (ins := .ireturn) rfl rfl

-- HeapwrightLab$Memory.handPlace()I
set_option maxRecDepth 100000 in
theorem V102_0_4 {sc : List Value} {w w' : List zE} {ov : Option Value} {c s : Nat} {a0 : Nat} {wy : Int} {st : Int} {hd : Int} {hn : Int} {sn : Int} {nm : Int} {ar : Int} {pk : Int} {dn : Int} (L0 : w[a0]? = some (zob 4 [zp (a0 + 1), zp (a0 + 6), zj wy, zj st, zj hd, zj hn, zj sn, zp (a0 + 9), zp (a0 + 10), zj nm, zj ar, zj pk, zj dn, zp (a0 + 11)])) (h : (ov = some (zj hn) ∧ w' = w ∧ c = 0 ∧ s = 0)) : Zr sc 102 0 [zp a0] [] w ov w' c s := by
  refine Zr_st (q := (1, [zp a0], [zp a0])) rfl rfl rfl ?_
  show Zr sc 102 1 [zp a0] [zp a0] w ov w' c s
  refine rl_gf rfl L0 rfl rfl ?_
  show Zr sc 102 4 [zp a0] [zj hn] w ov w' c s
  obtain ⟨h1, h2, h3, h4⟩ := h
  subst h1; subst h2; subst h3; subst h4
  exact Zr_ret (ins := .ireturn) rfl rfl

-- HeapwrightLab.withEverything(JLHeapwrightLab$Memory;)J
set_option maxRecDepth 100000 in
theorem V103_0 {sc : List Value} {w w' : List zE} {ov : Option Value} {c s : Nat} {x0 : Int64} {a2 : Nat} (h : (∃ cn_1 : Nat, ∃ fs_2 : List Value, w[a2]? = some (zob cn_1 fs_2) ∧ (cn_1 = 1 ∨ cn_1 = 2 ∨ cn_1 = 4) ∧ (∃ p_9 : Nat, Zc sc 6 [zp a2] w (some (zp p_9)) w 0 0 ∧ Zr sc 103 11 [.long x0, zmk, zp a2, .long x0, zmk, zp p_9, zj 0, zmk] [] w ov w' c s))) : Zr sc 103 0 [.long x0, zmk, zp a2, zmk, zmk, zmk, zmk, zmk] [] w ov w' c s := by
  refine Zr_st (q := (1, [.long x0, zmk, zp a2, zmk, zmk, zmk, zmk, zmk], [.long x0])) rfl rfl rfl ?_
  show Zr sc 103 1 [.long x0, zmk, zp a2, zmk, zmk, zmk, zmk, zmk] [.long x0] w ov w' c s
  refine Zr_st (q := (2, [.long x0, zmk, zp a2, .long x0, zmk, zmk, zmk, zmk], [])) rfl rfl rfl ?_
  show Zr sc 103 2 [.long x0, zmk, zp a2, .long x0, zmk, zmk, zmk, zmk] [] w ov w' c s
  refine Zr_st (q := (3, [.long x0, zmk, zp a2, .long x0, zmk, zmk, zmk, zmk], [zp a2])) rfl rfl rfl ?_
  show Zr sc 103 3 [.long x0, zmk, zp a2, .long x0, zmk, zmk, zmk, zmk] [zp a2] w ov w' c s
  obtain ⟨cn_1, fs_2, hw_3, hcn_4, h⟩ := h
  have hz_5 : ∃ kd, zinv 103 (.invokevirtual 113) [zp a2] (false, w) = some (kd, 6, [zp a2], []) ∧ decide (kd < 6) = true := by rcases hcn_4 with rfl | rfl | rfl <;> exact zinv_u hw_3 rfl rfl rfl rfl rfl rfl rfl
  obtain ⟨kd_6, hz_5⟩ := hz_5
  obtain ⟨p_9, hk_9, h⟩ := h
  refine rn_cal0 (ins := .invokevirtual 113) (rest := []) rfl rfl rfl rfl hz_5.1 rfl hz_5.2 hk_9 ?_
  show Zr sc 103 6 [.long x0, zmk, zp a2, .long x0, zmk, zmk, zmk, zmk] [zp p_9] w ov w' c s
  refine Zr_st (q := (8, [.long x0, zmk, zp a2, .long x0, zmk, zp p_9, zmk, zmk], [])) rfl rfl rfl ?_
  show Zr sc 103 8 [.long x0, zmk, zp a2, .long x0, zmk, zp p_9, zmk, zmk] [] w ov w' c s
  refine rl_ic rfl ?_
  show Zr sc 103 9 [.long x0, zmk, zp a2, .long x0, zmk, zp p_9, zmk, zmk] [zj 0] w ov w' c s
  refine Zr_st (q := (11, [.long x0, zmk, zp a2, .long x0, zmk, zp p_9, zj 0, zmk], [])) rfl rfl rfl ?_
  show Zr sc 103 11 [.long x0, zmk, zp a2, .long x0, zmk, zp p_9, zj 0, zmk] [] w ov w' c s
  exact h
set_option maxRecDepth 100000 in
theorem V103_11 {sc : List Value} {w w' : List zE} {ov : Option Value} {c s : Nat} {z0 : Int64} {a2 : Nat} {z3 : Int64} {a5 : Nat} {x6 : Int} (h : (∃ cn_1 : Nat, ∃ fs_2 : List Value, w[a2]? = some (zob cn_1 fs_2) ∧ (cn_1 = 1 ∨ cn_1 = 2 ∨ cn_1 = 4) ∧ (∃ r_9 : Int, Zc sc 3 [zp a2] w (some (zj r_9)) w 0 0 ∧ ((zrg x6 ∧ zrg r_9) ∧ ((r_9 ≤ x6 → (∃ cn_11 : Nat, ∃ fs_12 : List Value, w[a2]? = some (zob cn_11 fs_12) ∧ (cn_11 = 1 ∨ cn_11 = 2 ∨ cn_11 = 4) ∧ (∃ p_19 : Nat, Zc sc 20 [zp a2] w (some (zp p_19)) w 0 0 ∧ (∃ fs_21 : List Value, w[p_19]? = some (zob 3 fs_21) ∧ (∃ r_24 : Int, Zc sc 21 [zp p_19] w (some (zj r_24)) w 0 0 ∧ Zr sc 103 93 [.long z0, zmk, zp a2, .long ((z3 * 31) + ((Int32.ofInt r_24).toInt64)), zmk, zp a5, zp p_19, zj 0] [] w ov w' c s))))) ∧ (¬ (r_9 ≤ x6) → (∃ fs_26 : List Value, w[a5]? = some (zob 0 fs_26) ∧ (∃ r_29 : Int, Zc sc 9 [zp a5, zj x6] w (some (zj r_29)) w 0 0 ∧ (∃ r_32 : Int, Zc sc 11 [zp a5, zj x6] w (some (zj r_32)) w 0 0 ∧ (∃ r_35 : Int, Zc sc 13 [zp a5, zj x6] w (some (zj r_35)) w 0 0 ∧ Zr sc 103 11 [.long z0, zmk, zp a2, .long ((((((z3 * 31) + ((Int32.ofInt r_29).toInt64)) * 31) + ((Int32.ofInt r_32).toInt64)) * 31) + ((Int32.ofInt r_35).toInt64)), zmk, zp a5, zj (x6 + 1), zmk] [] w ov w' c s)))))))))) : Zr sc 103 11 [.long z0, zmk, zp a2, .long z3, zmk, zp a5, zj x6, zmk] [] w ov w' c s := by
  refine Zr_st (q := (13, [.long z0, zmk, zp a2, .long z3, zmk, zp a5, zj x6, zmk], [zj x6])) rfl rfl rfl ?_
  show Zr sc 103 13 [.long z0, zmk, zp a2, .long z3, zmk, zp a5, zj x6, zmk] [zj x6] w ov w' c s
  refine Zr_st (q := (14, [.long z0, zmk, zp a2, .long z3, zmk, zp a5, zj x6, zmk], [zp a2, zj x6])) rfl rfl rfl ?_
  show Zr sc 103 14 [.long z0, zmk, zp a2, .long z3, zmk, zp a5, zj x6, zmk] [zp a2, zj x6] w ov w' c s
  obtain ⟨cn_1, fs_2, hw_3, hcn_4, h⟩ := h
  have hz_5 : ∃ kd, zinv 103 (.invokevirtual 87) [zp a2, zj x6] (false, w) = some (kd, 3, [zp a2], [zj x6]) ∧ decide (kd < 6) = true := by rcases hcn_4 with rfl | rfl | rfl <;> exact zinv_u hw_3 rfl rfl rfl rfl rfl rfl rfl
  obtain ⟨kd_6, hz_5⟩ := hz_5
  obtain ⟨r_9, hk_9, h⟩ := h
  refine rn_cal0 (ins := .invokevirtual 87) (rest := [zj x6]) rfl rfl rfl rfl hz_5.1 rfl hz_5.2 hk_9 ?_
  show Zr sc 103 17 [.long z0, zmk, zp a2, .long z3, zmk, zp a5, zj x6, zmk] [zj r_9, zj x6] w ov w' c s
  obtain ⟨hr_10, h⟩ := h
  refine Zr_br (p := r_9 ≤ x6) rfl rfl (zcmp_j (cnd := .ge) hr_10.1 hr_10.2) (fun hp => ?_) (fun hp => ?_)
  · replace h := h.1 hp
    show Zr sc 103 71 [.long z0, zmk, zp a2, .long z3, zmk, zp a5, zj x6, zmk] [] w ov w' c s
    refine Zr_st (q := (72, [.long z0, zmk, zp a2, .long z3, zmk, zp a5, zj x6, zmk], [zp a2])) rfl rfl rfl ?_
    show Zr sc 103 72 [.long z0, zmk, zp a2, .long z3, zmk, zp a5, zj x6, zmk] [zp a2] w ov w' c s
    obtain ⟨cn_11, fs_12, hw_13, hcn_14, h⟩ := h
    have hz_15 : ∃ kd, zinv 103 (.invokevirtual 158) [zp a2] (false, w) = some (kd, 20, [zp a2], []) ∧ decide (kd < 6) = true := by rcases hcn_14 with rfl | rfl | rfl <;> exact zinv_u hw_13 rfl rfl rfl rfl rfl rfl rfl
    obtain ⟨kd_16, hz_15⟩ := hz_15
    obtain ⟨p_19, hk_9, h⟩ := h
    refine rn_cal0 (ins := .invokevirtual 158) (rest := []) rfl rfl rfl rfl hz_15.1 rfl hz_15.2 hk_9 ?_
    show Zr sc 103 75 [.long z0, zmk, zp a2, .long z3, zmk, zp a5, zj x6, zmk] [zp p_19] w ov w' c s
    refine Zr_st (q := (77, [.long z0, zmk, zp a2, .long z3, zmk, zp a5, zp p_19, zmk], [])) rfl rfl rfl ?_
    show Zr sc 103 77 [.long z0, zmk, zp a2, .long z3, zmk, zp a5, zp p_19, zmk] [] w ov w' c s
    refine Zr_st (q := (78, [.long z0, zmk, zp a2, .long z3, zmk, zp a5, zp p_19, zmk], [.long z3])) rfl rfl rfl ?_
    show Zr sc 103 78 [.long z0, zmk, zp a2, .long z3, zmk, zp a5, zp p_19, zmk] [.long z3] w ov w' c s
    refine rl_lc (z := 31) rfl rfl (by decide) ?_
    show Zr sc 103 81 [.long z0, zmk, zp a2, .long z3, zmk, zp a5, zp p_19, zmk] [.long 31, .long z3] w ov w' c s
    refine rl_lmul rfl ?_
    show Zr sc 103 82 [.long z0, zmk, zp a2, .long z3, zmk, zp a5, zp p_19, zmk] [.long (z3 * 31)] w ov w' c s
    refine Zr_st (q := (84, [.long z0, zmk, zp a2, .long z3, zmk, zp a5, zp p_19, zmk], [zp p_19, .long (z3 * 31)])) rfl rfl rfl ?_
    show Zr sc 103 84 [.long z0, zmk, zp a2, .long z3, zmk, zp a5, zp p_19, zmk] [zp p_19, .long (z3 * 31)] w ov w' c s
    obtain ⟨fs_21, hl_20, h⟩ := h
    obtain ⟨r_24, hk_9, h⟩ := h
    refine rn_cal0 (ins := .invokevirtual 162) (rest := [.long (z3 * 31)]) rfl rfl rfl rfl (zinv_v (fs := _) hl_20 rfl rfl rfl rfl) rfl rfl hk_9 ?_
    show Zr sc 103 87 [.long z0, zmk, zp a2, .long z3, zmk, zp a5, zp p_19, zmk] [zj r_24, .long (z3 * 31)] w ov w' c s
    refine rl_i2l rfl ?_
    show Zr sc 103 88 [.long z0, zmk, zp a2, .long z3, zmk, zp a5, zp p_19, zmk] [.long ((Int32.ofInt r_24).toInt64), .long (z3 * 31)] w ov w' c s
    refine rl_ladd rfl ?_
    show Zr sc 103 89 [.long z0, zmk, zp a2, .long z3, zmk, zp a5, zp p_19, zmk] [.long ((z3 * 31) + ((Int32.ofInt r_24).toInt64))] w ov w' c s
    refine Zr_st (q := (90, [.long z0, zmk, zp a2, .long ((z3 * 31) + ((Int32.ofInt r_24).toInt64)), zmk, zp a5, zp p_19, zmk], [])) rfl rfl rfl ?_
    show Zr sc 103 90 [.long z0, zmk, zp a2, .long ((z3 * 31) + ((Int32.ofInt r_24).toInt64)), zmk, zp a5, zp p_19, zmk] [] w ov w' c s
    refine rl_ic rfl ?_
    show Zr sc 103 91 [.long z0, zmk, zp a2, .long ((z3 * 31) + ((Int32.ofInt r_24).toInt64)), zmk, zp a5, zp p_19, zmk] [zj 0] w ov w' c s
    refine Zr_st (q := (93, [.long z0, zmk, zp a2, .long ((z3 * 31) + ((Int32.ofInt r_24).toInt64)), zmk, zp a5, zp p_19, zj 0], [])) rfl rfl rfl ?_
    show Zr sc 103 93 [.long z0, zmk, zp a2, .long ((z3 * 31) + ((Int32.ofInt r_24).toInt64)), zmk, zp a5, zp p_19, zj 0] [] w ov w' c s
    exact h
  · replace h := h.2 hp
    show Zr sc 103 20 [.long z0, zmk, zp a2, .long z3, zmk, zp a5, zj x6, zmk] [] w ov w' c s
    refine Zr_st (q := (21, [.long z0, zmk, zp a2, .long z3, zmk, zp a5, zj x6, zmk], [.long z3])) rfl rfl rfl ?_
    show Zr sc 103 21 [.long z0, zmk, zp a2, .long z3, zmk, zp a5, zj x6, zmk] [.long z3] w ov w' c s
    refine rl_lc (z := 31) rfl rfl (by decide) ?_
    show Zr sc 103 24 [.long z0, zmk, zp a2, .long z3, zmk, zp a5, zj x6, zmk] [.long 31, .long z3] w ov w' c s
    refine rl_lmul rfl ?_
    show Zr sc 103 25 [.long z0, zmk, zp a2, .long z3, zmk, zp a5, zj x6, zmk] [.long (z3 * 31)] w ov w' c s
    refine Zr_st (q := (27, [.long z0, zmk, zp a2, .long z3, zmk, zp a5, zj x6, zmk], [zp a5, .long (z3 * 31)])) rfl rfl rfl ?_
    show Zr sc 103 27 [.long z0, zmk, zp a2, .long z3, zmk, zp a5, zj x6, zmk] [zp a5, .long (z3 * 31)] w ov w' c s
    refine Zr_st (q := (29, [.long z0, zmk, zp a2, .long z3, zmk, zp a5, zj x6, zmk], [zj x6, zp a5, .long (z3 * 31)])) rfl rfl rfl ?_
    show Zr sc 103 29 [.long z0, zmk, zp a2, .long z3, zmk, zp a5, zj x6, zmk] [zj x6, zp a5, .long (z3 * 31)] w ov w' c s
    obtain ⟨fs_26, hl_25, h⟩ := h
    obtain ⟨r_29, hk_9, h⟩ := h
    refine rn_cal0 (ins := .invokevirtual 123) (rest := [.long (z3 * 31)]) rfl rfl rfl rfl (zinv_v (fs := _) hl_25 rfl rfl rfl rfl) rfl rfl hk_9 ?_
    show Zr sc 103 32 [.long z0, zmk, zp a2, .long z3, zmk, zp a5, zj x6, zmk] [zj r_29, .long (z3 * 31)] w ov w' c s
    refine rl_i2l rfl ?_
    show Zr sc 103 33 [.long z0, zmk, zp a2, .long z3, zmk, zp a5, zj x6, zmk] [.long ((Int32.ofInt r_29).toInt64), .long (z3 * 31)] w ov w' c s
    refine rl_ladd rfl ?_
    show Zr sc 103 34 [.long z0, zmk, zp a2, .long z3, zmk, zp a5, zj x6, zmk] [.long ((z3 * 31) + ((Int32.ofInt r_29).toInt64))] w ov w' c s
    refine Zr_st (q := (35, [.long z0, zmk, zp a2, .long ((z3 * 31) + ((Int32.ofInt r_29).toInt64)), zmk, zp a5, zj x6, zmk], [])) rfl rfl rfl ?_
    show Zr sc 103 35 [.long z0, zmk, zp a2, .long ((z3 * 31) + ((Int32.ofInt r_29).toInt64)), zmk, zp a5, zj x6, zmk] [] w ov w' c s
    refine Zr_st (q := (36, [.long z0, zmk, zp a2, .long ((z3 * 31) + ((Int32.ofInt r_29).toInt64)), zmk, zp a5, zj x6, zmk], [.long ((z3 * 31) + ((Int32.ofInt r_29).toInt64))])) rfl rfl rfl ?_
    show Zr sc 103 36 [.long z0, zmk, zp a2, .long ((z3 * 31) + ((Int32.ofInt r_29).toInt64)), zmk, zp a5, zj x6, zmk] [.long ((z3 * 31) + ((Int32.ofInt r_29).toInt64))] w ov w' c s
    refine rl_lc (z := 31) rfl rfl (by decide) ?_
    show Zr sc 103 39 [.long z0, zmk, zp a2, .long ((z3 * 31) + ((Int32.ofInt r_29).toInt64)), zmk, zp a5, zj x6, zmk] [.long 31, .long ((z3 * 31) + ((Int32.ofInt r_29).toInt64))] w ov w' c s
    refine rl_lmul rfl ?_
    show Zr sc 103 40 [.long z0, zmk, zp a2, .long ((z3 * 31) + ((Int32.ofInt r_29).toInt64)), zmk, zp a5, zj x6, zmk] [.long (((z3 * 31) + ((Int32.ofInt r_29).toInt64)) * 31)] w ov w' c s
    refine Zr_st (q := (42, [.long z0, zmk, zp a2, .long ((z3 * 31) + ((Int32.ofInt r_29).toInt64)), zmk, zp a5, zj x6, zmk], [zp a5, .long (((z3 * 31) + ((Int32.ofInt r_29).toInt64)) * 31)])) rfl rfl rfl ?_
    show Zr sc 103 42 [.long z0, zmk, zp a2, .long ((z3 * 31) + ((Int32.ofInt r_29).toInt64)), zmk, zp a5, zj x6, zmk] [zp a5, .long (((z3 * 31) + ((Int32.ofInt r_29).toInt64)) * 31)] w ov w' c s
    refine Zr_st (q := (44, [.long z0, zmk, zp a2, .long ((z3 * 31) + ((Int32.ofInt r_29).toInt64)), zmk, zp a5, zj x6, zmk], [zj x6, zp a5, .long (((z3 * 31) + ((Int32.ofInt r_29).toInt64)) * 31)])) rfl rfl rfl ?_
    show Zr sc 103 44 [.long z0, zmk, zp a2, .long ((z3 * 31) + ((Int32.ofInt r_29).toInt64)), zmk, zp a5, zj x6, zmk] [zj x6, zp a5, .long (((z3 * 31) + ((Int32.ofInt r_29).toInt64)) * 31)] w ov w' c s
    obtain ⟨r_32, hk_9, h⟩ := h
    refine rn_cal0 (ins := .invokevirtual 147) (rest := [.long (((z3 * 31) + ((Int32.ofInt r_29).toInt64)) * 31)]) rfl rfl rfl rfl (zinv_v (fs := _) hl_25 rfl rfl rfl rfl) rfl rfl hk_9 ?_
    show Zr sc 103 47 [.long z0, zmk, zp a2, .long ((z3 * 31) + ((Int32.ofInt r_29).toInt64)), zmk, zp a5, zj x6, zmk] [zj r_32, .long (((z3 * 31) + ((Int32.ofInt r_29).toInt64)) * 31)] w ov w' c s
    refine rl_i2l rfl ?_
    show Zr sc 103 48 [.long z0, zmk, zp a2, .long ((z3 * 31) + ((Int32.ofInt r_29).toInt64)), zmk, zp a5, zj x6, zmk] [.long ((Int32.ofInt r_32).toInt64), .long (((z3 * 31) + ((Int32.ofInt r_29).toInt64)) * 31)] w ov w' c s
    refine rl_ladd rfl ?_
    show Zr sc 103 49 [.long z0, zmk, zp a2, .long ((z3 * 31) + ((Int32.ofInt r_29).toInt64)), zmk, zp a5, zj x6, zmk] [.long ((((z3 * 31) + ((Int32.ofInt r_29).toInt64)) * 31) + ((Int32.ofInt r_32).toInt64))] w ov w' c s
    refine Zr_st (q := (50, [.long z0, zmk, zp a2, .long ((((z3 * 31) + ((Int32.ofInt r_29).toInt64)) * 31) + ((Int32.ofInt r_32).toInt64)), zmk, zp a5, zj x6, zmk], [])) rfl rfl rfl ?_
    show Zr sc 103 50 [.long z0, zmk, zp a2, .long ((((z3 * 31) + ((Int32.ofInt r_29).toInt64)) * 31) + ((Int32.ofInt r_32).toInt64)), zmk, zp a5, zj x6, zmk] [] w ov w' c s
    refine Zr_st (q := (51, [.long z0, zmk, zp a2, .long ((((z3 * 31) + ((Int32.ofInt r_29).toInt64)) * 31) + ((Int32.ofInt r_32).toInt64)), zmk, zp a5, zj x6, zmk], [.long ((((z3 * 31) + ((Int32.ofInt r_29).toInt64)) * 31) + ((Int32.ofInt r_32).toInt64))])) rfl rfl rfl ?_
    show Zr sc 103 51 [.long z0, zmk, zp a2, .long ((((z3 * 31) + ((Int32.ofInt r_29).toInt64)) * 31) + ((Int32.ofInt r_32).toInt64)), zmk, zp a5, zj x6, zmk] [.long ((((z3 * 31) + ((Int32.ofInt r_29).toInt64)) * 31) + ((Int32.ofInt r_32).toInt64))] w ov w' c s
    refine rl_lc (z := 31) rfl rfl (by decide) ?_
    show Zr sc 103 54 [.long z0, zmk, zp a2, .long ((((z3 * 31) + ((Int32.ofInt r_29).toInt64)) * 31) + ((Int32.ofInt r_32).toInt64)), zmk, zp a5, zj x6, zmk] [.long 31, .long ((((z3 * 31) + ((Int32.ofInt r_29).toInt64)) * 31) + ((Int32.ofInt r_32).toInt64))] w ov w' c s
    refine rl_lmul rfl ?_
    show Zr sc 103 55 [.long z0, zmk, zp a2, .long ((((z3 * 31) + ((Int32.ofInt r_29).toInt64)) * 31) + ((Int32.ofInt r_32).toInt64)), zmk, zp a5, zj x6, zmk] [.long (((((z3 * 31) + ((Int32.ofInt r_29).toInt64)) * 31) + ((Int32.ofInt r_32).toInt64)) * 31)] w ov w' c s
    refine Zr_st (q := (57, [.long z0, zmk, zp a2, .long ((((z3 * 31) + ((Int32.ofInt r_29).toInt64)) * 31) + ((Int32.ofInt r_32).toInt64)), zmk, zp a5, zj x6, zmk], [zp a5, .long (((((z3 * 31) + ((Int32.ofInt r_29).toInt64)) * 31) + ((Int32.ofInt r_32).toInt64)) * 31)])) rfl rfl rfl ?_
    show Zr sc 103 57 [.long z0, zmk, zp a2, .long ((((z3 * 31) + ((Int32.ofInt r_29).toInt64)) * 31) + ((Int32.ofInt r_32).toInt64)), zmk, zp a5, zj x6, zmk] [zp a5, .long (((((z3 * 31) + ((Int32.ofInt r_29).toInt64)) * 31) + ((Int32.ofInt r_32).toInt64)) * 31)] w ov w' c s
    refine Zr_st (q := (59, [.long z0, zmk, zp a2, .long ((((z3 * 31) + ((Int32.ofInt r_29).toInt64)) * 31) + ((Int32.ofInt r_32).toInt64)), zmk, zp a5, zj x6, zmk], [zj x6, zp a5, .long (((((z3 * 31) + ((Int32.ofInt r_29).toInt64)) * 31) + ((Int32.ofInt r_32).toInt64)) * 31)])) rfl rfl rfl ?_
    show Zr sc 103 59 [.long z0, zmk, zp a2, .long ((((z3 * 31) + ((Int32.ofInt r_29).toInt64)) * 31) + ((Int32.ofInt r_32).toInt64)), zmk, zp a5, zj x6, zmk] [zj x6, zp a5, .long (((((z3 * 31) + ((Int32.ofInt r_29).toInt64)) * 31) + ((Int32.ofInt r_32).toInt64)) * 31)] w ov w' c s
    obtain ⟨r_35, hk_9, h⟩ := h
    refine rn_cal0 (ins := .invokevirtual 117) (rest := [.long (((((z3 * 31) + ((Int32.ofInt r_29).toInt64)) * 31) + ((Int32.ofInt r_32).toInt64)) * 31)]) rfl rfl rfl rfl (zinv_v (fs := _) hl_25 rfl rfl rfl rfl) rfl rfl hk_9 ?_
    show Zr sc 103 62 [.long z0, zmk, zp a2, .long ((((z3 * 31) + ((Int32.ofInt r_29).toInt64)) * 31) + ((Int32.ofInt r_32).toInt64)), zmk, zp a5, zj x6, zmk] [zj r_35, .long (((((z3 * 31) + ((Int32.ofInt r_29).toInt64)) * 31) + ((Int32.ofInt r_32).toInt64)) * 31)] w ov w' c s
    refine rl_i2l rfl ?_
    show Zr sc 103 63 [.long z0, zmk, zp a2, .long ((((z3 * 31) + ((Int32.ofInt r_29).toInt64)) * 31) + ((Int32.ofInt r_32).toInt64)), zmk, zp a5, zj x6, zmk] [.long ((Int32.ofInt r_35).toInt64), .long (((((z3 * 31) + ((Int32.ofInt r_29).toInt64)) * 31) + ((Int32.ofInt r_32).toInt64)) * 31)] w ov w' c s
    refine rl_ladd rfl ?_
    show Zr sc 103 64 [.long z0, zmk, zp a2, .long ((((z3 * 31) + ((Int32.ofInt r_29).toInt64)) * 31) + ((Int32.ofInt r_32).toInt64)), zmk, zp a5, zj x6, zmk] [.long ((((((z3 * 31) + ((Int32.ofInt r_29).toInt64)) * 31) + ((Int32.ofInt r_32).toInt64)) * 31) + ((Int32.ofInt r_35).toInt64))] w ov w' c s
    refine Zr_st (q := (65, [.long z0, zmk, zp a2, .long ((((((z3 * 31) + ((Int32.ofInt r_29).toInt64)) * 31) + ((Int32.ofInt r_32).toInt64)) * 31) + ((Int32.ofInt r_35).toInt64)), zmk, zp a5, zj x6, zmk], [])) rfl rfl rfl ?_
    show Zr sc 103 65 [.long z0, zmk, zp a2, .long ((((((z3 * 31) + ((Int32.ofInt r_29).toInt64)) * 31) + ((Int32.ofInt r_32).toInt64)) * 31) + ((Int32.ofInt r_35).toInt64)), zmk, zp a5, zj x6, zmk] [] w ov w' c s
    refine rl_inc rfl rfl rfl rfl ?_
    show Zr sc 103 68 [.long z0, zmk, zp a2, .long ((((((z3 * 31) + ((Int32.ofInt r_29).toInt64)) * 31) + ((Int32.ofInt r_32).toInt64)) * 31) + ((Int32.ofInt r_35).toInt64)), zmk, zp a5, zj (x6 + 1), zmk] [] w ov w' c s
    refine Zr_st (q := (11, [.long z0, zmk, zp a2, .long ((((((z3 * 31) + ((Int32.ofInt r_29).toInt64)) * 31) + ((Int32.ofInt r_32).toInt64)) * 31) + ((Int32.ofInt r_35).toInt64)), zmk, zp a5, zj (x6 + 1), zmk], [])) rfl rfl rfl ?_
    show Zr sc 103 11 [.long z0, zmk, zp a2, .long ((((((z3 * 31) + ((Int32.ofInt r_29).toInt64)) * 31) + ((Int32.ofInt r_32).toInt64)) * 31) + ((Int32.ofInt r_35).toInt64)), zmk, zp a5, zj (x6 + 1), zmk] [] w ov w' c s
    exact h
set_option maxRecDepth 100000 in
theorem V103_93 {sc : List Value} {w w' : List zE} {ov : Option Value} {c s : Nat} {z0 : Int64} {a2 : Nat} {z3 : Int64} {a5 : Nat} {a6 : Nat} {x7 : Int} (h : (∃ fs_2 : List Value, w[a6]? = some (zob 3 fs_2) ∧ (∃ r_5 : Int, Zc sc 21 [zp a6] w (some (zj r_5)) w 0 0 ∧ ((zrg x7 ∧ zrg r_5) ∧ ((r_5 ≤ x7 → Zr sc 103 142 [.long z0, zmk, zp a2, .long z3, zmk, zp a5, zp a6, zj 0] [] w ov w' c s) ∧ (¬ (r_5 ≤ x7) → (∃ r_9 : Int, Zc sc 24 [zp a6, zj x7] w (some (zj r_9)) w 0 0 ∧ (∃ r_12 : Int, Zc sc 26 [zp a6, zj x7] w (some (zj r_12)) w 0 0 ∧ Zr sc 103 93 [.long z0, zmk, zp a2, .long ((((z3 * 31) + ((Int32.ofInt r_9).toInt64)) * 31) + ((Int32.ofInt r_12).toInt64)), zmk, zp a5, zp a6, zj (x7 + 1)] [] w ov w' c s)))))))) : Zr sc 103 93 [.long z0, zmk, zp a2, .long z3, zmk, zp a5, zp a6, zj x7] [] w ov w' c s := by
  refine Zr_st (q := (95, [.long z0, zmk, zp a2, .long z3, zmk, zp a5, zp a6, zj x7], [zj x7])) rfl rfl rfl ?_
  show Zr sc 103 95 [.long z0, zmk, zp a2, .long z3, zmk, zp a5, zp a6, zj x7] [zj x7] w ov w' c s
  refine Zr_st (q := (97, [.long z0, zmk, zp a2, .long z3, zmk, zp a5, zp a6, zj x7], [zp a6, zj x7])) rfl rfl rfl ?_
  show Zr sc 103 97 [.long z0, zmk, zp a2, .long z3, zmk, zp a5, zp a6, zj x7] [zp a6, zj x7] w ov w' c s
  obtain ⟨fs_2, hl_1, h⟩ := h
  obtain ⟨r_5, hk_9, h⟩ := h
  refine rn_cal0 (ins := .invokevirtual 162) (rest := [zj x7]) rfl rfl rfl rfl (zinv_v (fs := _) hl_1 rfl rfl rfl rfl) rfl rfl hk_9 ?_
  show Zr sc 103 100 [.long z0, zmk, zp a2, .long z3, zmk, zp a5, zp a6, zj x7] [zj r_5, zj x7] w ov w' c s
  obtain ⟨hr_6, h⟩ := h
  refine Zr_br (p := r_5 ≤ x7) rfl rfl (zcmp_j (cnd := .ge) hr_6.1 hr_6.2) (fun hp => ?_) (fun hp => ?_)
  · replace h := h.1 hp
    show Zr sc 103 139 [.long z0, zmk, zp a2, .long z3, zmk, zp a5, zp a6, zj x7] [] w ov w' c s
    refine rl_ic rfl ?_
    show Zr sc 103 140 [.long z0, zmk, zp a2, .long z3, zmk, zp a5, zp a6, zj x7] [zj 0] w ov w' c s
    refine Zr_st (q := (142, [.long z0, zmk, zp a2, .long z3, zmk, zp a5, zp a6, zj 0], [])) rfl rfl rfl ?_
    show Zr sc 103 142 [.long z0, zmk, zp a2, .long z3, zmk, zp a5, zp a6, zj 0] [] w ov w' c s
    exact h
  · replace h := h.2 hp
    show Zr sc 103 103 [.long z0, zmk, zp a2, .long z3, zmk, zp a5, zp a6, zj x7] [] w ov w' c s
    refine Zr_st (q := (104, [.long z0, zmk, zp a2, .long z3, zmk, zp a5, zp a6, zj x7], [.long z3])) rfl rfl rfl ?_
    show Zr sc 103 104 [.long z0, zmk, zp a2, .long z3, zmk, zp a5, zp a6, zj x7] [.long z3] w ov w' c s
    refine rl_lc (z := 31) rfl rfl (by decide) ?_
    show Zr sc 103 107 [.long z0, zmk, zp a2, .long z3, zmk, zp a5, zp a6, zj x7] [.long 31, .long z3] w ov w' c s
    refine rl_lmul rfl ?_
    show Zr sc 103 108 [.long z0, zmk, zp a2, .long z3, zmk, zp a5, zp a6, zj x7] [.long (z3 * 31)] w ov w' c s
    refine Zr_st (q := (110, [.long z0, zmk, zp a2, .long z3, zmk, zp a5, zp a6, zj x7], [zp a6, .long (z3 * 31)])) rfl rfl rfl ?_
    show Zr sc 103 110 [.long z0, zmk, zp a2, .long z3, zmk, zp a5, zp a6, zj x7] [zp a6, .long (z3 * 31)] w ov w' c s
    refine Zr_st (q := (112, [.long z0, zmk, zp a2, .long z3, zmk, zp a5, zp a6, zj x7], [zj x7, zp a6, .long (z3 * 31)])) rfl rfl rfl ?_
    show Zr sc 103 112 [.long z0, zmk, zp a2, .long z3, zmk, zp a5, zp a6, zj x7] [zj x7, zp a6, .long (z3 * 31)] w ov w' c s
    obtain ⟨r_9, hk_9, h⟩ := h
    refine rn_cal0 (ins := .invokevirtual 168) (rest := [.long (z3 * 31)]) rfl rfl rfl rfl (zinv_v (fs := _) hl_1 rfl rfl rfl rfl) rfl rfl hk_9 ?_
    show Zr sc 103 115 [.long z0, zmk, zp a2, .long z3, zmk, zp a5, zp a6, zj x7] [zj r_9, .long (z3 * 31)] w ov w' c s
    refine rl_i2l rfl ?_
    show Zr sc 103 116 [.long z0, zmk, zp a2, .long z3, zmk, zp a5, zp a6, zj x7] [.long ((Int32.ofInt r_9).toInt64), .long (z3 * 31)] w ov w' c s
    refine rl_ladd rfl ?_
    show Zr sc 103 117 [.long z0, zmk, zp a2, .long z3, zmk, zp a5, zp a6, zj x7] [.long ((z3 * 31) + ((Int32.ofInt r_9).toInt64))] w ov w' c s
    refine Zr_st (q := (118, [.long z0, zmk, zp a2, .long ((z3 * 31) + ((Int32.ofInt r_9).toInt64)), zmk, zp a5, zp a6, zj x7], [])) rfl rfl rfl ?_
    show Zr sc 103 118 [.long z0, zmk, zp a2, .long ((z3 * 31) + ((Int32.ofInt r_9).toInt64)), zmk, zp a5, zp a6, zj x7] [] w ov w' c s
    refine Zr_st (q := (119, [.long z0, zmk, zp a2, .long ((z3 * 31) + ((Int32.ofInt r_9).toInt64)), zmk, zp a5, zp a6, zj x7], [.long ((z3 * 31) + ((Int32.ofInt r_9).toInt64))])) rfl rfl rfl ?_
    show Zr sc 103 119 [.long z0, zmk, zp a2, .long ((z3 * 31) + ((Int32.ofInt r_9).toInt64)), zmk, zp a5, zp a6, zj x7] [.long ((z3 * 31) + ((Int32.ofInt r_9).toInt64))] w ov w' c s
    refine rl_lc (z := 31) rfl rfl (by decide) ?_
    show Zr sc 103 122 [.long z0, zmk, zp a2, .long ((z3 * 31) + ((Int32.ofInt r_9).toInt64)), zmk, zp a5, zp a6, zj x7] [.long 31, .long ((z3 * 31) + ((Int32.ofInt r_9).toInt64))] w ov w' c s
    refine rl_lmul rfl ?_
    show Zr sc 103 123 [.long z0, zmk, zp a2, .long ((z3 * 31) + ((Int32.ofInt r_9).toInt64)), zmk, zp a5, zp a6, zj x7] [.long (((z3 * 31) + ((Int32.ofInt r_9).toInt64)) * 31)] w ov w' c s
    refine Zr_st (q := (125, [.long z0, zmk, zp a2, .long ((z3 * 31) + ((Int32.ofInt r_9).toInt64)), zmk, zp a5, zp a6, zj x7], [zp a6, .long (((z3 * 31) + ((Int32.ofInt r_9).toInt64)) * 31)])) rfl rfl rfl ?_
    show Zr sc 103 125 [.long z0, zmk, zp a2, .long ((z3 * 31) + ((Int32.ofInt r_9).toInt64)), zmk, zp a5, zp a6, zj x7] [zp a6, .long (((z3 * 31) + ((Int32.ofInt r_9).toInt64)) * 31)] w ov w' c s
    refine Zr_st (q := (127, [.long z0, zmk, zp a2, .long ((z3 * 31) + ((Int32.ofInt r_9).toInt64)), zmk, zp a5, zp a6, zj x7], [zj x7, zp a6, .long (((z3 * 31) + ((Int32.ofInt r_9).toInt64)) * 31)])) rfl rfl rfl ?_
    show Zr sc 103 127 [.long z0, zmk, zp a2, .long ((z3 * 31) + ((Int32.ofInt r_9).toInt64)), zmk, zp a5, zp a6, zj x7] [zj x7, zp a6, .long (((z3 * 31) + ((Int32.ofInt r_9).toInt64)) * 31)] w ov w' c s
    obtain ⟨r_12, hk_9, h⟩ := h
    refine rn_cal0 (ins := .invokevirtual 169) (rest := [.long (((z3 * 31) + ((Int32.ofInt r_9).toInt64)) * 31)]) rfl rfl rfl rfl (zinv_v (fs := _) hl_1 rfl rfl rfl rfl) rfl rfl hk_9 ?_
    show Zr sc 103 130 [.long z0, zmk, zp a2, .long ((z3 * 31) + ((Int32.ofInt r_9).toInt64)), zmk, zp a5, zp a6, zj x7] [zj r_12, .long (((z3 * 31) + ((Int32.ofInt r_9).toInt64)) * 31)] w ov w' c s
    refine rl_i2l rfl ?_
    show Zr sc 103 131 [.long z0, zmk, zp a2, .long ((z3 * 31) + ((Int32.ofInt r_9).toInt64)), zmk, zp a5, zp a6, zj x7] [.long ((Int32.ofInt r_12).toInt64), .long (((z3 * 31) + ((Int32.ofInt r_9).toInt64)) * 31)] w ov w' c s
    refine rl_ladd rfl ?_
    show Zr sc 103 132 [.long z0, zmk, zp a2, .long ((z3 * 31) + ((Int32.ofInt r_9).toInt64)), zmk, zp a5, zp a6, zj x7] [.long ((((z3 * 31) + ((Int32.ofInt r_9).toInt64)) * 31) + ((Int32.ofInt r_12).toInt64))] w ov w' c s
    refine Zr_st (q := (133, [.long z0, zmk, zp a2, .long ((((z3 * 31) + ((Int32.ofInt r_9).toInt64)) * 31) + ((Int32.ofInt r_12).toInt64)), zmk, zp a5, zp a6, zj x7], [])) rfl rfl rfl ?_
    show Zr sc 103 133 [.long z0, zmk, zp a2, .long ((((z3 * 31) + ((Int32.ofInt r_9).toInt64)) * 31) + ((Int32.ofInt r_12).toInt64)), zmk, zp a5, zp a6, zj x7] [] w ov w' c s
    refine rl_inc rfl rfl rfl rfl ?_
    show Zr sc 103 136 [.long z0, zmk, zp a2, .long ((((z3 * 31) + ((Int32.ofInt r_9).toInt64)) * 31) + ((Int32.ofInt r_12).toInt64)), zmk, zp a5, zp a6, zj (x7 + 1)] [] w ov w' c s
    refine Zr_st (q := (93, [.long z0, zmk, zp a2, .long ((((z3 * 31) + ((Int32.ofInt r_9).toInt64)) * 31) + ((Int32.ofInt r_12).toInt64)), zmk, zp a5, zp a6, zj (x7 + 1)], [])) rfl rfl rfl ?_
    show Zr sc 103 93 [.long z0, zmk, zp a2, .long ((((z3 * 31) + ((Int32.ofInt r_9).toInt64)) * 31) + ((Int32.ofInt r_12).toInt64)), zmk, zp a5, zp a6, zj (x7 + 1)] [] w ov w' c s
    exact h
set_option maxRecDepth 100000 in
theorem V103_142 {sc : List Value} {w w' : List zE} {ov : Option Value} {c s : Nat} {z0 : Int64} {a2 : Nat} {z3 : Int64} {a5 : Nat} {a6 : Nat} {x7 : Int} (h : ((zrg x7 ∧ zrg 8) ∧ ((8 ≤ x7 → (ov = some (.long z3) ∧ w' = w ∧ c = 0 ∧ s = 0)) ∧ (¬ (8 ≤ x7) → (∃ cn_2 : Nat, ∃ fs_3 : List Value, ∃ j_7 : Nat, w[a2]? = some (zob cn_2 fs_3) ∧ ((cn_2 = 1 ∧ j_7 = 104) ∨ (cn_2 = 2 ∧ j_7 = 104) ∨ (cn_2 = 4 ∧ j_7 = 80)) ∧ (∃ r_11 : Int, Zc sc j_7 [zp a2, zj x7] w (some (zj r_11)) w 0 0 ∧ Zr sc 103 142 [.long z0, zmk, zp a2, .long ((z3 * 31) + ((Int32.ofInt r_11).toInt64)), zmk, zp a5, zp a6, zj (x7 + 1)] [] w ov w' c s)))))) : Zr sc 103 142 [.long z0, zmk, zp a2, .long z3, zmk, zp a5, zp a6, zj x7] [] w ov w' c s := by
  refine Zr_st (q := (144, [.long z0, zmk, zp a2, .long z3, zmk, zp a5, zp a6, zj x7], [zj x7])) rfl rfl rfl ?_
  show Zr sc 103 144 [.long z0, zmk, zp a2, .long z3, zmk, zp a5, zp a6, zj x7] [zj x7] w ov w' c s
  refine rl_bi rfl (by decide) ?_
  show Zr sc 103 146 [.long z0, zmk, zp a2, .long z3, zmk, zp a5, zp a6, zj x7] [zj 8, zj x7] w ov w' c s
  obtain ⟨hr_1, h⟩ := h
  refine Zr_br (p := 8 ≤ x7) rfl rfl (zcmp_j (cnd := .ge) hr_1.1 hr_1.2) (fun hp => ?_) (fun hp => ?_)
  · replace h := h.1 hp
    show Zr sc 103 169 [.long z0, zmk, zp a2, .long z3, zmk, zp a5, zp a6, zj x7] [] w ov w' c s
    refine Zr_st (q := (170, [.long z0, zmk, zp a2, .long z3, zmk, zp a5, zp a6, zj x7], [.long z3])) rfl rfl rfl ?_
    show Zr sc 103 170 [.long z0, zmk, zp a2, .long z3, zmk, zp a5, zp a6, zj x7] [.long z3] w ov w' c s
    obtain ⟨h1, h2, h3, h4⟩ := h
    subst h1; subst h2; subst h3; subst h4
    exact Zr_ret (ins := .lreturn) rfl rfl
  · replace h := h.2 hp
    show Zr sc 103 149 [.long z0, zmk, zp a2, .long z3, zmk, zp a5, zp a6, zj x7] [] w ov w' c s
    refine Zr_st (q := (150, [.long z0, zmk, zp a2, .long z3, zmk, zp a5, zp a6, zj x7], [.long z3])) rfl rfl rfl ?_
    show Zr sc 103 150 [.long z0, zmk, zp a2, .long z3, zmk, zp a5, zp a6, zj x7] [.long z3] w ov w' c s
    refine rl_lc (z := 31) rfl rfl (by decide) ?_
    show Zr sc 103 153 [.long z0, zmk, zp a2, .long z3, zmk, zp a5, zp a6, zj x7] [.long 31, .long z3] w ov w' c s
    refine rl_lmul rfl ?_
    show Zr sc 103 154 [.long z0, zmk, zp a2, .long z3, zmk, zp a5, zp a6, zj x7] [.long (z3 * 31)] w ov w' c s
    refine Zr_st (q := (155, [.long z0, zmk, zp a2, .long z3, zmk, zp a5, zp a6, zj x7], [zp a2, .long (z3 * 31)])) rfl rfl rfl ?_
    show Zr sc 103 155 [.long z0, zmk, zp a2, .long z3, zmk, zp a5, zp a6, zj x7] [zp a2, .long (z3 * 31)] w ov w' c s
    refine Zr_st (q := (157, [.long z0, zmk, zp a2, .long z3, zmk, zp a5, zp a6, zj x7], [zj x7, zp a2, .long (z3 * 31)])) rfl rfl rfl ?_
    show Zr sc 103 157 [.long z0, zmk, zp a2, .long z3, zmk, zp a5, zp a6, zj x7] [zj x7, zp a2, .long (z3 * 31)] w ov w' c s
    obtain ⟨cn_2, fs_3, j_7, hw_4, hcn_5, h⟩ := h
    have hz_6 : ∃ kd, zinv 103 (.invokevirtual 172) [zj x7, zp a2, .long (z3 * 31)] (false, w) = some (kd, j_7, [zp a2, zj x7], [.long (z3 * 31)]) ∧ decide (kd < 6) = true := by rcases hcn_5 with ⟨rfl, rfl⟩ | ⟨rfl, rfl⟩ | ⟨rfl, rfl⟩ <;> exact zinv_u hw_4 rfl rfl rfl rfl rfl rfl rfl
    obtain ⟨kd_8, hz_6⟩ := hz_6
    obtain ⟨r_11, hk_9, h⟩ := h
    refine rn_cal0 (ins := .invokevirtual 172) (rest := [.long (z3 * 31)]) rfl rfl rfl rfl hz_6.1 rfl hz_6.2 hk_9 ?_
    show Zr sc 103 160 [.long z0, zmk, zp a2, .long z3, zmk, zp a5, zp a6, zj x7] [zj r_11, .long (z3 * 31)] w ov w' c s
    refine rl_i2l rfl ?_
    show Zr sc 103 161 [.long z0, zmk, zp a2, .long z3, zmk, zp a5, zp a6, zj x7] [.long ((Int32.ofInt r_11).toInt64), .long (z3 * 31)] w ov w' c s
    refine rl_ladd rfl ?_
    show Zr sc 103 162 [.long z0, zmk, zp a2, .long z3, zmk, zp a5, zp a6, zj x7] [.long ((z3 * 31) + ((Int32.ofInt r_11).toInt64))] w ov w' c s
    refine Zr_st (q := (163, [.long z0, zmk, zp a2, .long ((z3 * 31) + ((Int32.ofInt r_11).toInt64)), zmk, zp a5, zp a6, zj x7], [])) rfl rfl rfl ?_
    show Zr sc 103 163 [.long z0, zmk, zp a2, .long ((z3 * 31) + ((Int32.ofInt r_11).toInt64)), zmk, zp a5, zp a6, zj x7] [] w ov w' c s
    refine rl_inc rfl rfl rfl rfl ?_
    show Zr sc 103 166 [.long z0, zmk, zp a2, .long ((z3 * 31) + ((Int32.ofInt r_11).toInt64)), zmk, zp a5, zp a6, zj (x7 + 1)] [] w ov w' c s
    refine Zr_st (q := (142, [.long z0, zmk, zp a2, .long ((z3 * 31) + ((Int32.ofInt r_11).toInt64)), zmk, zp a5, zp a6, zj (x7 + 1)], [])) rfl rfl rfl ?_
    show Zr sc 103 142 [.long z0, zmk, zp a2, .long ((z3 * 31) + ((Int32.ofInt r_11).toInt64)), zmk, zp a5, zp a6, zj (x7 + 1)] [] w ov w' c s
    exact h

-- HeapwrightLab$Memory.classOf(I)I
set_option maxRecDepth 100000 in
theorem V104_0_1 {sc : List Value} {w w' : List zE} {ov : Option Value} {c s : Nat} {a0 : Nat} {x1 : Int} (h : (ov = some (zj (-1)) ∧ w' = w ∧ c = 0 ∧ s = 0)) : Zr sc 104 0 [zp a0, zj x1] [] w ov w' c s := by
  refine rl_ic rfl ?_
  show Zr sc 104 1 [zp a0, zj x1] [zj (-1)] w ov w' c s
  obtain ⟨h1, h2, h3, h4⟩ := h
  subst h1; subst h2; subst h3; subst h4
  exact Zr_ret (ins := .ireturn) rfl rfl

-- HeapwrightLab$Memory.classOf(I)I
set_option maxRecDepth 100000 in
theorem V104_0_2 {sc : List Value} {w w' : List zE} {ov : Option Value} {c s : Nat} {a0 : Nat} {x1 : Int} (h : (ov = some (zj (-1)) ∧ w' = w ∧ c = 0 ∧ s = 0)) : Zr sc 104 0 [zp a0, zj x1] [] w ov w' c s := by
  refine rl_ic rfl ?_
  show Zr sc 104 1 [zp a0, zj x1] [zj (-1)] w ov w' c s
  obtain ⟨h1, h2, h3, h4⟩ := h
  subst h1; subst h2; subst h3; subst h4
  exact Zr_ret (ins := .ireturn) rfl rfl

