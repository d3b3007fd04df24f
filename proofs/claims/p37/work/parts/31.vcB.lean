/-! ===== regions: the class ===== -/
-- HeapwrightLab$Blocks.put(IIII)V
set_option maxRecDepth 100000 in
theorem V68_0 {sc : List Value} {w w' : List zE} {ov : Option Value} {c s : Nat} {a0 : Nat} {x1 : Int} {x2 : Int} {x3 : Int} {x4 : Int} (h : ((zrg x1) ∧ ((x1 < 0 → (ov = none ∧ w' = w ∧ c = 0 ∧ s = 0)) ∧ (¬ (x1 < 0) → (∃ f0_3 : Nat, ∃ f1_4 : Nat, ∃ f2_5 : Nat, ∃ f3_6 : Nat, ∃ f4_7 : Int, ∃ f5_8 : Int, w[a0]? = some (zob 0 [zp f0_3, zp f1_4, zp f2_5, zp f3_6, zj f4_7, zj f5_8]) ∧ (∃ l_10 : List Int, w[f2_5]? = some (za l_10) ∧ ((zrg x1 ∧ zrg (l_10.length : Int)) ∧ (((l_10.length : Int) ≤ x1 → (ov = none ∧ w' = w ∧ c = 0 ∧ s = 0)) ∧ (¬ ((l_10.length : Int) ≤ x1) → (∃ r_14 : Int, ∃ w_12 : List zE, Zc sc 7 [zp a0, zj x1] w (some (zj r_14)) w_12 0 0 ∧ ((zrg r_14) ∧ ((r_14 ≠ 0 → (ov = none ∧ w' = w_12 ∧ c = 0 ∧ s = 0)) ∧ (¬ (r_14 ≠ 0) → (∃ f0_17 : Nat, ∃ f1_18 : Nat, ∃ f2_19 : Nat, ∃ f3_20 : Nat, ∃ f4_21 : Int, ∃ f5_22 : Int, w_12[a0]? = some (zob 0 [zp f0_17, zp f1_18, zp f2_19, zp f3_20, zj f4_21, zj f5_22]) ∧ (∃ l_24 : List Int, w_12[f3_20]? = some (za l_24) ∧ ((zrg f4_21 ∧ zrg (l_24.length : Int)) ∧ ((f4_21 < (l_24.length : Int) → Zr sc 68 40 [zp a0, zj x1, zj x2, zj x3, zj x4, zj f4_21] [] w_12 ov w' c s) ∧ (¬ (f4_21 < (l_24.length : Int)) → (ov = none ∧ w' = w_12 ∧ c = 0 ∧ s = 0))))))))))))))))))) : Zr sc 68 0 [zp a0, zj x1, zj x2, zj x3, zj x4, zmk] [] w ov w' c s := by
  refine Zr_st (q := (1, [zp a0, zj x1, zj x2, zj x3, zj x4, zmk], [zj x1])) rfl rfl rfl ?_
  show Zr sc 68 1 [zp a0, zj x1, zj x2, zj x3, zj x4, zmk] [zj x1] w ov w' c s
  obtain ⟨hr_1, h⟩ := h
  refine Zr_b0 (p := x1 < 0) rfl rfl (zcmp_0 (cnd := .lt) hr_1) (fun hp => ?_) (fun hp => ?_)
  · replace h := h.1 hp
    show Zr sc 68 33 [zp a0, zj x1, zj x2, zj x3, zj x4, zmk] [] w ov w' c s
    obtain ⟨h1, h2, h3, h4⟩ := h
    subst h1; subst h2; subst h3; subst h4
    exact Zr_ret (ins := .return_) rfl rfl
  · replace h := h.2 hp
    show Zr sc 68 4 [zp a0, zj x1, zj x2, zj x3, zj x4, zmk] [] w ov w' c s
    refine Zr_st (q := (5, [zp a0, zj x1, zj x2, zj x3, zj x4, zmk], [zj x1])) rfl rfl rfl ?_
    show Zr sc 68 5 [zp a0, zj x1, zj x2, zj x3, zj x4, zmk] [zj x1] w ov w' c s
    refine Zr_st (q := (6, [zp a0, zj x1, zj x2, zj x3, zj x4, zmk], [zp a0, zj x1])) rfl rfl rfl ?_
    show Zr sc 68 6 [zp a0, zj x1, zj x2, zj x3, zj x4, zmk] [zp a0, zj x1] w ov w' c s
    obtain ⟨f0_3, f1_4, f2_5, f3_6, f4_7, f5_8, hw_2, h⟩ := h
    refine rl_gf rfl hw_2 rfl rfl ?_
    show Zr sc 68 9 [zp a0, zj x1, zj x2, zj x3, zj x4, zmk] [zp f2_5, zj x1] w ov w' c s
    obtain ⟨l_10, hw_9, h⟩ := h
    refine rl_al rfl hw_9 ?_
    show Zr sc 68 10 [zp a0, zj x1, zj x2, zj x3, zj x4, zmk] [zj (l_10.length : Int), zj x1] w ov w' c s
    obtain ⟨hr_11, h⟩ := h
    refine Zr_br (p := (l_10.length : Int) ≤ x1) rfl rfl (zcmp_j (cnd := .ge) hr_11.1 hr_11.2) (fun hp => ?_) (fun hp => ?_)
    · replace h := h.1 hp
      show Zr sc 68 33 [zp a0, zj x1, zj x2, zj x3, zj x4, zmk] [] w ov w' c s
      obtain ⟨h1, h2, h3, h4⟩ := h
      subst h1; subst h2; subst h3; subst h4
      exact Zr_ret (ins := .return_) rfl rfl
    · replace h := h.2 hp
      show Zr sc 68 13 [zp a0, zj x1, zj x2, zj x3, zj x4, zmk] [] w ov w' c s
      refine Zr_st (q := (14, [zp a0, zj x1, zj x2, zj x3, zj x4, zmk], [zp a0])) rfl rfl rfl ?_
      show Zr sc 68 14 [zp a0, zj x1, zj x2, zj x3, zj x4, zmk] [zp a0] w ov w' c s
      refine Zr_st (q := (15, [zp a0, zj x1, zj x2, zj x3, zj x4, zmk], [zj x1, zp a0])) rfl rfl rfl ?_
      show Zr sc 68 15 [zp a0, zj x1, zj x2, zj x3, zj x4, zmk] [zj x1, zp a0] w ov w' c s
      obtain ⟨r_14, w_12, hk_13, h⟩ := h
      refine rn_cal0 (ins := .invokevirtual 37) (rest := []) rfl rfl rfl rfl (zinv_v (fs := _) hw_2 rfl rfl rfl rfl) rfl rfl hk_13 ?_
      show Zr sc 68 18 [zp a0, zj x1, zj x2, zj x3, zj x4, zmk] [zj r_14] w_12 ov w' c s
      obtain ⟨hr_15, h⟩ := h
      refine Zr_b0 (p := r_14 ≠ 0) rfl rfl (zcmp_0 (cnd := .ne) hr_15) (fun hp => ?_) (fun hp => ?_)
      · replace h := h.1 hp
        show Zr sc 68 33 [zp a0, zj x1, zj x2, zj x3, zj x4, zmk] [] w_12 ov w' c s
        obtain ⟨h1, h2, h3, h4⟩ := h
        subst h1; subst h2; subst h3; subst h4
        exact Zr_ret (ins := .return_) rfl rfl
      · replace h := h.2 hp
        show Zr sc 68 21 [zp a0, zj x1, zj x2, zj x3, zj x4, zmk] [] w_12 ov w' c s
        refine Zr_st (q := (22, [zp a0, zj x1, zj x2, zj x3, zj x4, zmk], [zp a0])) rfl rfl rfl ?_
        show Zr sc 68 22 [zp a0, zj x1, zj x2, zj x3, zj x4, zmk] [zp a0] w_12 ov w' c s
        obtain ⟨f0_17, f1_18, f2_19, f3_20, f4_21, f5_22, hw_16, h⟩ := h
        refine rl_gf rfl hw_16 rfl rfl ?_
        show Zr sc 68 25 [zp a0, zj x1, zj x2, zj x3, zj x4, zmk] [zj f4_21] w_12 ov w' c s
        refine Zr_st (q := (26, [zp a0, zj x1, zj x2, zj x3, zj x4, zmk], [zp a0, zj f4_21])) rfl rfl rfl ?_
        show Zr sc 68 26 [zp a0, zj x1, zj x2, zj x3, zj x4, zmk] [zp a0, zj f4_21] w_12 ov w' c s
        refine rl_gf rfl hw_16 rfl rfl ?_
        show Zr sc 68 29 [zp a0, zj x1, zj x2, zj x3, zj x4, zmk] [zp f3_20, zj f4_21] w_12 ov w' c s
        obtain ⟨l_24, hw_23, h⟩ := h
        refine rl_al rfl hw_23 ?_
        show Zr sc 68 30 [zp a0, zj x1, zj x2, zj x3, zj x4, zmk] [zj (l_24.length : Int), zj f4_21] w_12 ov w' c s
        obtain ⟨hr_25, h⟩ := h
        refine Zr_br (p := f4_21 < (l_24.length : Int)) rfl rfl (zcmp_j (cnd := .lt) hr_25.1 hr_25.2) (fun hp => ?_) (fun hp => ?_)
        · replace h := h.1 hp
          show Zr sc 68 34 [zp a0, zj x1, zj x2, zj x3, zj x4, zmk] [] w_12 ov w' c s
          refine Zr_st (q := (35, [zp a0, zj x1, zj x2, zj x3, zj x4, zmk], [zp a0])) rfl rfl rfl ?_
          show Zr sc 68 35 [zp a0, zj x1, zj x2, zj x3, zj x4, zmk] [zp a0] w_12 ov w' c s
          refine rl_gf rfl hw_16 rfl rfl ?_
          show Zr sc 68 38 [zp a0, zj x1, zj x2, zj x3, zj x4, zmk] [zj f4_21] w_12 ov w' c s
          refine Zr_st (q := (40, [zp a0, zj x1, zj x2, zj x3, zj x4, zj f4_21], [])) rfl rfl rfl ?_
          show Zr sc 68 40 [zp a0, zj x1, zj x2, zj x3, zj x4, zj f4_21] [] w_12 ov w' c s
          exact h
        · replace h := h.2 hp
          show Zr sc 68 33 [zp a0, zj x1, zj x2, zj x3, zj x4, zmk] [] w_12 ov w' c s
          obtain ⟨h1, h2, h3, h4⟩ := h
          subst h1; subst h2; subst h3; subst h4
          exact Zr_ret (ins := .return_) rfl rfl
set_option maxRecDepth 100000 in
theorem V68_40 {sc : List Value} {w w' : List zE} {ov : Option Value} {c s : Nat} {a0 : Nat} {x1 : Int} {x2 : Int} {x3 : Int} {x4 : Int} {x5 : Int} (h : ((zrg x5) ∧ ((x5 ≤ 0 → (∃ f0_3 : Nat, ∃ f1_4 : Nat, ∃ f2_5 : Nat, ∃ f3_6 : Nat, ∃ f4_7 : Int, ∃ f5_8 : Int, w[a0]? = some (zob 0 [zp f0_3, zp f1_4, zp f2_5, zp f3_6, zj f4_7, zj f5_8]) ∧ (∃ l_11 : List Int, w[f3_6]? = some (za l_11) ∧ ((0 ≤ x5 ∧ x5 < (l_11.length : Int) ∧ x5 ≤ 2147483647) ∧ ((f3_6 ≠ a0) ∧ ((a0 ≠ f0_3) ∧ ((f3_6 ≠ f0_3) ∧ (∃ l_17 : List Int, w[f0_3]? = some (za l_17) ∧ ((0 ≤ x1 ∧ x1 < (l_17.length : Int) ∧ x1 ≤ 2147483647) ∧ ((f0_3 ≠ a0) ∧ ((f0_3 ≠ f1_4) ∧ ((a0 ≠ f1_4) ∧ ((f3_6 ≠ f1_4) ∧ (∃ l_24 : List Int, w[f1_4]? = some (za l_24) ∧ ((0 ≤ x1 ∧ x1 < (l_24.length : Int) ∧ x1 ≤ 2147483647) ∧ ((f1_4 ≠ a0) ∧ ((f1_4 ≠ f2_5) ∧ ((f0_3 ≠ f2_5) ∧ ((a0 ≠ f2_5) ∧ ((f3_6 ≠ f2_5) ∧ (∃ l_32 : List Int, w[f2_5]? = some (za l_32) ∧ ((0 ≤ x1 ∧ x1 < (l_32.length : Int) ∧ x1 ≤ 2147483647) ∧ ((f2_5 ≠ a0) ∧ (ov = none ∧ w' = ((((((w.set f3_6 (za (zsi l_11 x5 x1))).set a0 (zob 0 [zp f0_3, zp f1_4, zp f2_5, zp f3_6, zj (f4_7 + 1), zj f5_8])).set f0_3 (za (zsi l_17 x1 x2))).set f1_4 (za (zsi l_24 x1 x3))).set f2_5 (za (zsi l_32 x1 x4))).set a0 (zob 0 [zp f0_3, zp f1_4, zp f2_5, zp f3_6, zj (f4_7 + 1), zj (f5_8 + x4)])) ∧ c = 0 ∧ s = 0)))))))))))))))))))))))) ∧ (¬ (x5 ≤ 0) → (∃ f0_35 : Nat, ∃ f1_36 : Nat, ∃ f2_37 : Nat, ∃ f3_38 : Nat, ∃ f4_39 : Int, ∃ f5_40 : Int, w[a0]? = some (zob 0 [zp f0_35, zp f1_36, zp f2_37, zp f3_38, zj f4_39, zj f5_40]) ∧ (∃ l_43 : List Int, w[f3_38]? = some (za l_43) ∧ ((0 ≤ (x5 - 1) ∧ (x5 - 1) < (l_43.length : Int) ∧ (x5 - 1) ≤ 2147483647) ∧ (∃ r_46 : Int, ∃ w_44 : List zE, Zc sc 9 [zp a0, zj (zgi l_43 (x5 - 1))] w (some (zj r_46)) w_44 0 0 ∧ ((zrg r_46 ∧ zrg x2) ∧ ((r_46 ≤ x2 → (∃ f0_49 : Nat, ∃ f1_50 : Nat, ∃ f2_51 : Nat, ∃ f3_52 : Nat, ∃ f4_53 : Int, ∃ f5_54 : Int, w_44[a0]? = some (zob 0 [zp f0_49, zp f1_50, zp f2_51, zp f3_52, zj f4_53, zj f5_54]) ∧ (∃ l_57 : List Int, w_44[f3_52]? = some (za l_57) ∧ ((0 ≤ x5 ∧ x5 < (l_57.length : Int) ∧ x5 ≤ 2147483647) ∧ ((f3_52 ≠ a0) ∧ ((a0 ≠ f0_49) ∧ ((f3_52 ≠ f0_49) ∧ (∃ l_63 : List Int, w_44[f0_49]? = some (za l_63) ∧ ((0 ≤ x1 ∧ x1 < (l_63.length : Int) ∧ x1 ≤ 2147483647) ∧ ((f0_49 ≠ a0) ∧ ((f0_49 ≠ f1_50) ∧ ((a0 ≠ f1_50) ∧ ((f3_52 ≠ f1_50) ∧ (∃ l_70 : List Int, w_44[f1_50]? = some (za l_70) ∧ ((0 ≤ x1 ∧ x1 < (l_70.length : Int) ∧ x1 ≤ 2147483647) ∧ ((f1_50 ≠ a0) ∧ ((f1_50 ≠ f2_51) ∧ ((f0_49 ≠ f2_51) ∧ ((a0 ≠ f2_51) ∧ ((f3_52 ≠ f2_51) ∧ (∃ l_78 : List Int, w_44[f2_51]? = some (za l_78) ∧ ((0 ≤ x1 ∧ x1 < (l_78.length : Int) ∧ x1 ≤ 2147483647) ∧ ((f2_51 ≠ a0) ∧ (ov = none ∧ w' = ((((((w_44.set f3_52 (za (zsi l_57 x5 x1))).set a0 (zob 0 [zp f0_49, zp f1_50, zp f2_51, zp f3_52, zj (f4_53 + 1), zj f5_54])).set f0_49 (za (zsi l_63 x1 x2))).set f1_50 (za (zsi l_70 x1 x3))).set f2_51 (za (zsi l_78 x1 x4))).set a0 (zob 0 [zp f0_49, zp f1_50, zp f2_51, zp f3_52, zj (f4_53 + 1), zj (f5_54 + x4)])) ∧ c = 0 ∧ s = 0)))))))))))))))))))))))) ∧ (¬ (r_46 ≤ x2) → (∃ f0_81 : Nat, ∃ f1_82 : Nat, ∃ f2_83 : Nat, ∃ f3_84 : Nat, ∃ f4_85 : Int, ∃ f5_86 : Int, w_44[a0]? = some (zob 0 [zp f0_81, zp f1_82, zp f2_83, zp f3_84, zj f4_85, zj f5_86]) ∧ (∃ l_89 : List Int, w_44[f3_84]? = some (za l_89) ∧ ((0 ≤ (x5 - 1) ∧ (x5 - 1) < (l_89.length : Int) ∧ (x5 - 1) ≤ 2147483647) ∧ ((0 ≤ x5 ∧ x5 < (l_89.length : Int) ∧ x5 ≤ 2147483647) ∧ Zr sc 68 40 [zp a0, zj x1, zj x2, zj x3, zj x4, zj (x5 + (-1))] [] (w_44.set f3_84 (za (zsi l_89 x5 (zgi l_89 (x5 - 1))))) ov w' c s))))))))))))))) : Zr sc 68 40 [zp a0, zj x1, zj x2, zj x3, zj x4, zj x5] [] w ov w' c s := by
  refine Zr_st (q := (42, [zp a0, zj x1, zj x2, zj x3, zj x4, zj x5], [zj x5])) rfl rfl rfl ?_
  show Zr sc 68 42 [zp a0, zj x1, zj x2, zj x3, zj x4, zj x5] [zj x5] w ov w' c s
  obtain ⟨hr_1, h⟩ := h
  refine Zr_b0 (p := x5 ≤ 0) rfl rfl (zcmp_0 (cnd := .le) hr_1) (fun hp => ?_) (fun hp => ?_)
  · replace h := h.1 hp
    show Zr sc 68 84 [zp a0, zj x1, zj x2, zj x3, zj x4, zj x5] [] w ov w' c s
    refine Zr_st (q := (85, [zp a0, zj x1, zj x2, zj x3, zj x4, zj x5], [zp a0])) rfl rfl rfl ?_
    show Zr sc 68 85 [zp a0, zj x1, zj x2, zj x3, zj x4, zj x5] [zp a0] w ov w' c s
    obtain ⟨f0_3, f1_4, f2_5, f3_6, f4_7, f5_8, hw_2, h⟩ := h
    refine rl_gf rfl hw_2 rfl rfl ?_
    show Zr sc 68 88 [zp a0, zj x1, zj x2, zj x3, zj x4, zj x5] [zp f3_6] w ov w' c s
    refine Zr_st (q := (90, [zp a0, zj x1, zj x2, zj x3, zj x4, zj x5], [zj x5, zp f3_6])) rfl rfl rfl ?_
    show Zr sc 68 90 [zp a0, zj x1, zj x2, zj x3, zj x4, zj x5] [zj x5, zp f3_6] w ov w' c s
    refine Zr_st (q := (91, [zp a0, zj x1, zj x2, zj x3, zj x4, zj x5], [zj x1, zj x5, zp f3_6])) rfl rfl rfl ?_
    show Zr sc 68 91 [zp a0, zj x1, zj x2, zj x3, zj x4, zj x5] [zj x1, zj x5, zp f3_6] w ov w' c s
    obtain ⟨l_11, hw_10, h⟩ := h
    obtain ⟨hi_9, h⟩ := h
    refine rl_is rfl hw_10 hi_9.1 hi_9.2.1 hi_9.2.2 ?_
    show Zr sc 68 92 [zp a0, zj x1, zj x2, zj x3, zj x4, zj x5] [] (w.set f3_6 (za (zsi l_11 x5 x1))) ov w' c s
    refine Zr_st (q := (93, [zp a0, zj x1, zj x2, zj x3, zj x4, zj x5], [zp a0])) rfl rfl rfl ?_
    show Zr sc 68 93 [zp a0, zj x1, zj x2, zj x3, zj x4, zj x5] [zp a0] (w.set f3_6 (za (zsi l_11 x5 x1))) ov w' c s
    refine Zr_st (q := (94, [zp a0, zj x1, zj x2, zj x3, zj x4, zj x5], [zp a0, zp a0])) rfl rfl rfl ?_
    show Zr sc 68 94 [zp a0, zj x1, zj x2, zj x3, zj x4, zj x5] [zp a0, zp a0] (w.set f3_6 (za (zsi l_11 x5 x1))) ov w' c s
    obtain ⟨hn_12, h⟩ := h
    refine rl_gf rfl (zw_o hn_12 hw_2) rfl rfl ?_
    show Zr sc 68 97 [zp a0, zj x1, zj x2, zj x3, zj x4, zj x5] [zj f4_7, zp a0] (w.set f3_6 (za (zsi l_11 x5 x1))) ov w' c s
    refine rl_ic rfl ?_
    show Zr sc 68 98 [zp a0, zj x1, zj x2, zj x3, zj x4, zj x5] [zj 1, zj f4_7, zp a0] (w.set f3_6 (za (zsi l_11 x5 x1))) ov w' c s
    refine rl_add rfl ?_
    show Zr sc 68 99 [zp a0, zj x1, zj x2, zj x3, zj x4, zj x5] [zj (f4_7 + 1), zp a0] (w.set f3_6 (za (zsi l_11 x5 x1))) ov w' c s
    refine rl_pf rfl (zw_o hn_12 hw_2) rfl rfl rfl ?_
    show Zr sc 68 102 [zp a0, zj x1, zj x2, zj x3, zj x4, zj x5] [] ((w.set f3_6 (za (zsi l_11 x5 x1))).set a0 (zob 0 [zp f0_3, zp f1_4, zp f2_5, zp f3_6, zj (f4_7 + 1), zj f5_8])) ov w' c s
    refine Zr_st (q := (103, [zp a0, zj x1, zj x2, zj x3, zj x4, zj x5], [zp a0])) rfl rfl rfl ?_
    show Zr sc 68 103 [zp a0, zj x1, zj x2, zj x3, zj x4, zj x5] [zp a0] ((w.set f3_6 (za (zsi l_11 x5 x1))).set a0 (zob 0 [zp f0_3, zp f1_4, zp f2_5, zp f3_6, zj (f4_7 + 1), zj f5_8])) ov w' c s
    refine rl_gf rfl (zw_s (zw_o hn_12 hw_2)) rfl rfl ?_
    show Zr sc 68 106 [zp a0, zj x1, zj x2, zj x3, zj x4, zj x5] [zp f0_3] ((w.set f3_6 (za (zsi l_11 x5 x1))).set a0 (zob 0 [zp f0_3, zp f1_4, zp f2_5, zp f3_6, zj (f4_7 + 1), zj f5_8])) ov w' c s
    refine Zr_st (q := (107, [zp a0, zj x1, zj x2, zj x3, zj x4, zj x5], [zj x1, zp f0_3])) rfl rfl rfl ?_
    show Zr sc 68 107 [zp a0, zj x1, zj x2, zj x3, zj x4, zj x5] [zj x1, zp f0_3] ((w.set f3_6 (za (zsi l_11 x5 x1))).set a0 (zob 0 [zp f0_3, zp f1_4, zp f2_5, zp f3_6, zj (f4_7 + 1), zj f5_8])) ov w' c s
    refine Zr_st (q := (108, [zp a0, zj x1, zj x2, zj x3, zj x4, zj x5], [zj x2, zj x1, zp f0_3])) rfl rfl rfl ?_
    show Zr sc 68 108 [zp a0, zj x1, zj x2, zj x3, zj x4, zj x5] [zj x2, zj x1, zp f0_3] ((w.set f3_6 (za (zsi l_11 x5 x1))).set a0 (zob 0 [zp f0_3, zp f1_4, zp f2_5, zp f3_6, zj (f4_7 + 1), zj f5_8])) ov w' c s
    obtain ⟨hn_14, h⟩ := h
    obtain ⟨hn_15, h⟩ := h
    obtain ⟨l_17, hw_16, h⟩ := h
    obtain ⟨hi_13, h⟩ := h
    refine rl_is rfl (zw_o hn_14 (zw_o hn_15 hw_16)) hi_13.1 hi_13.2.1 hi_13.2.2 ?_
    show Zr sc 68 109 [zp a0, zj x1, zj x2, zj x3, zj x4, zj x5] [] (((w.set f3_6 (za (zsi l_11 x5 x1))).set a0 (zob 0 [zp f0_3, zp f1_4, zp f2_5, zp f3_6, zj (f4_7 + 1), zj f5_8])).set f0_3 (za (zsi l_17 x1 x2))) ov w' c s
    refine Zr_st (q := (110, [zp a0, zj x1, zj x2, zj x3, zj x4, zj x5], [zp a0])) rfl rfl rfl ?_
    show Zr sc 68 110 [zp a0, zj x1, zj x2, zj x3, zj x4, zj x5] [zp a0] (((w.set f3_6 (za (zsi l_11 x5 x1))).set a0 (zob 0 [zp f0_3, zp f1_4, zp f2_5, zp f3_6, zj (f4_7 + 1), zj f5_8])).set f0_3 (za (zsi l_17 x1 x2))) ov w' c s
    obtain ⟨hn_18, h⟩ := h
    refine rl_gf rfl (zw_o hn_18 (zw_s (zw_o hn_12 hw_2))) rfl rfl ?_
    show Zr sc 68 113 [zp a0, zj x1, zj x2, zj x3, zj x4, zj x5] [zp f1_4] (((w.set f3_6 (za (zsi l_11 x5 x1))).set a0 (zob 0 [zp f0_3, zp f1_4, zp f2_5, zp f3_6, zj (f4_7 + 1), zj f5_8])).set f0_3 (za (zsi l_17 x1 x2))) ov w' c s
    refine Zr_st (q := (114, [zp a0, zj x1, zj x2, zj x3, zj x4, zj x5], [zj x1, zp f1_4])) rfl rfl rfl ?_
    show Zr sc 68 114 [zp a0, zj x1, zj x2, zj x3, zj x4, zj x5] [zj x1, zp f1_4] (((w.set f3_6 (za (zsi l_11 x5 x1))).set a0 (zob 0 [zp f0_3, zp f1_4, zp f2_5, zp f3_6, zj (f4_7 + 1), zj f5_8])).set f0_3 (za (zsi l_17 x1 x2))) ov w' c s
    refine Zr_st (q := (115, [zp a0, zj x1, zj x2, zj x3, zj x4, zj x5], [zj x3, zj x1, zp f1_4])) rfl rfl rfl ?_
    show Zr sc 68 115 [zp a0, zj x1, zj x2, zj x3, zj x4, zj x5] [zj x3, zj x1, zp f1_4] (((w.set f3_6 (za (zsi l_11 x5 x1))).set a0 (zob 0 [zp f0_3, zp f1_4, zp f2_5, zp f3_6, zj (f4_7 + 1), zj f5_8])).set f0_3 (za (zsi l_17 x1 x2))) ov w' c s
    obtain ⟨hn_20, h⟩ := h
    obtain ⟨hn_21, h⟩ := h
    obtain ⟨hn_22, h⟩ := h
    obtain ⟨l_24, hw_23, h⟩ := h
    obtain ⟨hi_19, h⟩ := h
    refine rl_is rfl (zw_o hn_20 (zw_o hn_21 (zw_o hn_22 hw_23))) hi_19.1 hi_19.2.1 hi_19.2.2 ?_
    show Zr sc 68 116 [zp a0, zj x1, zj x2, zj x3, zj x4, zj x5] [] ((((w.set f3_6 (za (zsi l_11 x5 x1))).set a0 (zob 0 [zp f0_3, zp f1_4, zp f2_5, zp f3_6, zj (f4_7 + 1), zj f5_8])).set f0_3 (za (zsi l_17 x1 x2))).set f1_4 (za (zsi l_24 x1 x3))) ov w' c s
    refine Zr_st (q := (117, [zp a0, zj x1, zj x2, zj x3, zj x4, zj x5], [zp a0])) rfl rfl rfl ?_
    show Zr sc 68 117 [zp a0, zj x1, zj x2, zj x3, zj x4, zj x5] [zp a0] ((((w.set f3_6 (za (zsi l_11 x5 x1))).set a0 (zob 0 [zp f0_3, zp f1_4, zp f2_5, zp f3_6, zj (f4_7 + 1), zj f5_8])).set f0_3 (za (zsi l_17 x1 x2))).set f1_4 (za (zsi l_24 x1 x3))) ov w' c s
    obtain ⟨hn_25, h⟩ := h
    refine rl_gf rfl (zw_o hn_25 (zw_o hn_18 (zw_s (zw_o hn_12 hw_2)))) rfl rfl ?_
    show Zr sc 68 120 [zp a0, zj x1, zj x2, zj x3, zj x4, zj x5] [zp f2_5] ((((w.set f3_6 (za (zsi l_11 x5 x1))).set a0 (zob 0 [zp f0_3, zp f1_4, zp f2_5, zp f3_6, zj (f4_7 + 1), zj f5_8])).set f0_3 (za (zsi l_17 x1 x2))).set f1_4 (za (zsi l_24 x1 x3))) ov w' c s
    refine Zr_st (q := (121, [zp a0, zj x1, zj x2, zj x3, zj x4, zj x5], [zj x1, zp f2_5])) rfl rfl rfl ?_
    show Zr sc 68 121 [zp a0, zj x1, zj x2, zj x3, zj x4, zj x5] [zj x1, zp f2_5] ((((w.set f3_6 (za (zsi l_11 x5 x1))).set a0 (zob 0 [zp f0_3, zp f1_4, zp f2_5, zp f3_6, zj (f4_7 + 1), zj f5_8])).set f0_3 (za (zsi l_17 x1 x2))).set f1_4 (za (zsi l_24 x1 x3))) ov w' c s
    refine Zr_st (q := (123, [zp a0, zj x1, zj x2, zj x3, zj x4, zj x5], [zj x4, zj x1, zp f2_5])) rfl rfl rfl ?_
    show Zr sc 68 123 [zp a0, zj x1, zj x2, zj x3, zj x4, zj x5] [zj x4, zj x1, zp f2_5] ((((w.set f3_6 (za (zsi l_11 x5 x1))).set a0 (zob 0 [zp f0_3, zp f1_4, zp f2_5, zp f3_6, zj (f4_7 + 1), zj f5_8])).set f0_3 (za (zsi l_17 x1 x2))).set f1_4 (za (zsi l_24 x1 x3))) ov w' c s
    obtain ⟨hn_27, h⟩ := h
    obtain ⟨hn_28, h⟩ := h
    obtain ⟨hn_29, h⟩ := h
    obtain ⟨hn_30, h⟩ := h
    obtain ⟨l_32, hw_31, h⟩ := h
    obtain ⟨hi_26, h⟩ := h
    refine rl_is rfl (zw_o hn_27 (zw_o hn_28 (zw_o hn_29 (zw_o hn_30 hw_31)))) hi_26.1 hi_26.2.1 hi_26.2.2 ?_
    show Zr sc 68 124 [zp a0, zj x1, zj x2, zj x3, zj x4, zj x5] [] (((((w.set f3_6 (za (zsi l_11 x5 x1))).set a0 (zob 0 [zp f0_3, zp f1_4, zp f2_5, zp f3_6, zj (f4_7 + 1), zj f5_8])).set f0_3 (za (zsi l_17 x1 x2))).set f1_4 (za (zsi l_24 x1 x3))).set f2_5 (za (zsi l_32 x1 x4))) ov w' c s
    refine Zr_st (q := (125, [zp a0, zj x1, zj x2, zj x3, zj x4, zj x5], [zp a0])) rfl rfl rfl ?_
    show Zr sc 68 125 [zp a0, zj x1, zj x2, zj x3, zj x4, zj x5] [zp a0] (((((w.set f3_6 (za (zsi l_11 x5 x1))).set a0 (zob 0 [zp f0_3, zp f1_4, zp f2_5, zp f3_6, zj (f4_7 + 1), zj f5_8])).set f0_3 (za (zsi l_17 x1 x2))).set f1_4 (za (zsi l_24 x1 x3))).set f2_5 (za (zsi l_32 x1 x4))) ov w' c s
    refine Zr_st (q := (126, [zp a0, zj x1, zj x2, zj x3, zj x4, zj x5], [zp a0, zp a0])) rfl rfl rfl ?_
    show Zr sc 68 126 [zp a0, zj x1, zj x2, zj x3, zj x4, zj x5] [zp a0, zp a0] (((((w.set f3_6 (za (zsi l_11 x5 x1))).set a0 (zob 0 [zp f0_3, zp f1_4, zp f2_5, zp f3_6, zj (f4_7 + 1), zj f5_8])).set f0_3 (za (zsi l_17 x1 x2))).set f1_4 (za (zsi l_24 x1 x3))).set f2_5 (za (zsi l_32 x1 x4))) ov w' c s
    obtain ⟨hn_33, h⟩ := h
    refine rl_gf rfl (zw_o hn_33 (zw_o hn_25 (zw_o hn_18 (zw_s (zw_o hn_12 hw_2))))) rfl rfl ?_
    show Zr sc 68 129 [zp a0, zj x1, zj x2, zj x3, zj x4, zj x5] [zj f5_8, zp a0] (((((w.set f3_6 (za (zsi l_11 x5 x1))).set a0 (zob 0 [zp f0_3, zp f1_4, zp f2_5, zp f3_6, zj (f4_7 + 1), zj f5_8])).set f0_3 (za (zsi l_17 x1 x2))).set f1_4 (za (zsi l_24 x1 x3))).set f2_5 (za (zsi l_32 x1 x4))) ov w' c s
    refine Zr_st (q := (131, [zp a0, zj x1, zj x2, zj x3, zj x4, zj x5], [zj x4, zj f5_8, zp a0])) rfl rfl rfl ?_
    show Zr sc 68 131 [zp a0, zj x1, zj x2, zj x3, zj x4, zj x5] [zj x4, zj f5_8, zp a0] (((((w.set f3_6 (za (zsi l_11 x5 x1))).set a0 (zob 0 [zp f0_3, zp f1_4, zp f2_5, zp f3_6, zj (f4_7 + 1), zj f5_8])).set f0_3 (za (zsi l_17 x1 x2))).set f1_4 (za (zsi l_24 x1 x3))).set f2_5 (za (zsi l_32 x1 x4))) ov w' c s
    refine rl_add rfl ?_
    show Zr sc 68 132 [zp a0, zj x1, zj x2, zj x3, zj x4, zj x5] [zj (f5_8 + x4), zp a0] (((((w.set f3_6 (za (zsi l_11 x5 x1))).set a0 (zob 0 [zp f0_3, zp f1_4, zp f2_5, zp f3_6, zj (f4_7 + 1), zj f5_8])).set f0_3 (za (zsi l_17 x1 x2))).set f1_4 (za (zsi l_24 x1 x3))).set f2_5 (za (zsi l_32 x1 x4))) ov w' c s
    refine rl_pf rfl (zw_o hn_33 (zw_o hn_25 (zw_o hn_18 (zw_s (zw_o hn_12 hw_2))))) rfl rfl rfl ?_
    show Zr sc 68 135 [zp a0, zj x1, zj x2, zj x3, zj x4, zj x5] [] ((((((w.set f3_6 (za (zsi l_11 x5 x1))).set a0 (zob 0 [zp f0_3, zp f1_4, zp f2_5, zp f3_6, zj (f4_7 + 1), zj f5_8])).set f0_3 (za (zsi l_17 x1 x2))).set f1_4 (za (zsi l_24 x1 x3))).set f2_5 (za (zsi l_32 x1 x4))).set a0 (zob 0 [zp f0_3, zp f1_4, zp f2_5, zp f3_6, zj (f4_7 + 1), zj (f5_8 + x4)])) ov w' c s
    obtain ⟨h1, h2, h3, h4⟩ := h
    subst h1; subst h2; subst h3; subst h4
    exact Zr_ret (ins := .return_) rfl rfl
  · replace h := h.2 hp
    show Zr sc 68 45 [zp a0, zj x1, zj x2, zj x3, zj x4, zj x5] [] w ov w' c s
    refine Zr_st (q := (46, [zp a0, zj x1, zj x2, zj x3, zj x4, zj x5], [zp a0])) rfl rfl rfl ?_
    show Zr sc 68 46 [zp a0, zj x1, zj x2, zj x3, zj x4, zj x5] [zp a0] w ov w' c s
    refine Zr_st (q := (47, [zp a0, zj x1, zj x2, zj x3, zj x4, zj x5], [zp a0, zp a0])) rfl rfl rfl ?_
    show Zr sc 68 47 [zp a0, zj x1, zj x2, zj x3, zj x4, zj x5] [zp a0, zp a0] w ov w' c s
    obtain ⟨f0_35, f1_36, f2_37, f3_38, f4_39, f5_40, hw_34, h⟩ := h
    refine rl_gf rfl hw_34 rfl rfl ?_
    show Zr sc 68 50 [zp a0, zj x1, zj x2, zj x3, zj x4, zj x5] [zp f3_38, zp a0] w ov w' c s
    refine Zr_st (q := (52, [zp a0, zj x1, zj x2, zj x3, zj x4, zj x5], [zj x5, zp f3_38, zp a0])) rfl rfl rfl ?_
    show Zr sc 68 52 [zp a0, zj x1, zj x2, zj x3, zj x4, zj x5] [zj x5, zp f3_38, zp a0] w ov w' c s
    refine rl_ic rfl ?_
    show Zr sc 68 53 [zp a0, zj x1, zj x2, zj x3, zj x4, zj x5] [zj 1, zj x5, zp f3_38, zp a0] w ov w' c s
    refine rl_sub rfl ?_
    show Zr sc 68 54 [zp a0, zj x1, zj x2, zj x3, zj x4, zj x5] [zj (x5 - 1), zp f3_38, zp a0] w ov w' c s
    obtain ⟨l_43, hw_42, h⟩ := h
    obtain ⟨hi_41, h⟩ := h
    refine rl_ia rfl hw_42 hi_41.1 hi_41.2.1 hi_41.2.2 ?_
    show Zr sc 68 55 [zp a0, zj x1, zj x2, zj x3, zj x4, zj x5] [zj (zgi l_43 (x5 - 1)), zp a0] w ov w' c s
    obtain ⟨r_46, w_44, hk_45, h⟩ := h
    refine rn_cal0 (ins := .invokevirtual 45) (rest := []) rfl rfl rfl rfl (zinv_v (fs := _) hw_34 rfl rfl rfl rfl) rfl rfl hk_45 ?_
    show Zr sc 68 58 [zp a0, zj x1, zj x2, zj x3, zj x4, zj x5] [zj r_46] w_44 ov w' c s
    refine Zr_st (q := (59, [zp a0, zj x1, zj x2, zj x3, zj x4, zj x5], [zj x2, zj r_46])) rfl rfl rfl ?_
    show Zr sc 68 59 [zp a0, zj x1, zj x2, zj x3, zj x4, zj x5] [zj x2, zj r_46] w_44 ov w' c s
    obtain ⟨hr_47, h⟩ := h
    refine Zr_br (p := r_46 ≤ x2) rfl rfl (zcmp_j (cnd := .le) hr_47.1 hr_47.2) (fun hp => ?_) (fun hp => ?_)
    · replace h := h.1 hp
      show Zr sc 68 84 [zp a0, zj x1, zj x2, zj x3, zj x4, zj x5] [] w_44 ov w' c s
      refine Zr_st (q := (85, [zp a0, zj x1, zj x2, zj x3, zj x4, zj x5], [zp a0])) rfl rfl rfl ?_
      show Zr sc 68 85 [zp a0, zj x1, zj x2, zj x3, zj x4, zj x5] [zp a0] w_44 ov w' c s
      obtain ⟨f0_49, f1_50, f2_51, f3_52, f4_53, f5_54, hw_48, h⟩ := h
      refine rl_gf rfl hw_48 rfl rfl ?_
      show Zr sc 68 88 [zp a0, zj x1, zj x2, zj x3, zj x4, zj x5] [zp f3_52] w_44 ov w' c s
      refine Zr_st (q := (90, [zp a0, zj x1, zj x2, zj x3, zj x4, zj x5], [zj x5, zp f3_52])) rfl rfl rfl ?_
      show Zr sc 68 90 [zp a0, zj x1, zj x2, zj x3, zj x4, zj x5] [zj x5, zp f3_52] w_44 ov w' c s
      refine Zr_st (q := (91, [zp a0, zj x1, zj x2, zj x3, zj x4, zj x5], [zj x1, zj x5, zp f3_52])) rfl rfl rfl ?_
      show Zr sc 68 91 [zp a0, zj x1, zj x2, zj x3, zj x4, zj x5] [zj x1, zj x5, zp f3_52] w_44 ov w' c s
      obtain ⟨l_57, hw_56, h⟩ := h
      obtain ⟨hi_55, h⟩ := h
      refine rl_is rfl hw_56 hi_55.1 hi_55.2.1 hi_55.2.2 ?_
      show Zr sc 68 92 [zp a0, zj x1, zj x2, zj x3, zj x4, zj x5] [] (w_44.set f3_52 (za (zsi l_57 x5 x1))) ov w' c s
      refine Zr_st (q := (93, [zp a0, zj x1, zj x2, zj x3, zj x4, zj x5], [zp a0])) rfl rfl rfl ?_
      show Zr sc 68 93 [zp a0, zj x1, zj x2, zj x3, zj x4, zj x5] [zp a0] (w_44.set f3_52 (za (zsi l_57 x5 x1))) ov w' c s
      refine Zr_st (q := (94, [zp a0, zj x1, zj x2, zj x3, zj x4, zj x5], [zp a0, zp a0])) rfl rfl rfl ?_
      show Zr sc 68 94 [zp a0, zj x1, zj x2, zj x3, zj x4, zj x5] [zp a0, zp a0] (w_44.set f3_52 (za (zsi l_57 x5 x1))) ov w' c s
      obtain ⟨hn_58, h⟩ := h
      refine rl_gf rfl (zw_o hn_58 hw_48) rfl rfl ?_
      show Zr sc 68 97 [zp a0, zj x1, zj x2, zj x3, zj x4, zj x5] [zj f4_53, zp a0] (w_44.set f3_52 (za (zsi l_57 x5 x1))) ov w' c s
      refine rl_ic rfl ?_
      show Zr sc 68 98 [zp a0, zj x1, zj x2, zj x3, zj x4, zj x5] [zj 1, zj f4_53, zp a0] (w_44.set f3_52 (za (zsi l_57 x5 x1))) ov w' c s
      refine rl_add rfl ?_
      show Zr sc 68 99 [zp a0, zj x1, zj x2, zj x3, zj x4, zj x5] [zj (f4_53 + 1), zp a0] (w_44.set f3_52 (za (zsi l_57 x5 x1))) ov w' c s
      refine rl_pf rfl (zw_o hn_58 hw_48) rfl rfl rfl ?_
      show Zr sc 68 102 [zp a0, zj x1, zj x2, zj x3, zj x4, zj x5] [] ((w_44.set f3_52 (za (zsi l_57 x5 x1))).set a0 (zob 0 [zp f0_49, zp f1_50, zp f2_51, zp f3_52, zj (f4_53 + 1), zj f5_54])) ov w' c s
      refine Zr_st (q := (103, [zp a0, zj x1, zj x2, zj x3, zj x4, zj x5], [zp a0])) rfl rfl rfl ?_
      show Zr sc 68 103 [zp a0, zj x1, zj x2, zj x3, zj x4, zj x5] [zp a0] ((w_44.set f3_52 (za (zsi l_57 x5 x1))).set a0 (zob 0 [zp f0_49, zp f1_50, zp f2_51, zp f3_52, zj (f4_53 + 1), zj f5_54])) ov w' c s
      refine rl_gf rfl (zw_s (zw_o hn_58 hw_48)) rfl rfl ?_
      show Zr sc 68 106 [zp a0, zj x1, zj x2, zj x3, zj x4, zj x5] [zp f0_49] ((w_44.set f3_52 (za (zsi l_57 x5 x1))).set a0 (zob 0 [zp f0_49, zp f1_50, zp f2_51, zp f3_52, zj (f4_53 + 1), zj f5_54])) ov w' c s
      refine Zr_st (q := (107, [zp a0, zj x1, zj x2, zj x3, zj x4, zj x5], [zj x1, zp f0_49])) rfl rfl rfl ?_
      show Zr sc 68 107 [zp a0, zj x1, zj x2, zj x3, zj x4, zj x5] [zj x1, zp f0_49] ((w_44.set f3_52 (za (zsi l_57 x5 x1))).set a0 (zob 0 [zp f0_49, zp f1_50, zp f2_51, zp f3_52, zj (f4_53 + 1), zj f5_54])) ov w' c s
      refine Zr_st (q := (108, [zp a0, zj x1, zj x2, zj x3, zj x4, zj x5], [zj x2, zj x1, zp f0_49])) rfl rfl rfl ?_
      show Zr sc 68 108 [zp a0, zj x1, zj x2, zj x3, zj x4, zj x5] [zj x2, zj x1, zp f0_49] ((w_44.set f3_52 (za (zsi l_57 x5 x1))).set a0 (zob 0 [zp f0_49, zp f1_50, zp f2_51, zp f3_52, zj (f4_53 + 1), zj f5_54])) ov w' c s
      obtain ⟨hn_60, h⟩ := h
      obtain ⟨hn_61, h⟩ := h
      obtain ⟨l_63, hw_62, h⟩ := h
      obtain ⟨hi_59, h⟩ := h
      refine rl_is rfl (zw_o hn_60 (zw_o hn_61 hw_62)) hi_59.1 hi_59.2.1 hi_59.2.2 ?_
      show Zr sc 68 109 [zp a0, zj x1, zj x2, zj x3, zj x4, zj x5] [] (((w_44.set f3_52 (za (zsi l_57 x5 x1))).set a0 (zob 0 [zp f0_49, zp f1_50, zp f2_51, zp f3_52, zj (f4_53 + 1), zj f5_54])).set f0_49 (za (zsi l_63 x1 x2))) ov w' c s
      refine Zr_st (q := (110, [zp a0, zj x1, zj x2, zj x3, zj x4, zj x5], [zp a0])) rfl rfl rfl ?_
      show Zr sc 68 110 [zp a0, zj x1, zj x2, zj x3, zj x4, zj x5] [zp a0] (((w_44.set f3_52 (za (zsi l_57 x5 x1))).set a0 (zob 0 [zp f0_49, zp f1_50, zp f2_51, zp f3_52, zj (f4_53 + 1), zj f5_54])).set f0_49 (za (zsi l_63 x1 x2))) ov w' c s
      obtain ⟨hn_64, h⟩ := h
      refine rl_gf rfl (zw_o hn_64 (zw_s (zw_o hn_58 hw_48))) rfl rfl ?_
      show Zr sc 68 113 [zp a0, zj x1, zj x2, zj x3, zj x4, zj x5] [zp f1_50] (((w_44.set f3_52 (za (zsi l_57 x5 x1))).set a0 (zob 0 [zp f0_49, zp f1_50, zp f2_51, zp f3_52, zj (f4_53 + 1), zj f5_54])).set f0_49 (za (zsi l_63 x1 x2))) ov w' c s
      refine Zr_st (q := (114, [zp a0, zj x1, zj x2, zj x3, zj x4, zj x5], [zj x1, zp f1_50])) rfl rfl rfl ?_
      show Zr sc 68 114 [zp a0, zj x1, zj x2, zj x3, zj x4, zj x5] [zj x1, zp f1_50] (((w_44.set f3_52 (za (zsi l_57 x5 x1))).set a0 (zob 0 [zp f0_49, zp f1_50, zp f2_51, zp f3_52, zj (f4_53 + 1), zj f5_54])).set f0_49 (za (zsi l_63 x1 x2))) ov w' c s
      refine Zr_st (q := (115, [zp a0, zj x1, zj x2, zj x3, zj x4, zj x5], [zj x3, zj x1, zp f1_50])) rfl rfl rfl ?_
      show Zr sc 68 115 [zp a0, zj x1, zj x2, zj x3, zj x4, zj x5] [zj x3, zj x1, zp f1_50] (((w_44.set f3_52 (za (zsi l_57 x5 x1))).set a0 (zob 0 [zp f0_49, zp f1_50, zp f2_51, zp f3_52, zj (f4_53 + 1), zj f5_54])).set f0_49 (za (zsi l_63 x1 x2))) ov w' c s
      obtain ⟨hn_66, h⟩ := h
      obtain ⟨hn_67, h⟩ := h
      obtain ⟨hn_68, h⟩ := h
      obtain ⟨l_70, hw_69, h⟩ := h
      obtain ⟨hi_65, h⟩ := h
      refine rl_is rfl (zw_o hn_66 (zw_o hn_67 (zw_o hn_68 hw_69))) hi_65.1 hi_65.2.1 hi_65.2.2 ?_
      show Zr sc 68 116 [zp a0, zj x1, zj x2, zj x3, zj x4, zj x5] [] ((((w_44.set f3_52 (za (zsi l_57 x5 x1))).set a0 (zob 0 [zp f0_49, zp f1_50, zp f2_51, zp f3_52, zj (f4_53 + 1), zj f5_54])).set f0_49 (za (zsi l_63 x1 x2))).set f1_50 (za (zsi l_70 x1 x3))) ov w' c s
      refine Zr_st (q := (117, [zp a0, zj x1, zj x2, zj x3, zj x4, zj x5], [zp a0])) rfl rfl rfl ?_
      show Zr sc 68 117 [zp a0, zj x1, zj x2, zj x3, zj x4, zj x5] [zp a0] ((((w_44.set f3_52 (za (zsi l_57 x5 x1))).set a0 (zob 0 [zp f0_49, zp f1_50, zp f2_51, zp f3_52, zj (f4_53 + 1), zj f5_54])).set f0_49 (za (zsi l_63 x1 x2))).set f1_50 (za (zsi l_70 x1 x3))) ov w' c s
      obtain ⟨hn_71, h⟩ := h
      refine rl_gf rfl (zw_o hn_71 (zw_o hn_64 (zw_s (zw_o hn_58 hw_48)))) rfl rfl ?_
      show Zr sc 68 120 [zp a0, zj x1, zj x2, zj x3, zj x4, zj x5] [zp f2_51] ((((w_44.set f3_52 (za (zsi l_57 x5 x1))).set a0 (zob 0 [zp f0_49, zp f1_50, zp f2_51, zp f3_52, zj (f4_53 + 1), zj f5_54])).set f0_49 (za (zsi l_63 x1 x2))).set f1_50 (za (zsi l_70 x1 x3))) ov w' c s
      refine Zr_st (q := (121, [zp a0, zj x1, zj x2, zj x3, zj x4, zj x5], [zj x1, zp f2_51])) rfl rfl rfl ?_
      show Zr sc 68 121 [zp a0, zj x1, zj x2, zj x3, zj x4, zj x5] [zj x1, zp f2_51] ((((w_44.set f3_52 (za (zsi l_57 x5 x1))).set a0 (zob 0 [zp f0_49, zp f1_50, zp f2_51, zp f3_52, zj (f4_53 + 1), zj f5_54])).set f0_49 (za (zsi l_63 x1 x2))).set f1_50 (za (zsi l_70 x1 x3))) ov w' c s
      refine Zr_st (q := (123, [zp a0, zj x1, zj x2, zj x3, zj x4, zj x5], [zj x4, zj x1, zp f2_51])) rfl rfl rfl ?_
      show Zr sc 68 123 [zp a0, zj x1, zj x2, zj x3, zj x4, zj x5] [zj x4, zj x1, zp f2_51] ((((w_44.set f3_52 (za (zsi l_57 x5 x1))).set a0 (zob 0 [zp f0_49, zp f1_50, zp f2_51, zp f3_52, zj (f4_53 + 1), zj f5_54])).set f0_49 (za (zsi l_63 x1 x2))).set f1_50 (za (zsi l_70 x1 x3))) ov w' c s
      obtain ⟨hn_73, h⟩ := h
      obtain ⟨hn_74, h⟩ := h
      obtain ⟨hn_75, h⟩ := h
      obtain ⟨hn_76, h⟩ := h
      obtain ⟨l_78, hw_77, h⟩ := h
      obtain ⟨hi_72, h⟩ := h
      refine rl_is rfl (zw_o hn_73 (zw_o hn_74 (zw_o hn_75 (zw_o hn_76 hw_77)))) hi_72.1 hi_72.2.1 hi_72.2.2 ?_
      show Zr sc 68 124 [zp a0, zj x1, zj x2, zj x3, zj x4, zj x5] [] (((((w_44.set f3_52 (za (zsi l_57 x5 x1))).set a0 (zob 0 [zp f0_49, zp f1_50, zp f2_51, zp f3_52, zj (f4_53 + 1), zj f5_54])).set f0_49 (za (zsi l_63 x1 x2))).set f1_50 (za (zsi l_70 x1 x3))).set f2_51 (za (zsi l_78 x1 x4))) ov w' c s
      refine Zr_st (q := (125, [zp a0, zj x1, zj x2, zj x3, zj x4, zj x5], [zp a0])) rfl rfl rfl ?_
      show Zr sc 68 125 [zp a0, zj x1, zj x2, zj x3, zj x4, zj x5] [zp a0] (((((w_44.set f3_52 (za (zsi l_57 x5 x1))).set a0 (zob 0 [zp f0_49, zp f1_50, zp f2_51, zp f3_52, zj (f4_53 + 1), zj f5_54])).set f0_49 (za (zsi l_63 x1 x2))).set f1_50 (za (zsi l_70 x1 x3))).set f2_51 (za (zsi l_78 x1 x4))) ov w' c s
      refine Zr_st (q := (126, [zp a0, zj x1, zj x2, zj x3, zj x4, zj x5], [zp a0, zp a0])) rfl rfl rfl ?_
      show Zr sc 68 126 [zp a0, zj x1, zj x2, zj x3, zj x4, zj x5] [zp a0, zp a0] (((((w_44.set f3_52 (za (zsi l_57 x5 x1))).set a0 (zob 0 [zp f0_49, zp f1_50, zp f2_51, zp f3_52, zj (f4_53 + 1), zj f5_54])).set f0_49 (za (zsi l_63 x1 x2))).set f1_50 (za (zsi l_70 x1 x3))).set f2_51 (za (zsi l_78 x1 x4))) ov w' c s
      obtain ⟨hn_79, h⟩ := h
      refine rl_gf rfl (zw_o hn_79 (zw_o hn_71 (zw_o hn_64 (zw_s (zw_o hn_58 hw_48))))) rfl rfl ?_
      show Zr sc 68 129 [zp a0, zj x1, zj x2, zj x3, zj x4, zj x5] [zj f5_54, zp a0] (((((w_44.set f3_52 (za (zsi l_57 x5 x1))).set a0 (zob 0 [zp f0_49, zp f1_50, zp f2_51, zp f3_52, zj (f4_53 + 1), zj f5_54])).set f0_49 (za (zsi l_63 x1 x2))).set f1_50 (za (zsi l_70 x1 x3))).set f2_51 (za (zsi l_78 x1 x4))) ov w' c s
      refine Zr_st (q := (131, [zp a0, zj x1, zj x2, zj x3, zj x4, zj x5], [zj x4, zj f5_54, zp a0])) rfl rfl rfl ?_
      show Zr sc 68 131 [zp a0, zj x1, zj x2, zj x3, zj x4, zj x5] [zj x4, zj f5_54, zp a0] (((((w_44.set f3_52 (za (zsi l_57 x5 x1))).set a0 (zob 0 [zp f0_49, zp f1_50, zp f2_51, zp f3_52, zj (f4_53 + 1), zj f5_54])).set f0_49 (za (zsi l_63 x1 x2))).set f1_50 (za (zsi l_70 x1 x3))).set f2_51 (za (zsi l_78 x1 x4))) ov w' c s
      refine rl_add rfl ?_
      show Zr sc 68 132 [zp a0, zj x1, zj x2, zj x3, zj x4, zj x5] [zj (f5_54 + x4), zp a0] (((((w_44.set f3_52 (za (zsi l_57 x5 x1))).set a0 (zob 0 [zp f0_49, zp f1_50, zp f2_51, zp f3_52, zj (f4_53 + 1), zj f5_54])).set f0_49 (za (zsi l_63 x1 x2))).set f1_50 (za (zsi l_70 x1 x3))).set f2_51 (za (zsi l_78 x1 x4))) ov w' c s
      refine rl_pf rfl (zw_o hn_79 (zw_o hn_71 (zw_o hn_64 (zw_s (zw_o hn_58 hw_48))))) rfl rfl rfl ?_
      show Zr sc 68 135 [zp a0, zj x1, zj x2, zj x3, zj x4, zj x5] [] ((((((w_44.set f3_52 (za (zsi l_57 x5 x1))).set a0 (zob 0 [zp f0_49, zp f1_50, zp f2_51, zp f3_52, zj (f4_53 + 1), zj f5_54])).set f0_49 (za (zsi l_63 x1 x2))).set f1_50 (za (zsi l_70 x1 x3))).set f2_51 (za (zsi l_78 x1 x4))).set a0 (zob 0 [zp f0_49, zp f1_50, zp f2_51, zp f3_52, zj (f4_53 + 1), zj (f5_54 + x4)])) ov w' c s
      obtain ⟨h1, h2, h3, h4⟩ := h
      subst h1; subst h2; subst h3; subst h4
      exact Zr_ret (ins := .return_) rfl rfl
    · replace h := h.2 hp
      show Zr sc 68 62 [zp a0, zj x1, zj x2, zj x3, zj x4, zj x5] [] w_44 ov w' c s
      refine Zr_st (q := (63, [zp a0, zj x1, zj x2, zj x3, zj x4, zj x5], [zp a0])) rfl rfl rfl ?_
      show Zr sc 68 63 [zp a0, zj x1, zj x2, zj x3, zj x4, zj x5] [zp a0] w_44 ov w' c s
      obtain ⟨f0_81, f1_82, f2_83, f3_84, f4_85, f5_86, hw_80, h⟩ := h
      refine rl_gf rfl hw_80 rfl rfl ?_
      show Zr sc 68 66 [zp a0, zj x1, zj x2, zj x3, zj x4, zj x5] [zp f3_84] w_44 ov w' c s
      refine Zr_st (q := (68, [zp a0, zj x1, zj x2, zj x3, zj x4, zj x5], [zj x5, zp f3_84])) rfl rfl rfl ?_
      show Zr sc 68 68 [zp a0, zj x1, zj x2, zj x3, zj x4, zj x5] [zj x5, zp f3_84] w_44 ov w' c s
      refine Zr_st (q := (69, [zp a0, zj x1, zj x2, zj x3, zj x4, zj x5], [zp a0, zj x5, zp f3_84])) rfl rfl rfl ?_
      show Zr sc 68 69 [zp a0, zj x1, zj x2, zj x3, zj x4, zj x5] [zp a0, zj x5, zp f3_84] w_44 ov w' c s
      refine rl_gf rfl hw_80 rfl rfl ?_
      show Zr sc 68 72 [zp a0, zj x1, zj x2, zj x3, zj x4, zj x5] [zp f3_84, zj x5, zp f3_84] w_44 ov w' c s
      refine Zr_st (q := (74, [zp a0, zj x1, zj x2, zj x3, zj x4, zj x5], [zj x5, zp f3_84, zj x5, zp f3_84])) rfl rfl rfl ?_
      show Zr sc 68 74 [zp a0, zj x1, zj x2, zj x3, zj x4, zj x5] [zj x5, zp f3_84, zj x5, zp f3_84] w_44 ov w' c s
      refine rl_ic rfl ?_
      show Zr sc 68 75 [zp a0, zj x1, zj x2, zj x3, zj x4, zj x5] [zj 1, zj x5, zp f3_84, zj x5, zp f3_84] w_44 ov w' c s
      refine rl_sub rfl ?_
      show Zr sc 68 76 [zp a0, zj x1, zj x2, zj x3, zj x4, zj x5] [zj (x5 - 1), zp f3_84, zj x5, zp f3_84] w_44 ov w' c s
      obtain ⟨l_89, hw_88, h⟩ := h
      obtain ⟨hi_87, h⟩ := h
      refine rl_ia rfl hw_88 hi_87.1 hi_87.2.1 hi_87.2.2 ?_
      show Zr sc 68 77 [zp a0, zj x1, zj x2, zj x3, zj x4, zj x5] [zj (zgi l_89 (x5 - 1)), zj x5, zp f3_84] w_44 ov w' c s
      obtain ⟨hi_90, h⟩ := h
      refine rl_is rfl hw_88 hi_90.1 hi_90.2.1 hi_90.2.2 ?_
      show Zr sc 68 78 [zp a0, zj x1, zj x2, zj x3, zj x4, zj x5] [] (w_44.set f3_84 (za (zsi l_89 x5 (zgi l_89 (x5 - 1))))) ov w' c s
      refine rl_inc rfl rfl rfl rfl ?_
      show Zr sc 68 81 [zp a0, zj x1, zj x2, zj x3, zj x4, zj (x5 + (-1))] [] (w_44.set f3_84 (za (zsi l_89 x5 (zgi l_89 (x5 - 1))))) ov w' c s
      refine Zr_st (q := (40, [zp a0, zj x1, zj x2, zj x3, zj x4, zj (x5 + (-1))], [])) rfl rfl rfl ?_
      show Zr sc 68 40 [zp a0, zj x1, zj x2, zj x3, zj x4, zj (x5 + (-1))] [] (w_44.set f3_84 (za (zsi l_89 x5 (zgi l_89 (x5 - 1))))) ov w' c s
      exact h

-- HeapwrightLab$Memory.layOut()V
set_option maxRecDepth 100000 in
theorem V69_0_1 {sc : List Value} {w w' : List zE} {ov : Option Value} {c s : Nat} {a0 : Nat} (h : (∃ f0_2 : Nat, ∃ f1_3 : Nat, ∃ f2_4 : Int, ∃ f3_5 : Int, ∃ f4_6 : Int, ∃ f5_7 : Int, ∃ f6_8 : Int, ∃ f7_9 : Nat, ∃ f8_10 : Nat, ∃ f9_11 : Int, ∃ f10_12 : Int, ∃ f11_13 : Int, ∃ f12_14 : Int, w[a0]? = some (zob 1 [zp f0_2, zp f1_3, zj f2_4, zj f3_5, zj f4_6, zj f5_7, zj f6_8, zp f7_9, zp f8_10, zj f9_11, zj f10_12, zj f11_13, zj f12_14]) ∧ (∃ w_15 : List zE, Zc sc 73 [zp a0] w none w_15 0 0 ∧ (∃ f0_18 : Nat, ∃ f1_19 : Nat, ∃ f2_20 : Int, ∃ f3_21 : Int, ∃ f4_22 : Int, ∃ f5_23 : Int, ∃ f6_24 : Int, ∃ f7_25 : Nat, ∃ f8_26 : Nat, ∃ f9_27 : Int, ∃ f10_28 : Int, ∃ f11_29 : Int, ∃ f12_30 : Int, w_15[a0]? = some (zob 1 [zp f0_18, zp f1_19, zj f2_20, zj f3_21, zj f4_22, zj f5_23, zj f6_24, zp f7_25, zp f8_26, zj f9_27, zj f10_28, zj f11_29, zj f12_30]) ∧ (∃ f0_32 : Nat, ∃ f1_33 : Nat, ∃ f2_34 : Int, w_15[f1_19]? = some (zob 3 [zp f0_32, zp f1_33, zj f2_34]) ∧ (∃ w_35 : List zE, Zc sc 74 [zp f1_19] w_15 none w_35 0 0 ∧ Zr sc 69 15 [zp a0, zj 0, zj 0, zmk] [] w_35 ov w' c s)))))) : Zr sc 69 0 [zp a0, zmk, zmk, zmk] [] w ov w' c s := by
  refine Zr_st (q := (1, [zp a0, zmk, zmk, zmk], [zp a0])) rfl rfl rfl ?_
  show Zr sc 69 1 [zp a0, zmk, zmk, zmk] [zp a0] w ov w' c s
  obtain ⟨f0_2, f1_3, f2_4, f3_5, f4_6, f5_7, f6_8, f7_9, f8_10, f9_11, f10_12, f11_13, f12_14, hw_1, h⟩ := h
  obtain ⟨w_15, hk_16, h⟩ := h
  refine rn_cal0 (ins := .invokevirtual 148) (rest := []) rfl rfl rfl rfl (zinv_v (fs := _) hw_1 rfl rfl rfl rfl) rfl rfl hk_16 ?_
  show Zr sc 69 4 [zp a0, zmk, zmk, zmk] [] w_15 ov w' c s
  refine Zr_st (q := (5, [zp a0, zmk, zmk, zmk], [zp a0])) rfl rfl rfl ?_
  show Zr sc 69 5 [zp a0, zmk, zmk, zmk] [zp a0] w_15 ov w' c s
  obtain ⟨f0_18, f1_19, f2_20, f3_21, f4_22, f5_23, f6_24, f7_25, f8_26, f9_27, f10_28, f11_29, f12_30, hw_17, h⟩ := h
  refine rl_gf rfl hw_17 rfl rfl ?_
  show Zr sc 69 8 [zp a0, zmk, zmk, zmk] [zp f1_19] w_15 ov w' c s
  obtain ⟨f0_32, f1_33, f2_34, hw_31, h⟩ := h
  obtain ⟨w_35, hk_36, h⟩ := h
  refine rn_cal0 (ins := .invokevirtual 151) (rest := []) rfl rfl rfl rfl (zinv_v (fs := _) hw_31 rfl rfl rfl rfl) rfl rfl hk_36 ?_
  show Zr sc 69 11 [zp a0, zmk, zmk, zmk] [] w_35 ov w' c s
  refine rl_ic rfl ?_
  show Zr sc 69 12 [zp a0, zmk, zmk, zmk] [zj 0] w_35 ov w' c s
  refine Zr_st (q := (13, [zp a0, zj 0, zmk, zmk], [])) rfl rfl rfl ?_
  show Zr sc 69 13 [zp a0, zj 0, zmk, zmk] [] w_35 ov w' c s
  refine rl_ic rfl ?_
  show Zr sc 69 14 [zp a0, zj 0, zmk, zmk] [zj 0] w_35 ov w' c s
  refine Zr_st (q := (15, [zp a0, zj 0, zj 0, zmk], [])) rfl rfl rfl ?_
  show Zr sc 69 15 [zp a0, zj 0, zj 0, zmk] [] w_35 ov w' c s
  exact h
set_option maxRecDepth 100000 in
theorem V69_15_1 {sc : List Value} {w w' : List zE} {ov : Option Value} {c s : Nat} {a0 : Nat} {x1 : Int} {x2 : Int} {v3 : Value} (h : (∃ f0_2 : Nat, ∃ f1_3 : Nat, ∃ f2_4 : Int, ∃ f3_5 : Int, ∃ f4_6 : Int, ∃ f5_7 : Int, ∃ f6_8 : Int, ∃ f7_9 : Nat, ∃ f8_10 : Nat, ∃ f9_11 : Int, ∃ f10_12 : Int, ∃ f11_13 : Int, ∃ f12_14 : Int, w[a0]? = some (zob 1 [zp f0_2, zp f1_3, zj f2_4, zj f3_5, zj f4_6, zj f5_7, zj f6_8, zp f7_9, zp f8_10, zj f9_11, zj f10_12, zj f11_13, zj f12_14]) ∧ (∃ f0_16 : Nat, ∃ f1_17 : Nat, ∃ f2_18 : Nat, ∃ f3_19 : Nat, ∃ f4_20 : Int, ∃ f5_21 : Int, w[f0_2]? = some (zob 0 [zp f0_16, zp f1_17, zp f2_18, zp f3_19, zj f4_20, zj f5_21]) ∧ (∃ r_24 : Int, ∃ w_22 : List zE, Zc sc 18 [zp f0_2] w (some (zj r_24)) w_22 0 0 ∧ ((zrg x2 ∧ zrg r_24) ∧ ((r_24 ≤ x2 → (∃ f0_27 : Nat, ∃ f1_28 : Nat, ∃ f2_29 : Int, ∃ f3_30 : Int, ∃ f4_31 : Int, ∃ f5_32 : Int, ∃ f6_33 : Int, ∃ f7_34 : Nat, ∃ f8_35 : Nat, ∃ f9_36 : Int, ∃ f10_37 : Int, ∃ f11_38 : Int, ∃ f12_39 : Int, w_22[a0]? = some (zob 1 [zp f0_27, zp f1_28, zj f2_29, zj f3_30, zj f4_31, zj f5_32, zj f6_33, zp f7_34, zp f8_35, zj f9_36, zj f10_37, zj f11_38, zj f12_39]) ∧ (∃ w_40 : List zE, Zc sc 75 [zp a0, zj x1, zj 1024] w_22 none w_40 0 0 ∧ (ov = none ∧ w' = w_40 ∧ c = 0 ∧ s = 0)))) ∧ (¬ (r_24 ≤ x2) → (∃ f0_43 : Nat, ∃ f1_44 : Nat, ∃ f2_45 : Int, ∃ f3_46 : Int, ∃ f4_47 : Int, ∃ f5_48 : Int, ∃ f6_49 : Int, ∃ f7_50 : Nat, ∃ f8_51 : Nat, ∃ f9_52 : Int, ∃ f10_53 : Int, ∃ f11_54 : Int, ∃ f12_55 : Int, w_22[a0]? = some (zob 1 [zp f0_43, zp f1_44, zj f2_45, zj f3_46, zj f4_47, zj f5_48, zj f6_49, zp f7_50, zp f8_51, zj f9_52, zj f10_53, zj f11_54, zj f12_55]) ∧ (∃ f0_57 : Nat, ∃ f1_58 : Nat, ∃ f2_59 : Nat, ∃ f3_60 : Nat, ∃ f4_61 : Int, ∃ f5_62 : Int, w_22[f0_43]? = some (zob 0 [zp f0_57, zp f1_58, zp f2_59, zp f3_60, zj f4_61, zj f5_62]) ∧ (∃ r_65 : Int, ∃ w_63 : List zE, Zc sc 72 [zp f0_43, zj x2] w_22 (some (zj r_65)) w_63 0 0 ∧ (∃ f0_67 : Nat, ∃ f1_68 : Nat, ∃ f2_69 : Int, ∃ f3_70 : Int, ∃ f4_71 : Int, ∃ f5_72 : Int, ∃ f6_73 : Int, ∃ f7_74 : Nat, ∃ f8_75 : Nat, ∃ f9_76 : Int, ∃ f10_77 : Int, ∃ f11_78 : Int, ∃ f12_79 : Int, w_63[a0]? = some (zob 1 [zp f0_67, zp f1_68, zj f2_69, zj f3_70, zj f4_71, zj f5_72, zj f6_73, zp f7_74, zp f8_75, zj f9_76, zj f10_77, zj f11_78, zj f12_79]) ∧ (∃ f0_81 : Nat, ∃ f1_82 : Nat, ∃ f2_83 : Nat, ∃ f3_84 : Nat, ∃ f4_85 : Int, ∃ f5_86 : Int, w_63[f0_67]? = some (zob 0 [zp f0_81, zp f1_82, zp f2_83, zp f3_84, zj f4_85, zj f5_86]) ∧ (∃ r_89 : Int, ∃ w_87 : List zE, Zc sc 9 [zp f0_67, zj r_65] w_63 (some (zj r_89)) w_87 0 0 ∧ (∃ f0_91 : Nat, ∃ f1_92 : Nat, ∃ f2_93 : Int, ∃ f3_94 : Int, ∃ f4_95 : Int, ∃ f5_96 : Int, ∃ f6_97 : Int, ∃ f7_98 : Nat, ∃ f8_99 : Nat, ∃ f9_100 : Int, ∃ f10_101 : Int, ∃ f11_102 : Int, ∃ f12_103 : Int, w_87[a0]? = some (zob 1 [zp f0_91, zp f1_92, zj f2_93, zj f3_94, zj f4_95, zj f5_96, zj f6_97, zp f7_98, zp f8_99, zj f9_100, zj f10_101, zj f11_102, zj f12_103]) ∧ (∃ w_104 : List zE, Zc sc 75 [zp a0, zj x1, zj r_89] w_87 none w_104 0 0 ∧ (∃ f0_107 : Nat, ∃ f1_108 : Nat, ∃ f2_109 : Int, ∃ f3_110 : Int, ∃ f4_111 : Int, ∃ f5_112 : Int, ∃ f6_113 : Int, ∃ f7_114 : Nat, ∃ f8_115 : Nat, ∃ f9_116 : Int, ∃ f10_117 : Int, ∃ f11_118 : Int, ∃ f12_119 : Int, w_104[a0]? = some (zob 1 [zp f0_107, zp f1_108, zj f2_109, zj f3_110, zj f4_111, zj f5_112, zj f6_113, zp f7_114, zp f8_115, zj f9_116, zj f10_117, zj f11_118, zj f12_119]) ∧ (∃ f0_121 : Nat, ∃ f1_122 : Nat, ∃ f2_123 : Nat, ∃ f3_124 : Nat, ∃ f4_125 : Int, ∃ f5_126 : Int, w_104[f0_107]? = some (zob 0 [zp f0_121, zp f1_122, zp f2_123, zp f3_124, zj f4_125, zj f5_126]) ∧ (∃ r_129 : Int, ∃ w_127 : List zE, Zc sc 16 [zp f0_107, zj r_65] w_104 (some (zj r_129)) w_127 0 0 ∧ Zr sc 69 15 [zp a0, zj r_129, zj (x2 + 1), zj r_65] [] w_127 ov w' c s)))))))))))))))))) : Zr sc 69 15 [zp a0, zj x1, zj x2, v3] [] w ov w' c s := by
  refine Zr_st (q := (16, [zp a0, zj x1, zj x2, v3], [zj x2])) rfl rfl rfl ?_
  show Zr sc 69 16 [zp a0, zj x1, zj x2, v3] [zj x2] w ov w' c s
  refine Zr_st (q := (17, [zp a0, zj x1, zj x2, v3], [zp a0, zj x2])) rfl rfl rfl ?_
  show Zr sc 69 17 [zp a0, zj x1, zj x2, v3] [zp a0, zj x2] w ov w' c s
  obtain ⟨f0_2, f1_3, f2_4, f3_5, f4_6, f5_7, f6_8, f7_9, f8_10, f9_11, f10_12, f11_13, f12_14, hw_1, h⟩ := h
  refine rl_gf rfl hw_1 rfl rfl ?_
  show Zr sc 69 20 [zp a0, zj x1, zj x2, v3] [zp f0_2, zj x2] w ov w' c s
  obtain ⟨f0_16, f1_17, f2_18, f3_19, f4_20, f5_21, hw_15, h⟩ := h
  obtain ⟨r_24, w_22, hk_23, h⟩ := h
  refine rn_cal0 (ins := .invokevirtual 152) (rest := [zj x2]) rfl rfl rfl rfl (zinv_v (fs := _) hw_15 rfl rfl rfl rfl) rfl rfl hk_23 ?_
  show Zr sc 69 23 [zp a0, zj x1, zj x2, v3] [zj r_24, zj x2] w_22 ov w' c s
  obtain ⟨hr_25, h⟩ := h
  refine Zr_br (p := r_24 ≤ x2) rfl rfl (zcmp_j (cnd := .ge) hr_25.1 hr_25.2) (fun hp => ?_) (fun hp => ?_)
  · replace h := h.1 hp
    show Zr sc 69 63 [zp a0, zj x1, zj x2, v3] [] w_22 ov w' c s
    refine Zr_st (q := (64, [zp a0, zj x1, zj x2, v3], [zp a0])) rfl rfl rfl ?_
    show Zr sc 69 64 [zp a0, zj x1, zj x2, v3] [zp a0] w_22 ov w' c s
    refine Zr_st (q := (65, [zp a0, zj x1, zj x2, v3], [zj x1, zp a0])) rfl rfl rfl ?_
    show Zr sc 69 65 [zp a0, zj x1, zj x2, v3] [zj x1, zp a0] w_22 ov w' c s
    refine rl_si rfl (by decide) ?_
    show Zr sc 69 68 [zp a0, zj x1, zj x2, v3] [zj 1024, zj x1, zp a0] w_22 ov w' c s
    obtain ⟨f0_27, f1_28, f2_29, f3_30, f4_31, f5_32, f6_33, f7_34, f8_35, f9_36, f10_37, f11_38, f12_39, hw_26, h⟩ := h
    obtain ⟨w_40, hk_41, h⟩ := h
    refine rn_cal0 (ins := .invokevirtual 156) (rest := []) rfl rfl rfl rfl (zinv_v (fs := _) hw_26 rfl rfl rfl rfl) rfl rfl hk_41 ?_
    show Zr sc 69 71 [zp a0, zj x1, zj x2, v3] [] w_40 ov w' c s
    obtain ⟨h1, h2, h3, h4⟩ := h
    subst h1; subst h2; subst h3; subst h4
    exact Zr_ret (ins := .return_) rfl rfl
  · replace h := h.2 hp
    show Zr sc 69 26 [zp a0, zj x1, zj x2, v3] [] w_22 ov w' c s
    refine Zr_st (q := (27, [zp a0, zj x1, zj x2, v3], [zp a0])) rfl rfl rfl ?_
    show Zr sc 69 27 [zp a0, zj x1, zj x2, v3] [zp a0] w_22 ov w' c s
    obtain ⟨f0_43, f1_44, f2_45, f3_46, f4_47, f5_48, f6_49, f7_50, f8_51, f9_52, f10_53, f11_54, f12_55, hw_42, h⟩ := h
    refine rl_gf rfl hw_42 rfl rfl ?_
    show Zr sc 69 30 [zp a0, zj x1, zj x2, v3] [zp f0_43] w_22 ov w' c s
    refine Zr_st (q := (31, [zp a0, zj x1, zj x2, v3], [zj x2, zp f0_43])) rfl rfl rfl ?_
    show Zr sc 69 31 [zp a0, zj x1, zj x2, v3] [zj x2, zp f0_43] w_22 ov w' c s
    obtain ⟨f0_57, f1_58, f2_59, f3_60, f4_61, f5_62, hw_56, h⟩ := h
    obtain ⟨r_65, w_63, hk_64, h⟩ := h
    refine rn_cal0 (ins := .invokevirtual 153) (rest := []) rfl rfl rfl rfl (zinv_v (fs := _) hw_56 rfl rfl rfl rfl) rfl rfl hk_64 ?_
    show Zr sc 69 34 [zp a0, zj x1, zj x2, v3] [zj r_65] w_63 ov w' c s
    refine Zr_st (q := (35, [zp a0, zj x1, zj x2, zj r_65], [])) rfl rfl rfl ?_
    show Zr sc 69 35 [zp a0, zj x1, zj x2, zj r_65] [] w_63 ov w' c s
    refine Zr_st (q := (36, [zp a0, zj x1, zj x2, zj r_65], [zp a0])) rfl rfl rfl ?_
    show Zr sc 69 36 [zp a0, zj x1, zj x2, zj r_65] [zp a0] w_63 ov w' c s
    refine Zr_st (q := (37, [zp a0, zj x1, zj x2, zj r_65], [zj x1, zp a0])) rfl rfl rfl ?_
    show Zr sc 69 37 [zp a0, zj x1, zj x2, zj r_65] [zj x1, zp a0] w_63 ov w' c s
    refine Zr_st (q := (38, [zp a0, zj x1, zj x2, zj r_65], [zp a0, zj x1, zp a0])) rfl rfl rfl ?_
    show Zr sc 69 38 [zp a0, zj x1, zj x2, zj r_65] [zp a0, zj x1, zp a0] w_63 ov w' c s
    obtain ⟨f0_67, f1_68, f2_69, f3_70, f4_71, f5_72, f6_73, f7_74, f8_75, f9_76, f10_77, f11_78, f12_79, hw_66, h⟩ := h
    refine rl_gf rfl hw_66 rfl rfl ?_
    show Zr sc 69 41 [zp a0, zj x1, zj x2, zj r_65] [zp f0_67, zj x1, zp a0] w_63 ov w' c s
    refine Zr_st (q := (42, [zp a0, zj x1, zj x2, zj r_65], [zj r_65, zp f0_67, zj x1, zp a0])) rfl rfl rfl ?_
    show Zr sc 69 42 [zp a0, zj x1, zj x2, zj r_65] [zj r_65, zp f0_67, zj x1, zp a0] w_63 ov w' c s
    obtain ⟨f0_81, f1_82, f2_83, f3_84, f4_85, f5_86, hw_80, h⟩ := h
    obtain ⟨r_89, w_87, hk_88, h⟩ := h
    refine rn_cal0 (ins := .invokevirtual 136) (rest := [zj x1, zp a0]) rfl rfl rfl rfl (zinv_v (fs := _) hw_80 rfl rfl rfl rfl) rfl rfl hk_88 ?_
    show Zr sc 69 45 [zp a0, zj x1, zj x2, zj r_65] [zj r_89, zj x1, zp a0] w_87 ov w' c s
    obtain ⟨f0_91, f1_92, f2_93, f3_94, f4_95, f5_96, f6_97, f7_98, f8_99, f9_100, f10_101, f11_102, f12_103, hw_90, h⟩ := h
    obtain ⟨w_104, hk_105, h⟩ := h
    refine rn_cal0 (ins := .invokevirtual 156) (rest := []) rfl rfl rfl rfl (zinv_v (fs := _) hw_90 rfl rfl rfl rfl) rfl rfl hk_105 ?_
    show Zr sc 69 48 [zp a0, zj x1, zj x2, zj r_65] [] w_104 ov w' c s
    refine Zr_st (q := (49, [zp a0, zj x1, zj x2, zj r_65], [zp a0])) rfl rfl rfl ?_
    show Zr sc 69 49 [zp a0, zj x1, zj x2, zj r_65] [zp a0] w_104 ov w' c s
    obtain ⟨f0_107, f1_108, f2_109, f3_110, f4_111, f5_112, f6_113, f7_114, f8_115, f9_116, f10_117, f11_118, f12_119, hw_106, h⟩ := h
    refine rl_gf rfl hw_106 rfl rfl ?_
    show Zr sc 69 52 [zp a0, zj x1, zj x2, zj r_65] [zp f0_107] w_104 ov w' c s
    refine Zr_st (q := (53, [zp a0, zj x1, zj x2, zj r_65], [zj r_65, zp f0_107])) rfl rfl rfl ?_
    show Zr sc 69 53 [zp a0, zj x1, zj x2, zj r_65] [zj r_65, zp f0_107] w_104 ov w' c s
    obtain ⟨f0_121, f1_122, f2_123, f3_124, f4_125, f5_126, hw_120, h⟩ := h
    obtain ⟨r_129, w_127, hk_128, h⟩ := h
    refine rn_cal0 (ins := .invokevirtual 159) (rest := []) rfl rfl rfl rfl (zinv_v (fs := _) hw_120 rfl rfl rfl rfl) rfl rfl hk_128 ?_
    show Zr sc 69 56 [zp a0, zj x1, zj x2, zj r_65] [zj r_129] w_127 ov w' c s
    refine Zr_st (q := (57, [zp a0, zj r_129, zj x2, zj r_65], [])) rfl rfl rfl ?_
    show Zr sc 69 57 [zp a0, zj r_129, zj x2, zj r_65] [] w_127 ov w' c s
    refine rl_inc rfl rfl rfl rfl ?_
    show Zr sc 69 60 [zp a0, zj r_129, zj (x2 + 1), zj r_65] [] w_127 ov w' c s
    refine Zr_st (q := (15, [zp a0, zj r_129, zj (x2 + 1), zj r_65], [])) rfl rfl rfl ?_
    show Zr sc 69 15 [zp a0, zj r_129, zj (x2 + 1), zj r_65] [] w_127 ov w' c s
    exact h

-- HeapwrightLab$Memory.layOut()V
set_option maxRecDepth 100000 in
theorem V69_0_2 {sc : List Value} {w w' : List zE} {ov : Option Value} {c s : Nat} {a0 : Nat} (h : (∃ f0_2 : Nat, ∃ f1_3 : Nat, ∃ f2_4 : Int, ∃ f3_5 : Int, ∃ f4_6 : Int, ∃ f5_7 : Int, ∃ f6_8 : Int, ∃ f7_9 : Nat, ∃ f8_10 : Nat, ∃ f9_11 : Int, ∃ f10_12 : Int, ∃ f11_13 : Int, ∃ f12_14 : Int, w[a0]? = some (zob 2 [zp f0_2, zp f1_3, zj f2_4, zj f3_5, zj f4_6, zj f5_7, zj f6_8, zp f7_9, zp f8_10, zj f9_11, zj f10_12, zj f11_13, zj f12_14]) ∧ (∃ w_15 : List zE, Zc sc 73 [zp a0] w none w_15 0 0 ∧ (∃ f0_18 : Nat, ∃ f1_19 : Nat, ∃ f2_20 : Int, ∃ f3_21 : Int, ∃ f4_22 : Int, ∃ f5_23 : Int, ∃ f6_24 : Int, ∃ f7_25 : Nat, ∃ f8_26 : Nat, ∃ f9_27 : Int, ∃ f10_28 : Int, ∃ f11_29 : Int, ∃ f12_30 : Int, w_15[a0]? = some (zob 2 [zp f0_18, zp f1_19, zj f2_20, zj f3_21, zj f4_22, zj f5_23, zj f6_24, zp f7_25, zp f8_26, zj f9_27, zj f10_28, zj f11_29, zj f12_30]) ∧ (∃ f0_32 : Nat, ∃ f1_33 : Nat, ∃ f2_34 : Int, w_15[f1_19]? = some (zob 3 [zp f0_32, zp f1_33, zj f2_34]) ∧ (∃ w_35 : List zE, Zc sc 74 [zp f1_19] w_15 none w_35 0 0 ∧ Zr sc 69 15 [zp a0, zj 0, zj 0, zmk] [] w_35 ov w' c s)))))) : Zr sc 69 0 [zp a0, zmk, zmk, zmk] [] w ov w' c s := by
  refine Zr_st (q := (1, [zp a0, zmk, zmk, zmk], [zp a0])) rfl rfl rfl ?_
  show Zr sc 69 1 [zp a0, zmk, zmk, zmk] [zp a0] w ov w' c s
  obtain ⟨f0_2, f1_3, f2_4, f3_5, f4_6, f5_7, f6_8, f7_9, f8_10, f9_11, f10_12, f11_13, f12_14, hw_1, h⟩ := h
  obtain ⟨w_15, hk_16, h⟩ := h
  refine rn_cal0 (ins := .invokevirtual 148) (rest := []) rfl rfl rfl rfl (zinv_v (fs := _) hw_1 rfl rfl rfl rfl) rfl rfl hk_16 ?_
  show Zr sc 69 4 [zp a0, zmk, zmk, zmk] [] w_15 ov w' c s
  refine Zr_st (q := (5, [zp a0, zmk, zmk, zmk], [zp a0])) rfl rfl rfl ?_
  show Zr sc 69 5 [zp a0, zmk, zmk, zmk] [zp a0] w_15 ov w' c s
  obtain ⟨f0_18, f1_19, f2_20, f3_21, f4_22, f5_23, f6_24, f7_25, f8_26, f9_27, f10_28, f11_29, f12_30, hw_17, h⟩ := h
  refine rl_gf rfl hw_17 rfl rfl ?_
  show Zr sc 69 8 [zp a0, zmk, zmk, zmk] [zp f1_19] w_15 ov w' c s
  obtain ⟨f0_32, f1_33, f2_34, hw_31, h⟩ := h
  obtain ⟨w_35, hk_36, h⟩ := h
  refine rn_cal0 (ins := .invokevirtual 151) (rest := []) rfl rfl rfl rfl (zinv_v (fs := _) hw_31 rfl rfl rfl rfl) rfl rfl hk_36 ?_
  show Zr sc 69 11 [zp a0, zmk, zmk, zmk] [] w_35 ov w' c s
  refine rl_ic rfl ?_
  show Zr sc 69 12 [zp a0, zmk, zmk, zmk] [zj 0] w_35 ov w' c s
  refine Zr_st (q := (13, [zp a0, zj 0, zmk, zmk], [])) rfl rfl rfl ?_
  show Zr sc 69 13 [zp a0, zj 0, zmk, zmk] [] w_35 ov w' c s
  refine rl_ic rfl ?_
  show Zr sc 69 14 [zp a0, zj 0, zmk, zmk] [zj 0] w_35 ov w' c s
  refine Zr_st (q := (15, [zp a0, zj 0, zj 0, zmk], [])) rfl rfl rfl ?_
  show Zr sc 69 15 [zp a0, zj 0, zj 0, zmk] [] w_35 ov w' c s
  exact h
set_option maxRecDepth 100000 in
theorem V69_15_2 {sc : List Value} {w w' : List zE} {ov : Option Value} {c s : Nat} {a0 : Nat} {x1 : Int} {x2 : Int} {v3 : Value} (h : (∃ f0_2 : Nat, ∃ f1_3 : Nat, ∃ f2_4 : Int, ∃ f3_5 : Int, ∃ f4_6 : Int, ∃ f5_7 : Int, ∃ f6_8 : Int, ∃ f7_9 : Nat, ∃ f8_10 : Nat, ∃ f9_11 : Int, ∃ f10_12 : Int, ∃ f11_13 : Int, ∃ f12_14 : Int, w[a0]? = some (zob 2 [zp f0_2, zp f1_3, zj f2_4, zj f3_5, zj f4_6, zj f5_7, zj f6_8, zp f7_9, zp f8_10, zj f9_11, zj f10_12, zj f11_13, zj f12_14]) ∧ (∃ f0_16 : Nat, ∃ f1_17 : Nat, ∃ f2_18 : Nat, ∃ f3_19 : Nat, ∃ f4_20 : Int, ∃ f5_21 : Int, w[f0_2]? = some (zob 0 [zp f0_16, zp f1_17, zp f2_18, zp f3_19, zj f4_20, zj f5_21]) ∧ (∃ r_24 : Int, ∃ w_22 : List zE, Zc sc 18 [zp f0_2] w (some (zj r_24)) w_22 0 0 ∧ ((zrg x2 ∧ zrg r_24) ∧ ((r_24 ≤ x2 → (∃ f0_27 : Nat, ∃ f1_28 : Nat, ∃ f2_29 : Int, ∃ f3_30 : Int, ∃ f4_31 : Int, ∃ f5_32 : Int, ∃ f6_33 : Int, ∃ f7_34 : Nat, ∃ f8_35 : Nat, ∃ f9_36 : Int, ∃ f10_37 : Int, ∃ f11_38 : Int, ∃ f12_39 : Int, w_22[a0]? = some (zob 2 [zp f0_27, zp f1_28, zj f2_29, zj f3_30, zj f4_31, zj f5_32, zj f6_33, zp f7_34, zp f8_35, zj f9_36, zj f10_37, zj f11_38, zj f12_39]) ∧ (∃ w_40 : List zE, Zc sc 78 [zp a0, zj x1, zj 1024] w_22 none w_40 0 0 ∧ (ov = none ∧ w' = w_40 ∧ c = 0 ∧ s = 0)))) ∧ (¬ (r_24 ≤ x2) → (∃ f0_43 : Nat, ∃ f1_44 : Nat, ∃ f2_45 : Int, ∃ f3_46 : Int, ∃ f4_47 : Int, ∃ f5_48 : Int, ∃ f6_49 : Int, ∃ f7_50 : Nat, ∃ f8_51 : Nat, ∃ f9_52 : Int, ∃ f10_53 : Int, ∃ f11_54 : Int, ∃ f12_55 : Int, w_22[a0]? = some (zob 2 [zp f0_43, zp f1_44, zj f2_45, zj f3_46, zj f4_47, zj f5_48, zj f6_49, zp f7_50, zp f8_51, zj f9_52, zj f10_53, zj f11_54, zj f12_55]) ∧ (∃ f0_57 : Nat, ∃ f1_58 : Nat, ∃ f2_59 : Nat, ∃ f3_60 : Nat, ∃ f4_61 : Int, ∃ f5_62 : Int, w_22[f0_43]? = some (zob 0 [zp f0_57, zp f1_58, zp f2_59, zp f3_60, zj f4_61, zj f5_62]) ∧ (∃ r_65 : Int, ∃ w_63 : List zE, Zc sc 72 [zp f0_43, zj x2] w_22 (some (zj r_65)) w_63 0 0 ∧ (∃ f0_67 : Nat, ∃ f1_68 : Nat, ∃ f2_69 : Int, ∃ f3_70 : Int, ∃ f4_71 : Int, ∃ f5_72 : Int, ∃ f6_73 : Int, ∃ f7_74 : Nat, ∃ f8_75 : Nat, ∃ f9_76 : Int, ∃ f10_77 : Int, ∃ f11_78 : Int, ∃ f12_79 : Int, w_63[a0]? = some (zob 2 [zp f0_67, zp f1_68, zj f2_69, zj f3_70, zj f4_71, zj f5_72, zj f6_73, zp f7_74, zp f8_75, zj f9_76, zj f10_77, zj f11_78, zj f12_79]) ∧ (∃ f0_81 : Nat, ∃ f1_82 : Nat, ∃ f2_83 : Nat, ∃ f3_84 : Nat, ∃ f4_85 : Int, ∃ f5_86 : Int, w_63[f0_67]? = some (zob 0 [zp f0_81, zp f1_82, zp f2_83, zp f3_84, zj f4_85, zj f5_86]) ∧ (∃ r_89 : Int, ∃ w_87 : List zE, Zc sc 9 [zp f0_67, zj r_65] w_63 (some (zj r_89)) w_87 0 0 ∧ (∃ f0_91 : Nat, ∃ f1_92 : Nat, ∃ f2_93 : Int, ∃ f3_94 : Int, ∃ f4_95 : Int, ∃ f5_96 : Int, ∃ f6_97 : Int, ∃ f7_98 : Nat, ∃ f8_99 : Nat, ∃ f9_100 : Int, ∃ f10_101 : Int, ∃ f11_102 : Int, ∃ f12_103 : Int, w_87[a0]? = some (zob 2 [zp f0_91, zp f1_92, zj f2_93, zj f3_94, zj f4_95, zj f5_96, zj f6_97, zp f7_98, zp f8_99, zj f9_100, zj f10_101, zj f11_102, zj f12_103]) ∧ (∃ w_104 : List zE, Zc sc 78 [zp a0, zj x1, zj r_89] w_87 none w_104 0 0 ∧ (∃ f0_107 : Nat, ∃ f1_108 : Nat, ∃ f2_109 : Int, ∃ f3_110 : Int, ∃ f4_111 : Int, ∃ f5_112 : Int, ∃ f6_113 : Int, ∃ f7_114 : Nat, ∃ f8_115 : Nat, ∃ f9_116 : Int, ∃ f10_117 : Int, ∃ f11_118 : Int, ∃ f12_119 : Int, w_104[a0]? = some (zob 2 [zp f0_107, zp f1_108, zj f2_109, zj f3_110, zj f4_111, zj f5_112, zj f6_113, zp f7_114, zp f8_115, zj f9_116, zj f10_117, zj f11_118, zj f12_119]) ∧ (∃ f0_121 : Nat, ∃ f1_122 : Nat, ∃ f2_123 : Nat, ∃ f3_124 : Nat, ∃ f4_125 : Int, ∃ f5_126 : Int, w_104[f0_107]? = some (zob 0 [zp f0_121, zp f1_122, zp f2_123, zp f3_124, zj f4_125, zj f5_126]) ∧ (∃ r_129 : Int, ∃ w_127 : List zE, Zc sc 16 [zp f0_107, zj r_65] w_104 (some (zj r_129)) w_127 0 0 ∧ Zr sc 69 15 [zp a0, zj r_129, zj (x2 + 1), zj r_65] [] w_127 ov w' c s)))))))))))))))))) : Zr sc 69 15 [zp a0, zj x1, zj x2, v3] [] w ov w' c s := by
  refine Zr_st (q := (16, [zp a0, zj x1, zj x2, v3], [zj x2])) rfl rfl rfl ?_
  show Zr sc 69 16 [zp a0, zj x1, zj x2, v3] [zj x2] w ov w' c s
  refine Zr_st (q := (17, [zp a0, zj x1, zj x2, v3], [zp a0, zj x2])) rfl rfl rfl ?_
  show Zr sc 69 17 [zp a0, zj x1, zj x2, v3] [zp a0, zj x2] w ov w' c s
  obtain ⟨f0_2, f1_3, f2_4, f3_5, f4_6, f5_7, f6_8, f7_9, f8_10, f9_11, f10_12, f11_13, f12_14, hw_1, h⟩ := h
  refine rl_gf rfl hw_1 rfl rfl ?_
  show Zr sc 69 20 [zp a0, zj x1, zj x2, v3] [zp f0_2, zj x2] w ov w' c s
  obtain ⟨f0_16, f1_17, f2_18, f3_19, f4_20, f5_21, hw_15, h⟩ := h
  obtain ⟨r_24, w_22, hk_23, h⟩ := h
  refine rn_cal0 (ins := .invokevirtual 152) (rest := [zj x2]) rfl rfl rfl rfl (zinv_v (fs := _) hw_15 rfl rfl rfl rfl) rfl rfl hk_23 ?_
  show Zr sc 69 23 [zp a0, zj x1, zj x2, v3] [zj r_24, zj x2] w_22 ov w' c s
  obtain ⟨hr_25, h⟩ := h
  refine Zr_br (p := r_24 ≤ x2) rfl rfl (zcmp_j (cnd := .ge) hr_25.1 hr_25.2) (fun hp => ?_) (fun hp => ?_)
  · replace h := h.1 hp
    show Zr sc 69 63 [zp a0, zj x1, zj x2, v3] [] w_22 ov w' c s
    refine Zr_st (q := (64, [zp a0, zj x1, zj x2, v3], [zp a0])) rfl rfl rfl ?_
    show Zr sc 69 64 [zp a0, zj x1, zj x2, v3] [zp a0] w_22 ov w' c s
    refine Zr_st (q := (65, [zp a0, zj x1, zj x2, v3], [zj x1, zp a0])) rfl rfl rfl ?_
    show Zr sc 69 65 [zp a0, zj x1, zj x2, v3] [zj x1, zp a0] w_22 ov w' c s
    refine rl_si rfl (by decide) ?_
    show Zr sc 69 68 [zp a0, zj x1, zj x2, v3] [zj 1024, zj x1, zp a0] w_22 ov w' c s
    obtain ⟨f0_27, f1_28, f2_29, f3_30, f4_31, f5_32, f6_33, f7_34, f8_35, f9_36, f10_37, f11_38, f12_39, hw_26, h⟩ := h
    obtain ⟨w_40, hk_41, h⟩ := h
    refine rn_cal0 (ins := .invokevirtual 156) (rest := []) rfl rfl rfl rfl (zinv_v (fs := _) hw_26 rfl rfl rfl rfl) rfl rfl hk_41 ?_
    show Zr sc 69 71 [zp a0, zj x1, zj x2, v3] [] w_40 ov w' c s
    obtain ⟨h1, h2, h3, h4⟩ := h
    subst h1; subst h2; subst h3; subst h4
    exact Zr_ret (ins := .return_) rfl rfl
  · replace h := h.2 hp
    show Zr sc 69 26 [zp a0, zj x1, zj x2, v3] [] w_22 ov w' c s
    refine Zr_st (q := (27, [zp a0, zj x1, zj x2, v3], [zp a0])) rfl rfl rfl ?_
    show Zr sc 69 27 [zp a0, zj x1, zj x2, v3] [zp a0] w_22 ov w' c s
    obtain ⟨f0_43, f1_44, f2_45, f3_46, f4_47, f5_48, f6_49, f7_50, f8_51, f9_52, f10_53, f11_54, f12_55, hw_42, h⟩ := h
    refine rl_gf rfl hw_42 rfl rfl ?_
    show Zr sc 69 30 [zp a0, zj x1, zj x2, v3] [zp f0_43] w_22 ov w' c s
    refine Zr_st (q := (31, [zp a0, zj x1, zj x2, v3], [zj x2, zp f0_43])) rfl rfl rfl ?_
    show Zr sc 69 31 [zp a0, zj x1, zj x2, v3] [zj x2, zp f0_43] w_22 ov w' c s
    obtain ⟨f0_57, f1_58, f2_59, f3_60, f4_61, f5_62, hw_56, h⟩ := h
    obtain ⟨r_65, w_63, hk_64, h⟩ := h
    refine rn_cal0 (ins := .invokevirtual 153) (rest := []) rfl rfl rfl rfl (zinv_v (fs := _) hw_56 rfl rfl rfl rfl) rfl rfl hk_64 ?_
    show Zr sc 69 34 [zp a0, zj x1, zj x2, v3] [zj r_65] w_63 ov w' c s
    refine Zr_st (q := (35, [zp a0, zj x1, zj x2, zj r_65], [])) rfl rfl rfl ?_
    show Zr sc 69 35 [zp a0, zj x1, zj x2, zj r_65] [] w_63 ov w' c s
    refine Zr_st (q := (36, [zp a0, zj x1, zj x2, zj r_65], [zp a0])) rfl rfl rfl ?_
    show Zr sc 69 36 [zp a0, zj x1, zj x2, zj r_65] [zp a0] w_63 ov w' c s
    refine Zr_st (q := (37, [zp a0, zj x1, zj x2, zj r_65], [zj x1, zp a0])) rfl rfl rfl ?_
    show Zr sc 69 37 [zp a0, zj x1, zj x2, zj r_65] [zj x1, zp a0] w_63 ov w' c s
    refine Zr_st (q := (38, [zp a0, zj x1, zj x2, zj r_65], [zp a0, zj x1, zp a0])) rfl rfl rfl ?_
    show Zr sc 69 38 [zp a0, zj x1, zj x2, zj r_65] [zp a0, zj x1, zp a0] w_63 ov w' c s
    obtain ⟨f0_67, f1_68, f2_69, f3_70, f4_71, f5_72, f6_73, f7_74, f8_75, f9_76, f10_77, f11_78, f12_79, hw_66, h⟩ := h
    refine rl_gf rfl hw_66 rfl rfl ?_
    show Zr sc 69 41 [zp a0, zj x1, zj x2, zj r_65] [zp f0_67, zj x1, zp a0] w_63 ov w' c s
    refine Zr_st (q := (42, [zp a0, zj x1, zj x2, zj r_65], [zj r_65, zp f0_67, zj x1, zp a0])) rfl rfl rfl ?_
    show Zr sc 69 42 [zp a0, zj x1, zj x2, zj r_65] [zj r_65, zp f0_67, zj x1, zp a0] w_63 ov w' c s
    obtain ⟨f0_81, f1_82, f2_83, f3_84, f4_85, f5_86, hw_80, h⟩ := h
    obtain ⟨r_89, w_87, hk_88, h⟩ := h
    refine rn_cal0 (ins := .invokevirtual 136) (rest := [zj x1, zp a0]) rfl rfl rfl rfl (zinv_v (fs := _) hw_80 rfl rfl rfl rfl) rfl rfl hk_88 ?_
    show Zr sc 69 45 [zp a0, zj x1, zj x2, zj r_65] [zj r_89, zj x1, zp a0] w_87 ov w' c s
    obtain ⟨f0_91, f1_92, f2_93, f3_94, f4_95, f5_96, f6_97, f7_98, f8_99, f9_100, f10_101, f11_102, f12_103, hw_90, h⟩ := h
    obtain ⟨w_104, hk_105, h⟩ := h
    refine rn_cal0 (ins := .invokevirtual 156) (rest := []) rfl rfl rfl rfl (zinv_v (fs := _) hw_90 rfl rfl rfl rfl) rfl rfl hk_105 ?_
    show Zr sc 69 48 [zp a0, zj x1, zj x2, zj r_65] [] w_104 ov w' c s
    refine Zr_st (q := (49, [zp a0, zj x1, zj x2, zj r_65], [zp a0])) rfl rfl rfl ?_
    show Zr sc 69 49 [zp a0, zj x1, zj x2, zj r_65] [zp a0] w_104 ov w' c s
    obtain ⟨f0_107, f1_108, f2_109, f3_110, f4_111, f5_112, f6_113, f7_114, f8_115, f9_116, f10_117, f11_118, f12_119, hw_106, h⟩ := h
    refine rl_gf rfl hw_106 rfl rfl ?_
    show Zr sc 69 52 [zp a0, zj x1, zj x2, zj r_65] [zp f0_107] w_104 ov w' c s
    refine Zr_st (q := (53, [zp a0, zj x1, zj x2, zj r_65], [zj r_65, zp f0_107])) rfl rfl rfl ?_
    show Zr sc 69 53 [zp a0, zj x1, zj x2, zj r_65] [zj r_65, zp f0_107] w_104 ov w' c s
    obtain ⟨f0_121, f1_122, f2_123, f3_124, f4_125, f5_126, hw_120, h⟩ := h
    obtain ⟨r_129, w_127, hk_128, h⟩ := h
    refine rn_cal0 (ins := .invokevirtual 159) (rest := []) rfl rfl rfl rfl (zinv_v (fs := _) hw_120 rfl rfl rfl rfl) rfl rfl hk_128 ?_
    show Zr sc 69 56 [zp a0, zj x1, zj x2, zj r_65] [zj r_129] w_127 ov w' c s
    refine Zr_st (q := (57, [zp a0, zj r_129, zj x2, zj r_65], [])) rfl rfl rfl ?_
    show Zr sc 69 57 [zp a0, zj r_129, zj x2, zj r_65] [] w_127 ov w' c s
    refine rl_inc rfl rfl rfl rfl ?_
    show Zr sc 69 60 [zp a0, zj r_129, zj (x2 + 1), zj r_65] [] w_127 ov w' c s
    refine Zr_st (q := (15, [zp a0, zj r_129, zj (x2 + 1), zj r_65], [])) rfl rfl rfl ?_
    show Zr sc 69 15 [zp a0, zj r_129, zj (x2 + 1), zj r_65] [] w_127 ov w' c s
    exact h

-- HeapwrightLab$Memory.layOut()V
set_option maxRecDepth 100000 in
theorem V69_0_4 {sc : List Value} {w w' : List zE} {ov : Option Value} {c s : Nat} {a0 : Nat} (h : (∃ f0_2 : Nat, ∃ f1_3 : Nat, ∃ f2_4 : Int, ∃ f3_5 : Int, ∃ f4_6 : Int, ∃ f5_7 : Int, ∃ f6_8 : Int, ∃ f7_9 : Nat, ∃ f8_10 : Nat, ∃ f9_11 : Int, ∃ f10_12 : Int, ∃ f11_13 : Int, ∃ f12_14 : Int, ∃ f13_15 : Nat, w[a0]? = some (zob 4 [zp f0_2, zp f1_3, zj f2_4, zj f3_5, zj f4_6, zj f5_7, zj f6_8, zp f7_9, zp f8_10, zj f9_11, zj f10_12, zj f11_13, zj f12_14, zp f13_15]) ∧ (∃ w_16 : List zE, Zc sc 70 [zp a0] w none w_16 0 0 ∧ (∃ f0_19 : Nat, ∃ f1_20 : Nat, ∃ f2_21 : Int, ∃ f3_22 : Int, ∃ f4_23 : Int, ∃ f5_24 : Int, ∃ f6_25 : Int, ∃ f7_26 : Nat, ∃ f8_27 : Nat, ∃ f9_28 : Int, ∃ f10_29 : Int, ∃ f11_30 : Int, ∃ f12_31 : Int, ∃ f13_32 : Nat, w_16[a0]? = some (zob 4 [zp f0_19, zp f1_20, zj f2_21, zj f3_22, zj f4_23, zj f5_24, zj f6_25, zp f7_26, zp f8_27, zj f9_28, zj f10_29, zj f11_30, zj f12_31, zp f13_32]) ∧ (∃ f0_34 : Nat, ∃ f1_35 : Nat, ∃ f2_36 : Int, w_16[f1_20]? = some (zob 3 [zp f0_34, zp f1_35, zj f2_36]) ∧ (∃ w_37 : List zE, Zc sc 74 [zp f1_20] w_16 none w_37 0 0 ∧ Zr sc 69 15 [zp a0, zj 0, zj 0, zmk] [] w_37 ov w' c s)))))) : Zr sc 69 0 [zp a0, zmk, zmk, zmk] [] w ov w' c s := by
  refine Zr_st (q := (1, [zp a0, zmk, zmk, zmk], [zp a0])) rfl rfl rfl ?_
  show Zr sc 69 1 [zp a0, zmk, zmk, zmk] [zp a0] w ov w' c s
  obtain ⟨f0_2, f1_3, f2_4, f3_5, f4_6, f5_7, f6_8, f7_9, f8_10, f9_11, f10_12, f11_13, f12_14, f13_15, hw_1, h⟩ := h
  obtain ⟨w_16, hk_17, h⟩ := h
  refine rn_cal0 (ins := .invokevirtual 148) (rest := []) rfl rfl rfl rfl (zinv_v (fs := _) hw_1 rfl rfl rfl rfl) rfl rfl hk_17 ?_
  show Zr sc 69 4 [zp a0, zmk, zmk, zmk] [] w_16 ov w' c s
  refine Zr_st (q := (5, [zp a0, zmk, zmk, zmk], [zp a0])) rfl rfl rfl ?_
  show Zr sc 69 5 [zp a0, zmk, zmk, zmk] [zp a0] w_16 ov w' c s
  obtain ⟨f0_19, f1_20, f2_21, f3_22, f4_23, f5_24, f6_25, f7_26, f8_27, f9_28, f10_29, f11_30, f12_31, f13_32, hw_18, h⟩ := h
  refine rl_gf rfl hw_18 rfl rfl ?_
  show Zr sc 69 8 [zp a0, zmk, zmk, zmk] [zp f1_20] w_16 ov w' c s
  obtain ⟨f0_34, f1_35, f2_36, hw_33, h⟩ := h
  obtain ⟨w_37, hk_38, h⟩ := h
  refine rn_cal0 (ins := .invokevirtual 151) (rest := []) rfl rfl rfl rfl (zinv_v (fs := _) hw_33 rfl rfl rfl rfl) rfl rfl hk_38 ?_
  show Zr sc 69 11 [zp a0, zmk, zmk, zmk] [] w_37 ov w' c s
  refine rl_ic rfl ?_
  show Zr sc 69 12 [zp a0, zmk, zmk, zmk] [zj 0] w_37 ov w' c s
  refine Zr_st (q := (13, [zp a0, zj 0, zmk, zmk], [])) rfl rfl rfl ?_
  show Zr sc 69 13 [zp a0, zj 0, zmk, zmk] [] w_37 ov w' c s
  refine rl_ic rfl ?_
  show Zr sc 69 14 [zp a0, zj 0, zmk, zmk] [zj 0] w_37 ov w' c s
  refine Zr_st (q := (15, [zp a0, zj 0, zj 0, zmk], [])) rfl rfl rfl ?_
  show Zr sc 69 15 [zp a0, zj 0, zj 0, zmk] [] w_37 ov w' c s
  exact h
set_option maxRecDepth 100000 in
theorem V69_15_4 {sc : List Value} {w w' : List zE} {ov : Option Value} {c s : Nat} {a0 : Nat} {x1 : Int} {x2 : Int} {v3 : Value} (h : (∃ f0_2 : Nat, ∃ f1_3 : Nat, ∃ f2_4 : Int, ∃ f3_5 : Int, ∃ f4_6 : Int, ∃ f5_7 : Int, ∃ f6_8 : Int, ∃ f7_9 : Nat, ∃ f8_10 : Nat, ∃ f9_11 : Int, ∃ f10_12 : Int, ∃ f11_13 : Int, ∃ f12_14 : Int, ∃ f13_15 : Nat, w[a0]? = some (zob 4 [zp f0_2, zp f1_3, zj f2_4, zj f3_5, zj f4_6, zj f5_7, zj f6_8, zp f7_9, zp f8_10, zj f9_11, zj f10_12, zj f11_13, zj f12_14, zp f13_15]) ∧ (∃ f0_17 : Nat, ∃ f1_18 : Nat, ∃ f2_19 : Nat, ∃ f3_20 : Nat, ∃ f4_21 : Int, ∃ f5_22 : Int, w[f0_2]? = some (zob 0 [zp f0_17, zp f1_18, zp f2_19, zp f3_20, zj f4_21, zj f5_22]) ∧ (∃ r_25 : Int, ∃ w_23 : List zE, Zc sc 18 [zp f0_2] w (some (zj r_25)) w_23 0 0 ∧ ((zrg x2 ∧ zrg r_25) ∧ ((r_25 ≤ x2 → (∃ f0_28 : Nat, ∃ f1_29 : Nat, ∃ f2_30 : Int, ∃ f3_31 : Int, ∃ f4_32 : Int, ∃ f5_33 : Int, ∃ f6_34 : Int, ∃ f7_35 : Nat, ∃ f8_36 : Nat, ∃ f9_37 : Int, ∃ f10_38 : Int, ∃ f11_39 : Int, ∃ f12_40 : Int, ∃ f13_41 : Nat, w_23[a0]? = some (zob 4 [zp f0_28, zp f1_29, zj f2_30, zj f3_31, zj f4_32, zj f5_33, zj f6_34, zp f7_35, zp f8_36, zj f9_37, zj f10_38, zj f11_39, zj f12_40, zp f13_41]) ∧ (∃ w_42 : List zE, Zc sc 79 [zp a0, zj x1, zj 1024] w_23 none w_42 0 0 ∧ (ov = none ∧ w' = w_42 ∧ c = 0 ∧ s = 0)))) ∧ (¬ (r_25 ≤ x2) → (∃ f0_45 : Nat, ∃ f1_46 : Nat, ∃ f2_47 : Int, ∃ f3_48 : Int, ∃ f4_49 : Int, ∃ f5_50 : Int, ∃ f6_51 : Int, ∃ f7_52 : Nat, ∃ f8_53 : Nat, ∃ f9_54 : Int, ∃ f10_55 : Int, ∃ f11_56 : Int, ∃ f12_57 : Int, ∃ f13_58 : Nat, w_23[a0]? = some (zob 4 [zp f0_45, zp f1_46, zj f2_47, zj f3_48, zj f4_49, zj f5_50, zj f6_51, zp f7_52, zp f8_53, zj f9_54, zj f10_55, zj f11_56, zj f12_57, zp f13_58]) ∧ (∃ f0_60 : Nat, ∃ f1_61 : Nat, ∃ f2_62 : Nat, ∃ f3_63 : Nat, ∃ f4_64 : Int, ∃ f5_65 : Int, w_23[f0_45]? = some (zob 0 [zp f0_60, zp f1_61, zp f2_62, zp f3_63, zj f4_64, zj f5_65]) ∧ (∃ r_68 : Int, ∃ w_66 : List zE, Zc sc 72 [zp f0_45, zj x2] w_23 (some (zj r_68)) w_66 0 0 ∧ (∃ f0_70 : Nat, ∃ f1_71 : Nat, ∃ f2_72 : Int, ∃ f3_73 : Int, ∃ f4_74 : Int, ∃ f5_75 : Int, ∃ f6_76 : Int, ∃ f7_77 : Nat, ∃ f8_78 : Nat, ∃ f9_79 : Int, ∃ f10_80 : Int, ∃ f11_81 : Int, ∃ f12_82 : Int, ∃ f13_83 : Nat, w_66[a0]? = some (zob 4 [zp f0_70, zp f1_71, zj f2_72, zj f3_73, zj f4_74, zj f5_75, zj f6_76, zp f7_77, zp f8_78, zj f9_79, zj f10_80, zj f11_81, zj f12_82, zp f13_83]) ∧ (∃ f0_85 : Nat, ∃ f1_86 : Nat, ∃ f2_87 : Nat, ∃ f3_88 : Nat, ∃ f4_89 : Int, ∃ f5_90 : Int, w_66[f0_70]? = some (zob 0 [zp f0_85, zp f1_86, zp f2_87, zp f3_88, zj f4_89, zj f5_90]) ∧ (∃ r_93 : Int, ∃ w_91 : List zE, Zc sc 9 [zp f0_70, zj r_68] w_66 (some (zj r_93)) w_91 0 0 ∧ (∃ f0_95 : Nat, ∃ f1_96 : Nat, ∃ f2_97 : Int, ∃ f3_98 : Int, ∃ f4_99 : Int, ∃ f5_100 : Int, ∃ f6_101 : Int, ∃ f7_102 : Nat, ∃ f8_103 : Nat, ∃ f9_104 : Int, ∃ f10_105 : Int, ∃ f11_106 : Int, ∃ f12_107 : Int, ∃ f13_108 : Nat, w_91[a0]? = some (zob 4 [zp f0_95, zp f1_96, zj f2_97, zj f3_98, zj f4_99, zj f5_100, zj f6_101, zp f7_102, zp f8_103, zj f9_104, zj f10_105, zj f11_106, zj f12_107, zp f13_108]) ∧ (∃ w_109 : List zE, Zc sc 79 [zp a0, zj x1, zj r_93] w_91 none w_109 0 0 ∧ (∃ f0_112 : Nat, ∃ f1_113 : Nat, ∃ f2_114 : Int, ∃ f3_115 : Int, ∃ f4_116 : Int, ∃ f5_117 : Int, ∃ f6_118 : Int, ∃ f7_119 : Nat, ∃ f8_120 : Nat, ∃ f9_121 : Int, ∃ f10_122 : Int, ∃ f11_123 : Int, ∃ f12_124 : Int, ∃ f13_125 : Nat, w_109[a0]? = some (zob 4 [zp f0_112, zp f1_113, zj f2_114, zj f3_115, zj f4_116, zj f5_117, zj f6_118, zp f7_119, zp f8_120, zj f9_121, zj f10_122, zj f11_123, zj f12_124, zp f13_125]) ∧ (∃ f0_127 : Nat, ∃ f1_128 : Nat, ∃ f2_129 : Nat, ∃ f3_130 : Nat, ∃ f4_131 : Int, ∃ f5_132 : Int, w_109[f0_112]? = some (zob 0 [zp f0_127, zp f1_128, zp f2_129, zp f3_130, zj f4_131, zj f5_132]) ∧ (∃ r_135 : Int, ∃ w_133 : List zE, Zc sc 16 [zp f0_112, zj r_68] w_109 (some (zj r_135)) w_133 0 0 ∧ Zr sc 69 15 [zp a0, zj r_135, zj (x2 + 1), zj r_68] [] w_133 ov w' c s)))))))))))))))))) : Zr sc 69 15 [zp a0, zj x1, zj x2, v3] [] w ov w' c s := by
  refine Zr_st (q := (16, [zp a0, zj x1, zj x2, v3], [zj x2])) rfl rfl rfl ?_
  show Zr sc 69 16 [zp a0, zj x1, zj x2, v3] [zj x2] w ov w' c s
  refine Zr_st (q := (17, [zp a0, zj x1, zj x2, v3], [zp a0, zj x2])) rfl rfl rfl ?_
  show Zr sc 69 17 [zp a0, zj x1, zj x2, v3] [zp a0, zj x2] w ov w' c s
  obtain ⟨f0_2, f1_3, f2_4, f3_5, f4_6, f5_7, f6_8, f7_9, f8_10, f9_11, f10_12, f11_13, f12_14, f13_15, hw_1, h⟩ := h
  refine rl_gf rfl hw_1 rfl rfl ?_
  show Zr sc 69 20 [zp a0, zj x1, zj x2, v3] [zp f0_2, zj x2] w ov w' c s
  obtain ⟨f0_17, f1_18, f2_19, f3_20, f4_21, f5_22, hw_16, h⟩ := h
  obtain ⟨r_25, w_23, hk_24, h⟩ := h
  refine rn_cal0 (ins := .invokevirtual 152) (rest := [zj x2]) rfl rfl rfl rfl (zinv_v (fs := _) hw_16 rfl rfl rfl rfl) rfl rfl hk_24 ?_
  show Zr sc 69 23 [zp a0, zj x1, zj x2, v3] [zj r_25, zj x2] w_23 ov w' c s
  obtain ⟨hr_26, h⟩ := h
  refine Zr_br (p := r_25 ≤ x2) rfl rfl (zcmp_j (cnd := .ge) hr_26.1 hr_26.2) (fun hp => ?_) (fun hp => ?_)
  · replace h := h.1 hp
    show Zr sc 69 63 [zp a0, zj x1, zj x2, v3] [] w_23 ov w' c s
    refine Zr_st (q := (64, [zp a0, zj x1, zj x2, v3], [zp a0])) rfl rfl rfl ?_
    show Zr sc 69 64 [zp a0, zj x1, zj x2, v3] [zp a0] w_23 ov w' c s
    refine Zr_st (q := (65, [zp a0, zj x1, zj x2, v3], [zj x1, zp a0])) rfl rfl rfl ?_
    show Zr sc 69 65 [zp a0, zj x1, zj x2, v3] [zj x1, zp a0] w_23 ov w' c s
    refine rl_si rfl (by decide) ?_
    show Zr sc 69 68 [zp a0, zj x1, zj x2, v3] [zj 1024, zj x1, zp a0] w_23 ov w' c s
    obtain ⟨f0_28, f1_29, f2_30, f3_31, f4_32, f5_33, f6_34, f7_35, f8_36, f9_37, f10_38, f11_39, f12_40, f13_41, hw_27, h⟩ := h
    obtain ⟨w_42, hk_43, h⟩ := h
    refine rn_cal0 (ins := .invokevirtual 156) (rest := []) rfl rfl rfl rfl (zinv_v (fs := _) hw_27 rfl rfl rfl rfl) rfl rfl hk_43 ?_
    show Zr sc 69 71 [zp a0, zj x1, zj x2, v3] [] w_42 ov w' c s
    obtain ⟨h1, h2, h3, h4⟩ := h
    subst h1; subst h2; subst h3; subst h4
    exact Zr_ret (ins := .return_) rfl rfl
  · replace h := h.2 hp
    show Zr sc 69 26 [zp a0, zj x1, zj x2, v3] [] w_23 ov w' c s
    refine Zr_st (q := (27, [zp a0, zj x1, zj x2, v3], [zp a0])) rfl rfl rfl ?_
    show Zr sc 69 27 [zp a0, zj x1, zj x2, v3] [zp a0] w_23 ov w' c s
    obtain ⟨f0_45, f1_46, f2_47, f3_48, f4_49, f5_50, f6_51, f7_52, f8_53, f9_54, f10_55, f11_56, f12_57, f13_58, hw_44, h⟩ := h
    refine rl_gf rfl hw_44 rfl rfl ?_
    show Zr sc 69 30 [zp a0, zj x1, zj x2, v3] [zp f0_45] w_23 ov w' c s
    refine Zr_st (q := (31, [zp a0, zj x1, zj x2, v3], [zj x2, zp f0_45])) rfl rfl rfl ?_
    show Zr sc 69 31 [zp a0, zj x1, zj x2, v3] [zj x2, zp f0_45] w_23 ov w' c s
    obtain ⟨f0_60, f1_61, f2_62, f3_63, f4_64, f5_65, hw_59, h⟩ := h
    obtain ⟨r_68, w_66, hk_67, h⟩ := h
    refine rn_cal0 (ins := .invokevirtual 153) (rest := []) rfl rfl rfl rfl (zinv_v (fs := _) hw_59 rfl rfl rfl rfl) rfl rfl hk_67 ?_
    show Zr sc 69 34 [zp a0, zj x1, zj x2, v3] [zj r_68] w_66 ov w' c s
    refine Zr_st (q := (35, [zp a0, zj x1, zj x2, zj r_68], [])) rfl rfl rfl ?_
    show Zr sc 69 35 [zp a0, zj x1, zj x2, zj r_68] [] w_66 ov w' c s
    refine Zr_st (q := (36, [zp a0, zj x1, zj x2, zj r_68], [zp a0])) rfl rfl rfl ?_
    show Zr sc 69 36 [zp a0, zj x1, zj x2, zj r_68] [zp a0] w_66 ov w' c s
    refine Zr_st (q := (37, [zp a0, zj x1, zj x2, zj r_68], [zj x1, zp a0])) rfl rfl rfl ?_
    show Zr sc 69 37 [zp a0, zj x1, zj x2, zj r_68] [zj x1, zp a0] w_66 ov w' c s
    refine Zr_st (q := (38, [zp a0, zj x1, zj x2, zj r_68], [zp a0, zj x1, zp a0])) rfl rfl rfl ?_
    show Zr sc 69 38 [zp a0, zj x1, zj x2, zj r_68] [zp a0, zj x1, zp a0] w_66 ov w' c s
    obtain ⟨f0_70, f1_71, f2_72, f3_73, f4_74, f5_75, f6_76, f7_77, f8_78, f9_79, f10_80, f11_81, f12_82, f13_83, hw_69, h⟩ := h
    refine rl_gf rfl hw_69 rfl rfl ?_
    show Zr sc 69 41 [zp a0, zj x1, zj x2, zj r_68] [zp f0_70, zj x1, zp a0] w_66 ov w' c s
    refine Zr_st (q := (42, [zp a0, zj x1, zj x2, zj r_68], [zj r_68, zp f0_70, zj x1, zp a0])) rfl rfl rfl ?_
    show Zr sc 69 42 [zp a0, zj x1, zj x2, zj r_68] [zj r_68, zp f0_70, zj x1, zp a0] w_66 ov w' c s
    obtain ⟨f0_85, f1_86, f2_87, f3_88, f4_89, f5_90, hw_84, h⟩ := h
    obtain ⟨r_93, w_91, hk_92, h⟩ := h
    refine rn_cal0 (ins := .invokevirtual 136) (rest := [zj x1, zp a0]) rfl rfl rfl rfl (zinv_v (fs := _) hw_84 rfl rfl rfl rfl) rfl rfl hk_92 ?_
    show Zr sc 69 45 [zp a0, zj x1, zj x2, zj r_68] [zj r_93, zj x1, zp a0] w_91 ov w' c s
    obtain ⟨f0_95, f1_96, f2_97, f3_98, f4_99, f5_100, f6_101, f7_102, f8_103, f9_104, f10_105, f11_106, f12_107, f13_108, hw_94, h⟩ := h
    obtain ⟨w_109, hk_110, h⟩ := h
    refine rn_cal0 (ins := .invokevirtual 156) (rest := []) rfl rfl rfl rfl (zinv_v (fs := _) hw_94 rfl rfl rfl rfl) rfl rfl hk_110 ?_
    show Zr sc 69 48 [zp a0, zj x1, zj x2, zj r_68] [] w_109 ov w' c s
    refine Zr_st (q := (49, [zp a0, zj x1, zj x2, zj r_68], [zp a0])) rfl rfl rfl ?_
    show Zr sc 69 49 [zp a0, zj x1, zj x2, zj r_68] [zp a0] w_109 ov w' c s
    obtain ⟨f0_112, f1_113, f2_114, f3_115, f4_116, f5_117, f6_118, f7_119, f8_120, f9_121, f10_122, f11_123, f12_124, f13_125, hw_111, h⟩ := h
    refine rl_gf rfl hw_111 rfl rfl ?_
    show Zr sc 69 52 [zp a0, zj x1, zj x2, zj r_68] [zp f0_112] w_109 ov w' c s
    refine Zr_st (q := (53, [zp a0, zj x1, zj x2, zj r_68], [zj r_68, zp f0_112])) rfl rfl rfl ?_
    show Zr sc 69 53 [zp a0, zj x1, zj x2, zj r_68] [zj r_68, zp f0_112] w_109 ov w' c s
    obtain ⟨f0_127, f1_128, f2_129, f3_130, f4_131, f5_132, hw_126, h⟩ := h
    obtain ⟨r_135, w_133, hk_134, h⟩ := h
    refine rn_cal0 (ins := .invokevirtual 159) (rest := []) rfl rfl rfl rfl (zinv_v (fs := _) hw_126 rfl rfl rfl rfl) rfl rfl hk_134 ?_
    show Zr sc 69 56 [zp a0, zj x1, zj x2, zj r_68] [zj r_135] w_133 ov w' c s
    refine Zr_st (q := (57, [zp a0, zj r_135, zj x2, zj r_68], [])) rfl rfl rfl ?_
    show Zr sc 69 57 [zp a0, zj r_135, zj x2, zj r_68] [] w_133 ov w' c s
    refine rl_inc rfl rfl rfl rfl ?_
    show Zr sc 69 60 [zp a0, zj r_135, zj (x2 + 1), zj r_68] [] w_133 ov w' c s
    refine Zr_st (q := (15, [zp a0, zj r_135, zj (x2 + 1), zj r_68], [])) rfl rfl rfl ?_
    show Zr sc 69 15 [zp a0, zj r_135, zj (x2 + 1), zj r_68] [] w_133 ov w' c s
    exact h

-- HeapwrightLab$Slabs.sortPages()V
set_option maxRecDepth 100000 in
theorem V70_0 {sc : List Value} {w w' : List zE} {ov : Option Value} {c s : Nat} {a0 : Nat} (h : (∃ f0_2 : Nat, ∃ f1_3 : Nat, ∃ f2_4 : Int, ∃ f3_5 : Int, ∃ f4_6 : Int, ∃ f5_7 : Int, ∃ f6_8 : Int, ∃ f7_9 : Nat, ∃ f8_10 : Nat, ∃ f9_11 : Int, ∃ f10_12 : Int, ∃ f11_13 : Int, ∃ f12_14 : Int, ∃ f13_15 : Nat, w[a0]? = some (zob 4 [zp f0_2, zp f1_3, zj f2_4, zj f3_5, zj f4_6, zj f5_7, zj f6_8, zp f7_9, zp f8_10, zj f9_11, zj f10_12, zj f11_13, zj f12_14, zp f13_15]) ∧ (∃ w_16 : List zE, Zc sc 71 [zp f13_15, zj 0] w none w_16 0 0 ∧ Zr sc 70 10 [zp a0, zj 0, zmk, zmk, zmk, zmk] [] w_16 ov w' c s))) : Zr sc 70 0 [zp a0, zmk, zmk, zmk, zmk, zmk] [] w ov w' c s := by
  refine Zr_st (q := (1, [zp a0, zmk, zmk, zmk, zmk, zmk], [zp a0])) rfl rfl rfl ?_
  show Zr sc 70 1 [zp a0, zmk, zmk, zmk, zmk, zmk] [zp a0] w ov w' c s
  obtain ⟨f0_2, f1_3, f2_4, f3_5, f4_6, f5_7, f6_8, f7_9, f8_10, f9_11, f10_12, f11_13, f12_14, f13_15, hw_1, h⟩ := h
  refine rl_gf rfl hw_1 rfl rfl ?_
  show Zr sc 70 4 [zp a0, zmk, zmk, zmk, zmk, zmk] [zp f13_15] w ov w' c s
  refine rl_ic rfl ?_
  show Zr sc 70 5 [zp a0, zmk, zmk, zmk, zmk, zmk] [zj 0, zp f13_15] w ov w' c s
  obtain ⟨w_16, hk_17, h⟩ := h
  refine rn_cal0 (ins := .invokestatic 57) (rest := []) rfl rfl rfl rfl (zinv_t rfl rfl rfl rfl) rfl rfl hk_17 ?_
  show Zr sc 70 8 [zp a0, zmk, zmk, zmk, zmk, zmk] [] w_16 ov w' c s
  refine rl_ic rfl ?_
  show Zr sc 70 9 [zp a0, zmk, zmk, zmk, zmk, zmk] [zj 0] w_16 ov w' c s
  refine Zr_st (q := (10, [zp a0, zj 0, zmk, zmk, zmk, zmk], [])) rfl rfl rfl ?_
  show Zr sc 70 10 [zp a0, zj 0, zmk, zmk, zmk, zmk] [] w_16 ov w' c s
  exact h
set_option maxRecDepth 100000 in
theorem V70_10 {sc : List Value} {w w' : List zE} {ov : Option Value} {c s : Nat} {a0 : Nat} {x1 : Int} {v2 : Value} {v3 : Value} {v4 : Value} {v5 : Value} (h : (∃ f0_2 : Nat, ∃ f1_3 : Nat, ∃ f2_4 : Int, ∃ f3_5 : Int, ∃ f4_6 : Int, ∃ f5_7 : Int, ∃ f6_8 : Int, ∃ f7_9 : Nat, ∃ f8_10 : Nat, ∃ f9_11 : Int, ∃ f10_12 : Int, ∃ f11_13 : Int, ∃ f12_14 : Int, ∃ f13_15 : Nat, w[a0]? = some (zob 4 [zp f0_2, zp f1_3, zj f2_4, zj f3_5, zj f4_6, zj f5_7, zj f6_8, zp f7_9, zp f8_10, zj f9_11, zj f10_12, zj f11_13, zj f12_14, zp f13_15]) ∧ (∃ f0_17 : Nat, ∃ f1_18 : Nat, ∃ f2_19 : Nat, ∃ f3_20 : Nat, ∃ f4_21 : Int, ∃ f5_22 : Int, w[f0_2]? = some (zob 0 [zp f0_17, zp f1_18, zp f2_19, zp f3_20, zj f4_21, zj f5_22]) ∧ (∃ r_25 : Int, ∃ w_23 : List zE, Zc sc 18 [zp f0_2] w (some (zj r_25)) w_23 0 0 ∧ ((zrg x1 ∧ zrg r_25) ∧ ((r_25 ≤ x1 → (ov = none ∧ w' = w_23 ∧ c = 0 ∧ s = 0)) ∧ (¬ (r_25 ≤ x1) → (∃ f0_28 : Nat, ∃ f1_29 : Nat, ∃ f2_30 : Int, ∃ f3_31 : Int, ∃ f4_32 : Int, ∃ f5_33 : Int, ∃ f6_34 : Int, ∃ f7_35 : Nat, ∃ f8_36 : Nat, ∃ f9_37 : Int, ∃ f10_38 : Int, ∃ f11_39 : Int, ∃ f12_40 : Int, ∃ f13_41 : Nat, w_23[a0]? = some (zob 4 [zp f0_28, zp f1_29, zj f2_30, zj f3_31, zj f4_32, zj f5_33, zj f6_34, zp f7_35, zp f8_36, zj f9_37, zj f10_38, zj f11_39, zj f12_40, zp f13_41]) ∧ (∃ f0_43 : Nat, ∃ f1_44 : Nat, ∃ f2_45 : Nat, ∃ f3_46 : Nat, ∃ f4_47 : Int, ∃ f5_48 : Int, w_23[f0_28]? = some (zob 0 [zp f0_43, zp f1_44, zp f2_45, zp f3_46, zj f4_47, zj f5_48]) ∧ (∃ r_51 : Int, ∃ w_49 : List zE, Zc sc 72 [zp f0_28, zj x1] w_23 (some (zj r_51)) w_49 0 0 ∧ (∃ f0_53 : Nat, ∃ f1_54 : Nat, ∃ f2_55 : Int, ∃ f3_56 : Int, ∃ f4_57 : Int, ∃ f5_58 : Int, ∃ f6_59 : Int, ∃ f7_60 : Nat, ∃ f8_61 : Nat, ∃ f9_62 : Int, ∃ f10_63 : Int, ∃ f11_64 : Int, ∃ f12_65 : Int, ∃ f13_66 : Nat, w_49[a0]? = some (zob 4 [zp f0_53, zp f1_54, zj f2_55, zj f3_56, zj f4_57, zj f5_58, zj f6_59, zp f7_60, zp f8_61, zj f9_62, zj f10_63, zj f11_64, zj f12_65, zp f13_66]) ∧ (∃ f0_68 : Nat, ∃ f1_69 : Nat, ∃ f2_70 : Nat, ∃ f3_71 : Nat, ∃ f4_72 : Int, ∃ f5_73 : Int, w_49[f0_53]? = some (zob 0 [zp f0_68, zp f1_69, zp f2_70, zp f3_71, zj f4_72, zj f5_73]) ∧ (∃ r_76 : Int, ∃ w_74 : List zE, Zc sc 13 [zp f0_53, zj r_51] w_49 (some (zj r_76)) w_74 0 0 ∧ ((zrg r_76 ∧ zrg 128) ∧ ((128 < r_76 → (∃ f0_79 : Nat, ∃ f1_80 : Nat, ∃ f2_81 : Int, ∃ f3_82 : Int, ∃ f4_83 : Int, ∃ f5_84 : Int, ∃ f6_85 : Int, ∃ f7_86 : Nat, ∃ f8_87 : Nat, ∃ f9_88 : Int, ∃ f10_89 : Int, ∃ f11_90 : Int, ∃ f12_91 : Int, ∃ f13_92 : Nat, w_74[a0]? = some (zob 4 [zp f0_79, zp f1_80, zj f2_81, zj f3_82, zj f4_83, zj f5_84, zj f6_85, zp f7_86, zp f8_87, zj f9_88, zj f10_89, zj f11_90, zj f12_91, zp f13_92]) ∧ (∃ f0_94 : Nat, ∃ f1_95 : Nat, ∃ f2_96 : Nat, ∃ f3_97 : Nat, ∃ f4_98 : Int, ∃ f5_99 : Int, w_74[f0_79]? = some (zob 0 [zp f0_94, zp f1_95, zp f2_96, zp f3_97, zj f4_98, zj f5_99]) ∧ (∃ r_102 : Int, ∃ w_100 : List zE, Zc sc 9 [zp f0_79, zj r_51] w_74 (some (zj r_102)) w_100 0 0 ∧ (((0 : Int) ≤ r_102 ∧ r_102 ≤ (2147483647 : Int) ∧ (0 : Int) < 128 ∧ 128 ≤ (2147483647 : Int)) ∧ ((zrg (r_102 / 128) ∧ zrg 0) ∧ Zr sc 70 79 [zp a0, zj x1, zj r_51, zj (-1), zj (max (r_102 / 128) 0), zj (max (r_102 / 128) 0)] [] w_100 ov w' c s)))))) ∧ (¬ (128 < r_76) → (∃ f0_106 : Nat, ∃ f1_107 : Nat, ∃ f2_108 : Int, ∃ f3_109 : Int, ∃ f4_110 : Int, ∃ f5_111 : Int, ∃ f6_112 : Int, ∃ f7_113 : Nat, ∃ f8_114 : Nat, ∃ f9_115 : Int, ∃ f10_116 : Int, ∃ f11_117 : Int, ∃ f12_118 : Int, ∃ f13_119 : Nat, w_74[a0]? = some (zob 4 [zp f0_106, zp f1_107, zj f2_108, zj f3_109, zj f4_110, zj f5_111, zj f6_112, zp f7_113, zp f8_114, zj f9_115, zj f10_116, zj f11_117, zj f12_118, zp f13_119]) ∧ (∃ f0_121 : Nat, ∃ f1_122 : Nat, ∃ f2_123 : Nat, ∃ f3_124 : Nat, ∃ f4_125 : Int, ∃ f5_126 : Int, w_74[f0_106]? = some (zob 0 [zp f0_121, zp f1_122, zp f2_123, zp f3_124, zj f4_125, zj f5_126]) ∧ (∃ r_129 : Int, ∃ w_127 : List zE, Zc sc 13 [zp f0_106, zj r_51] w_74 (some (zj r_129)) w_127 0 0 ∧ (∃ f0_131 : Nat, ∃ f1_132 : Nat, ∃ f2_133 : Int, ∃ f3_134 : Int, ∃ f4_135 : Int, ∃ f5_136 : Int, ∃ f6_137 : Int, ∃ f7_138 : Nat, ∃ f8_139 : Nat, ∃ f9_140 : Int, ∃ f10_141 : Int, ∃ f11_142 : Int, ∃ f12_143 : Int, ∃ f13_144 : Nat, w_127[a0]? = some (zob 4 [zp f0_131, zp f1_132, zj f2_133, zj f3_134, zj f4_135, zj f5_136, zj f6_137, zp f7_138, zp f8_139, zj f9_140, zj f10_141, zj f11_142, zj f12_143, zp f13_144]) ∧ (∃ f0_146 : Nat, ∃ f1_147 : Nat, ∃ f2_148 : Nat, ∃ f3_149 : Nat, ∃ f4_150 : Int, ∃ f5_151 : Int, w_127[f0_131]? = some (zob 0 [zp f0_146, zp f1_147, zp f2_148, zp f3_149, zj f4_150, zj f5_151]) ∧ (∃ r_154 : Int, ∃ w_152 : List zE, Zc sc 9 [zp f0_131, zj r_51] w_127 (some (zj r_154)) w_152 0 0 ∧ (((0 : Int) ≤ r_154 ∧ r_154 ≤ (2147483647 : Int) ∧ (0 : Int) < 128 ∧ 128 ≤ (2147483647 : Int)) ∧ ((zrg (r_154 / 128) ∧ zrg 0) ∧ Zr sc 70 79 [zp a0, zj x1, zj r_51, zj r_129, zj (max (r_154 / 128) 0), zj (max (r_154 / 128) 0)] [] w_152 ov w' c s)))))))))))))))))))))))) : Zr sc 70 10 [zp a0, zj x1, v2, v3, v4, v5] [] w ov w' c s := by
  refine Zr_st (q := (11, [zp a0, zj x1, v2, v3, v4, v5], [zj x1])) rfl rfl rfl ?_
  show Zr sc 70 11 [zp a0, zj x1, v2, v3, v4, v5] [zj x1] w ov w' c s
  refine Zr_st (q := (12, [zp a0, zj x1, v2, v3, v4, v5], [zp a0, zj x1])) rfl rfl rfl ?_
  show Zr sc 70 12 [zp a0, zj x1, v2, v3, v4, v5] [zp a0, zj x1] w ov w' c s
  obtain ⟨f0_2, f1_3, f2_4, f3_5, f4_6, f5_7, f6_8, f7_9, f8_10, f9_11, f10_12, f11_13, f12_14, f13_15, hw_1, h⟩ := h
  refine rl_gf rfl hw_1 rfl rfl ?_
  show Zr sc 70 15 [zp a0, zj x1, v2, v3, v4, v5] [zp f0_2, zj x1] w ov w' c s
  obtain ⟨f0_17, f1_18, f2_19, f3_20, f4_21, f5_22, hw_16, h⟩ := h
  obtain ⟨r_25, w_23, hk_24, h⟩ := h
  refine rn_cal0 (ins := .invokevirtual 67) (rest := [zj x1]) rfl rfl rfl rfl (zinv_v (fs := _) hw_16 rfl rfl rfl rfl) rfl rfl hk_24 ?_
  show Zr sc 70 18 [zp a0, zj x1, v2, v3, v4, v5] [zj r_25, zj x1] w_23 ov w' c s
  obtain ⟨hr_26, h⟩ := h
  refine Zr_br (p := r_25 ≤ x1) rfl rfl (zcmp_j (cnd := .ge) hr_26.1 hr_26.2) (fun hp => ?_) (fun hp => ?_)
  · replace h := h.1 hp
    show Zr sc 70 123 [zp a0, zj x1, v2, v3, v4, v5] [] w_23 ov w' c s
    obtain ⟨h1, h2, h3, h4⟩ := h
    subst h1; subst h2; subst h3; subst h4
    exact Zr_ret (ins := .return_) rfl rfl
  · replace h := h.2 hp
    show Zr sc 70 21 [zp a0, zj x1, v2, v3, v4, v5] [] w_23 ov w' c s
    refine Zr_st (q := (22, [zp a0, zj x1, v2, v3, v4, v5], [zp a0])) rfl rfl rfl ?_
    show Zr sc 70 22 [zp a0, zj x1, v2, v3, v4, v5] [zp a0] w_23 ov w' c s
    obtain ⟨f0_28, f1_29, f2_30, f3_31, f4_32, f5_33, f6_34, f7_35, f8_36, f9_37, f10_38, f11_39, f12_40, f13_41, hw_27, h⟩ := h
    refine rl_gf rfl hw_27 rfl rfl ?_
    show Zr sc 70 25 [zp a0, zj x1, v2, v3, v4, v5] [zp f0_28] w_23 ov w' c s
    refine Zr_st (q := (26, [zp a0, zj x1, v2, v3, v4, v5], [zj x1, zp f0_28])) rfl rfl rfl ?_
    show Zr sc 70 26 [zp a0, zj x1, v2, v3, v4, v5] [zj x1, zp f0_28] w_23 ov w' c s
    obtain ⟨f0_43, f1_44, f2_45, f3_46, f4_47, f5_48, hw_42, h⟩ := h
    obtain ⟨r_51, w_49, hk_50, h⟩ := h
    refine rn_cal0 (ins := .invokevirtual 73) (rest := []) rfl rfl rfl rfl (zinv_v (fs := _) hw_42 rfl rfl rfl rfl) rfl rfl hk_50 ?_
    show Zr sc 70 29 [zp a0, zj x1, v2, v3, v4, v5] [zj r_51] w_49 ov w' c s
    refine Zr_st (q := (30, [zp a0, zj x1, zj r_51, v3, v4, v5], [])) rfl rfl rfl ?_
    show Zr sc 70 30 [zp a0, zj x1, zj r_51, v3, v4, v5] [] w_49 ov w' c s
    refine Zr_st (q := (31, [zp a0, zj x1, zj r_51, v3, v4, v5], [zp a0])) rfl rfl rfl ?_
    show Zr sc 70 31 [zp a0, zj x1, zj r_51, v3, v4, v5] [zp a0] w_49 ov w' c s
    obtain ⟨f0_53, f1_54, f2_55, f3_56, f4_57, f5_58, f6_59, f7_60, f8_61, f9_62, f10_63, f11_64, f12_65, f13_66, hw_52, h⟩ := h
    refine rl_gf rfl hw_52 rfl rfl ?_
    show Zr sc 70 34 [zp a0, zj x1, zj r_51, v3, v4, v5] [zp f0_53] w_49 ov w' c s
    refine Zr_st (q := (35, [zp a0, zj x1, zj r_51, v3, v4, v5], [zj r_51, zp f0_53])) rfl rfl rfl ?_
    show Zr sc 70 35 [zp a0, zj x1, zj r_51, v3, v4, v5] [zj r_51, zp f0_53] w_49 ov w' c s
    obtain ⟨f0_68, f1_69, f2_70, f3_71, f4_72, f5_73, hw_67, h⟩ := h
    obtain ⟨r_76, w_74, hk_75, h⟩ := h
    refine rn_cal0 (ins := .invokevirtual 76) (rest := []) rfl rfl rfl rfl (zinv_v (fs := _) hw_67 rfl rfl rfl rfl) rfl rfl hk_75 ?_
    show Zr sc 70 38 [zp a0, zj x1, zj r_51, v3, v4, v5] [zj r_76] w_74 ov w' c s
    refine rl_si rfl (by decide) ?_
    show Zr sc 70 41 [zp a0, zj x1, zj r_51, v3, v4, v5] [zj 128, zj r_76] w_74 ov w' c s
    obtain ⟨hr_77, h⟩ := h
    refine Zr_br (p := 128 < r_76) rfl rfl (zcmp_j (cnd := .gt) hr_77.1 hr_77.2) (fun hp => ?_) (fun hp => ?_)
    · replace h := h.1 hp
      show Zr sc 70 55 [zp a0, zj x1, zj r_51, v3, v4, v5] [] w_74 ov w' c s
      refine rl_ic rfl ?_
      show Zr sc 70 56 [zp a0, zj x1, zj r_51, v3, v4, v5] [zj (-1)] w_74 ov w' c s
      refine Zr_st (q := (57, [zp a0, zj x1, zj r_51, zj (-1), v4, v5], [])) rfl rfl rfl ?_
      show Zr sc 70 57 [zp a0, zj x1, zj r_51, zj (-1), v4, v5] [] w_74 ov w' c s
      refine Zr_st (q := (58, [zp a0, zj x1, zj r_51, zj (-1), v4, v5], [zp a0])) rfl rfl rfl ?_
      show Zr sc 70 58 [zp a0, zj x1, zj r_51, zj (-1), v4, v5] [zp a0] w_74 ov w' c s
      obtain ⟨f0_79, f1_80, f2_81, f3_82, f4_83, f5_84, f6_85, f7_86, f8_87, f9_88, f10_89, f11_90, f12_91, f13_92, hw_78, h⟩ := h
      refine rl_gf rfl hw_78 rfl rfl ?_
      show Zr sc 70 61 [zp a0, zj x1, zj r_51, zj (-1), v4, v5] [zp f0_79] w_74 ov w' c s
      refine Zr_st (q := (62, [zp a0, zj x1, zj r_51, zj (-1), v4, v5], [zj r_51, zp f0_79])) rfl rfl rfl ?_
      show Zr sc 70 62 [zp a0, zj x1, zj r_51, zj (-1), v4, v5] [zj r_51, zp f0_79] w_74 ov w' c s
      obtain ⟨f0_94, f1_95, f2_96, f3_97, f4_98, f5_99, hw_93, h⟩ := h
      obtain ⟨r_102, w_100, hk_101, h⟩ := h
      refine rn_cal0 (ins := .invokevirtual 79) (rest := []) rfl rfl rfl rfl (zinv_v (fs := _) hw_93 rfl rfl rfl rfl) rfl rfl hk_101 ?_
      show Zr sc 70 65 [zp a0, zj x1, zj r_51, zj (-1), v4, v5] [zj r_102] w_100 ov w' c s
      refine rl_si rfl (by decide) ?_
      show Zr sc 70 68 [zp a0, zj x1, zj r_51, zj (-1), v4, v5] [zj 128, zj r_102] w_100 ov w' c s
      obtain ⟨hd_103, h⟩ := h
      refine rl_div rfl hd_103.1 hd_103.2.1 hd_103.2.2.1 hd_103.2.2.2 ?_
      show Zr sc 70 69 [zp a0, zj x1, zj r_51, zj (-1), v4, v5] [zj (r_102 / 128)] w_100 ov w' c s
      refine rl_ic rfl ?_
      show Zr sc 70 70 [zp a0, zj x1, zj r_51, zj (-1), v4, v5] [zj 0, zj (r_102 / 128)] w_100 ov w' c s
      obtain ⟨hm_104, h⟩ := h
      refine Zr_mx (b := true) (ins := .invokestatic 42) (rest := []) rfl rfl rfl rfl (zinv_t2 (rest := []) rfl rfl rfl rfl rfl) rfl (zmx_j hm_104.1 hm_104.2) ?_
      show Zr sc 70 73 [zp a0, zj x1, zj r_51, zj (-1), v4, v5] [zj (max (r_102 / 128) 0)] w_100 ov w' c s
      refine Zr_st (q := (75, [zp a0, zj x1, zj r_51, zj (-1), zj (max (r_102 / 128) 0), v5], [])) rfl rfl rfl ?_
      show Zr sc 70 75 [zp a0, zj x1, zj r_51, zj (-1), zj (max (r_102 / 128) 0), v5] [] w_100 ov w' c s
      refine Zr_st (q := (77, [zp a0, zj x1, zj r_51, zj (-1), zj (max (r_102 / 128) 0), v5], [zj (max (r_102 / 128) 0)])) rfl rfl rfl ?_
      show Zr sc 70 77 [zp a0, zj x1, zj r_51, zj (-1), zj (max (r_102 / 128) 0), v5] [zj (max (r_102 / 128) 0)] w_100 ov w' c s
      refine Zr_st (q := (79, [zp a0, zj x1, zj r_51, zj (-1), zj (max (r_102 / 128) 0), zj (max (r_102 / 128) 0)], [])) rfl rfl rfl ?_
      show Zr sc 70 79 [zp a0, zj x1, zj r_51, zj (-1), zj (max (r_102 / 128) 0), zj (max (r_102 / 128) 0)] [] w_100 ov w' c s
      exact h
    · replace h := h.2 hp
      show Zr sc 70 44 [zp a0, zj x1, zj r_51, v3, v4, v5] [] w_74 ov w' c s
      refine Zr_st (q := (45, [zp a0, zj x1, zj r_51, v3, v4, v5], [zp a0])) rfl rfl rfl ?_
      show Zr sc 70 45 [zp a0, zj x1, zj r_51, v3, v4, v5] [zp a0] w_74 ov w' c s
      obtain ⟨f0_106, f1_107, f2_108, f3_109, f4_110, f5_111, f6_112, f7_113, f8_114, f9_115, f10_116, f11_117, f12_118, f13_119, hw_105, h⟩ := h
      refine rl_gf rfl hw_105 rfl rfl ?_
      show Zr sc 70 48 [zp a0, zj x1, zj r_51, v3, v4, v5] [zp f0_106] w_74 ov w' c s
      refine Zr_st (q := (49, [zp a0, zj x1, zj r_51, v3, v4, v5], [zj r_51, zp f0_106])) rfl rfl rfl ?_
      show Zr sc 70 49 [zp a0, zj x1, zj r_51, v3, v4, v5] [zj r_51, zp f0_106] w_74 ov w' c s
      obtain ⟨f0_121, f1_122, f2_123, f3_124, f4_125, f5_126, hw_120, h⟩ := h
      obtain ⟨r_129, w_127, hk_128, h⟩ := h
      refine rn_cal0 (ins := .invokevirtual 76) (rest := []) rfl rfl rfl rfl (zinv_v (fs := _) hw_120 rfl rfl rfl rfl) rfl rfl hk_128 ?_
      show Zr sc 70 52 [zp a0, zj x1, zj r_51, v3, v4, v5] [zj r_129] w_127 ov w' c s
      refine Zr_st (q := (56, [zp a0, zj x1, zj r_51, v3, v4, v5], [zj r_129])) rfl rfl rfl ?_
      show Zr sc 70 56 [zp a0, zj x1, zj r_51, v3, v4, v5] [zj r_129] w_127 ov w' c s
      refine Zr_st (q := (57, [zp a0, zj x1, zj r_51, zj r_129, v4, v5], [])) rfl rfl rfl ?_
      show Zr sc 70 57 [zp a0, zj x1, zj r_51, zj r_129, v4, v5] [] w_127 ov w' c s
      refine Zr_st (q := (58, [zp a0, zj x1, zj r_51, zj r_129, v4, v5], [zp a0])) rfl rfl rfl ?_
      show Zr sc 70 58 [zp a0, zj x1, zj r_51, zj r_129, v4, v5] [zp a0] w_127 ov w' c s
      obtain ⟨f0_131, f1_132, f2_133, f3_134, f4_135, f5_136, f6_137, f7_138, f8_139, f9_140, f10_141, f11_142, f12_143, f13_144, hw_130, h⟩ := h
      refine rl_gf rfl hw_130 rfl rfl ?_
      show Zr sc 70 61 [zp a0, zj x1, zj r_51, zj r_129, v4, v5] [zp f0_131] w_127 ov w' c s
      refine Zr_st (q := (62, [zp a0, zj x1, zj r_51, zj r_129, v4, v5], [zj r_51, zp f0_131])) rfl rfl rfl ?_
      show Zr sc 70 62 [zp a0, zj x1, zj r_51, zj r_129, v4, v5] [zj r_51, zp f0_131] w_127 ov w' c s
      obtain ⟨f0_146, f1_147, f2_148, f3_149, f4_150, f5_151, hw_145, h⟩ := h
      obtain ⟨r_154, w_152, hk_153, h⟩ := h
      refine rn_cal0 (ins := .invokevirtual 79) (rest := []) rfl rfl rfl rfl (zinv_v (fs := _) hw_145 rfl rfl rfl rfl) rfl rfl hk_153 ?_
      show Zr sc 70 65 [zp a0, zj x1, zj r_51, zj r_129, v4, v5] [zj r_154] w_152 ov w' c s
      refine rl_si rfl (by decide) ?_
      show Zr sc 70 68 [zp a0, zj x1, zj r_51, zj r_129, v4, v5] [zj 128, zj r_154] w_152 ov w' c s
      obtain ⟨hd_155, h⟩ := h
      refine rl_div rfl hd_155.1 hd_155.2.1 hd_155.2.2.1 hd_155.2.2.2 ?_
      show Zr sc 70 69 [zp a0, zj x1, zj r_51, zj r_129, v4, v5] [zj (r_154 / 128)] w_152 ov w' c s
      refine rl_ic rfl ?_
      show Zr sc 70 70 [zp a0, zj x1, zj r_51, zj r_129, v4, v5] [zj 0, zj (r_154 / 128)] w_152 ov w' c s
      obtain ⟨hm_156, h⟩ := h
      refine Zr_mx (b := true) (ins := .invokestatic 42) (rest := []) rfl rfl rfl rfl (zinv_t2 (rest := []) rfl rfl rfl rfl rfl) rfl (zmx_j hm_156.1 hm_156.2) ?_
      show Zr sc 70 73 [zp a0, zj x1, zj r_51, zj r_129, v4, v5] [zj (max (r_154 / 128) 0)] w_152 ov w' c s
      refine Zr_st (q := (75, [zp a0, zj x1, zj r_51, zj r_129, zj (max (r_154 / 128) 0), v5], [])) rfl rfl rfl ?_
      show Zr sc 70 75 [zp a0, zj x1, zj r_51, zj r_129, zj (max (r_154 / 128) 0), v5] [] w_152 ov w' c s
      refine Zr_st (q := (77, [zp a0, zj x1, zj r_51, zj r_129, zj (max (r_154 / 128) 0), v5], [zj (max (r_154 / 128) 0)])) rfl rfl rfl ?_
      show Zr sc 70 77 [zp a0, zj x1, zj r_51, zj r_129, zj (max (r_154 / 128) 0), v5] [zj (max (r_154 / 128) 0)] w_152 ov w' c s
      refine Zr_st (q := (79, [zp a0, zj x1, zj r_51, zj r_129, zj (max (r_154 / 128) 0), zj (max (r_154 / 128) 0)], [])) rfl rfl rfl ?_
      show Zr sc 70 79 [zp a0, zj x1, zj r_51, zj r_129, zj (max (r_154 / 128) 0), zj (max (r_154 / 128) 0)] [] w_152 ov w' c s
      exact h
set_option maxRecDepth 100000 in
theorem V70_79 {sc : List Value} {w w' : List zE} {ov : Option Value} {c s : Nat} {a0 : Nat} {x1 : Int} {x2 : Int} {x3 : Int} {x4 : Int} {x5 : Int} (h : ((zrg x5 ∧ zrg 8) ∧ ((8 ≤ x5 → Zr sc 70 10 [zp a0, zj (x1 + 1), zj x2, zj x3, zj x4, zj x5] [] w ov w' c s) ∧ (¬ (8 ≤ x5) → (∃ f0_3 : Nat, ∃ f1_4 : Nat, ∃ f2_5 : Int, ∃ f3_6 : Int, ∃ f4_7 : Int, ∃ f5_8 : Int, ∃ f6_9 : Int, ∃ f7_10 : Nat, ∃ f8_11 : Nat, ∃ f9_12 : Int, ∃ f10_13 : Int, ∃ f11_14 : Int, ∃ f12_15 : Int, ∃ f13_16 : Nat, w[a0]? = some (zob 4 [zp f0_3, zp f1_4, zj f2_5, zj f3_6, zj f4_7, zj f5_8, zj f6_9, zp f7_10, zp f8_11, zj f9_12, zj f10_13, zj f11_14, zj f12_15, zp f13_16]) ∧ (∃ f0_18 : Nat, ∃ f1_19 : Nat, ∃ f2_20 : Nat, ∃ f3_21 : Nat, ∃ f4_22 : Int, ∃ f5_23 : Int, w[f0_3]? = some (zob 0 [zp f0_18, zp f1_19, zp f2_20, zp f3_21, zj f4_22, zj f5_23]) ∧ (∃ r_26 : Int, ∃ w_24 : List zE, Zc sc 16 [zp f0_3, zj x2] w (some (zj r_26)) w_24 0 0 ∧ ((zrg (x5 * 128) ∧ zrg r_26) ∧ ((r_26 ≤ (x5 * 128) → Zr sc 70 10 [zp a0, zj (x1 + 1), zj x2, zj x3, zj x4, zj x5] [] w_24 ov w' c s) ∧ (¬ (r_26 ≤ (x5 * 128)) → (∃ f0_29 : Nat, ∃ f1_30 : Nat, ∃ f2_31 : Int, ∃ f3_32 : Int, ∃ f4_33 : Int, ∃ f5_34 : Int, ∃ f6_35 : Int, ∃ f7_36 : Nat, ∃ f8_37 : Nat, ∃ f9_38 : Int, ∃ f10_39 : Int, ∃ f11_40 : Int, ∃ f12_41 : Int, ∃ f13_42 : Nat, w_24[a0]? = some (zob 4 [zp f0_29, zp f1_30, zj f2_31, zj f3_32, zj f4_33, zj f5_34, zj f6_35, zp f7_36, zp f8_37, zj f9_38, zj f10_39, zj f11_40, zj f12_41, zp f13_42]) ∧ (∃ l_45 : List Int, w_24[f13_42]? = some (za l_45) ∧ ((0 ≤ x5 ∧ x5 < (l_45.length : Int) ∧ x5 ≤ 2147483647) ∧ Zr sc 70 79 [zp a0, zj x1, zj x2, zj x3, zj x4, zj (x5 + 1)] [] (w_24.set f13_42 (za (zsi l_45 x5 x3))) ov w' c s))))))))))))) : Zr sc 70 79 [zp a0, zj x1, zj x2, zj x3, zj x4, zj x5] [] w ov w' c s := by
  refine Zr_st (q := (81, [zp a0, zj x1, zj x2, zj x3, zj x4, zj x5], [zj x5])) rfl rfl rfl ?_
  show Zr sc 70 81 [zp a0, zj x1, zj x2, zj x3, zj x4, zj x5] [zj x5] w ov w' c s
  refine rl_bi rfl (by decide) ?_
  show Zr sc 70 83 [zp a0, zj x1, zj x2, zj x3, zj x4, zj x5] [zj 8, zj x5] w ov w' c s
  obtain ⟨hr_1, h⟩ := h
  refine Zr_br (p := 8 ≤ x5) rfl rfl (zcmp_j (cnd := .ge) hr_1.1 hr_1.2) (fun hp => ?_) (fun hp => ?_)
  · replace h := h.1 hp
    show Zr sc 70 117 [zp a0, zj x1, zj x2, zj x3, zj x4, zj x5] [] w ov w' c s
    refine rl_inc rfl rfl rfl rfl ?_
    show Zr sc 70 120 [zp a0, zj (x1 + 1), zj x2, zj x3, zj x4, zj x5] [] w ov w' c s
    refine Zr_st (q := (10, [zp a0, zj (x1 + 1), zj x2, zj x3, zj x4, zj x5], [])) rfl rfl rfl ?_
    show Zr sc 70 10 [zp a0, zj (x1 + 1), zj x2, zj x3, zj x4, zj x5] [] w ov w' c s
    exact h
  · replace h := h.2 hp
    show Zr sc 70 86 [zp a0, zj x1, zj x2, zj x3, zj x4, zj x5] [] w ov w' c s
    refine Zr_st (q := (88, [zp a0, zj x1, zj x2, zj x3, zj x4, zj x5], [zj x5])) rfl rfl rfl ?_
    show Zr sc 70 88 [zp a0, zj x1, zj x2, zj x3, zj x4, zj x5] [zj x5] w ov w' c s
    refine rl_si rfl (by decide) ?_
    show Zr sc 70 91 [zp a0, zj x1, zj x2, zj x3, zj x4, zj x5] [zj 128, zj x5] w ov w' c s
    refine rl_mul rfl ?_
    show Zr sc 70 92 [zp a0, zj x1, zj x2, zj x3, zj x4, zj x5] [zj (x5 * 128)] w ov w' c s
    refine Zr_st (q := (93, [zp a0, zj x1, zj x2, zj x3, zj x4, zj x5], [zp a0, zj (x5 * 128)])) rfl rfl rfl ?_
    show Zr sc 70 93 [zp a0, zj x1, zj x2, zj x3, zj x4, zj x5] [zp a0, zj (x5 * 128)] w ov w' c s
    obtain ⟨f0_3, f1_4, f2_5, f3_6, f4_7, f5_8, f6_9, f7_10, f8_11, f9_12, f10_13, f11_14, f12_15, f13_16, hw_2, h⟩ := h
    refine rl_gf rfl hw_2 rfl rfl ?_
    show Zr sc 70 96 [zp a0, zj x1, zj x2, zj x3, zj x4, zj x5] [zp f0_3, zj (x5 * 128)] w ov w' c s
    refine Zr_st (q := (97, [zp a0, zj x1, zj x2, zj x3, zj x4, zj x5], [zj x2, zp f0_3, zj (x5 * 128)])) rfl rfl rfl ?_
    show Zr sc 70 97 [zp a0, zj x1, zj x2, zj x3, zj x4, zj x5] [zj x2, zp f0_3, zj (x5 * 128)] w ov w' c s
    obtain ⟨f0_18, f1_19, f2_20, f3_21, f4_22, f5_23, hw_17, h⟩ := h
    obtain ⟨r_26, w_24, hk_25, h⟩ := h
    refine rn_cal0 (ins := .invokevirtual 80) (rest := [zj (x5 * 128)]) rfl rfl rfl rfl (zinv_v (fs := _) hw_17 rfl rfl rfl rfl) rfl rfl hk_25 ?_
    show Zr sc 70 100 [zp a0, zj x1, zj x2, zj x3, zj x4, zj x5] [zj r_26, zj (x5 * 128)] w_24 ov w' c s
    obtain ⟨hr_27, h⟩ := h
    refine Zr_br (p := r_26 ≤ (x5 * 128)) rfl rfl (zcmp_j (cnd := .ge) hr_27.1 hr_27.2) (fun hp => ?_) (fun hp => ?_)
    · replace h := h.1 hp
      show Zr sc 70 117 [zp a0, zj x1, zj x2, zj x3, zj x4, zj x5] [] w_24 ov w' c s
      refine rl_inc rfl rfl rfl rfl ?_
      show Zr sc 70 120 [zp a0, zj (x1 + 1), zj x2, zj x3, zj x4, zj x5] [] w_24 ov w' c s
      refine Zr_st (q := (10, [zp a0, zj (x1 + 1), zj x2, zj x3, zj x4, zj x5], [])) rfl rfl rfl ?_
      show Zr sc 70 10 [zp a0, zj (x1 + 1), zj x2, zj x3, zj x4, zj x5] [] w_24 ov w' c s
      exact h
    · replace h := h.2 hp
      show Zr sc 70 103 [zp a0, zj x1, zj x2, zj x3, zj x4, zj x5] [] w_24 ov w' c s
      refine Zr_st (q := (104, [zp a0, zj x1, zj x2, zj x3, zj x4, zj x5], [zp a0])) rfl rfl rfl ?_
      show Zr sc 70 104 [zp a0, zj x1, zj x2, zj x3, zj x4, zj x5] [zp a0] w_24 ov w' c s
      obtain ⟨f0_29, f1_30, f2_31, f3_32, f4_33, f5_34, f6_35, f7_36, f8_37, f9_38, f10_39, f11_40, f12_41, f13_42, hw_28, h⟩ := h
      refine rl_gf rfl hw_28 rfl rfl ?_
      show Zr sc 70 107 [zp a0, zj x1, zj x2, zj x3, zj x4, zj x5] [zp f13_42] w_24 ov w' c s
      refine Zr_st (q := (109, [zp a0, zj x1, zj x2, zj x3, zj x4, zj x5], [zj x5, zp f13_42])) rfl rfl rfl ?_
      show Zr sc 70 109 [zp a0, zj x1, zj x2, zj x3, zj x4, zj x5] [zj x5, zp f13_42] w_24 ov w' c s
      refine Zr_st (q := (110, [zp a0, zj x1, zj x2, zj x3, zj x4, zj x5], [zj x3, zj x5, zp f13_42])) rfl rfl rfl ?_
      show Zr sc 70 110 [zp a0, zj x1, zj x2, zj x3, zj x4, zj x5] [zj x3, zj x5, zp f13_42] w_24 ov w' c s
      obtain ⟨l_45, hw_44, h⟩ := h
      obtain ⟨hi_43, h⟩ := h
      refine rl_is rfl hw_44 hi_43.1 hi_43.2.1 hi_43.2.2 ?_
      show Zr sc 70 111 [zp a0, zj x1, zj x2, zj x3, zj x4, zj x5] [] (w_24.set f13_42 (za (zsi l_45 x5 x3))) ov w' c s
      refine rl_inc rfl rfl rfl rfl ?_
      show Zr sc 70 114 [zp a0, zj x1, zj x2, zj x3, zj x4, zj (x5 + 1)] [] (w_24.set f13_42 (za (zsi l_45 x5 x3))) ov w' c s
      refine Zr_st (q := (79, [zp a0, zj x1, zj x2, zj x3, zj x4, zj (x5 + 1)], [])) rfl rfl rfl ?_
      show Zr sc 70 79 [zp a0, zj x1, zj x2, zj x3, zj x4, zj (x5 + 1)] [] (w_24.set f13_42 (za (zsi l_45 x5 x3))) ov w' c s
      exact h

-- java/util/Arrays.fill([II)V
set_option maxRecDepth 100000 in
theorem V71_0 {sc : List Value} {w w' : List zE} {ov : Option Value} {c s : Nat} {a0 : Nat} {x1 : Int} (h : (∃ l_2 : List Int, w[a0]? = some (za l_2) ∧ Zr sc 71 5 [zp a0, zj x1, zj 0, zj (l_2.length : Int)] [] w ov w' c s)) : Zr sc 71 0 [zp a0, zj x1, zmk, zmk] [] w ov w' c s := by
  refine rl_ic rfl ?_
  show Zr sc 71 1 [zp a0, zj x1, zmk, zmk] [zj 0] w ov w' c s
  refine Zr_st (q := (2, [zp a0, zj x1, zj 0, zmk], [])) rfl rfl rfl ?_
  show Zr sc 71 2 [zp a0, zj x1, zj 0, zmk] [] w ov w' c s
  refine Zr_st (q := (3, [zp a0, zj x1, zj 0, zmk], [zp a0])) rfl rfl rfl ?_
  show Zr sc 71 3 [zp a0, zj x1, zj 0, zmk] [zp a0] w ov w' c s
  obtain ⟨l_2, hw_1, h⟩ := h
  refine rl_al rfl hw_1 ?_
  show Zr sc 71 4 [zp a0, zj x1, zj 0, zmk] [zj (l_2.length : Int)] w ov w' c s
  refine Zr_st (q := (5, [zp a0, zj x1, zj 0, zj (l_2.length : Int)], [])) rfl rfl rfl ?_
  show Zr sc 71 5 [zp a0, zj x1, zj 0, zj (l_2.length : Int)] [] w ov w' c s
  exact h
set_option maxRecDepth 100000 in
theorem V71_5 {sc : List Value} {w w' : List zE} {ov : Option Value} {c s : Nat} {a0 : Nat} {x1 : Int} {x2 : Int} {x3 : Int} (h : ((zrg x2 ∧ zrg x3) ∧ ((x3 ≤ x2 → (ov = none ∧ w' = w ∧ c = 0 ∧ s = 0)) ∧ (¬ (x3 ≤ x2) → (∃ l_4 : List Int, w[a0]? = some (za l_4) ∧ ((0 ≤ x2 ∧ x2 < (l_4.length : Int) ∧ x2 ≤ 2147483647) ∧ Zr sc 71 5 [zp a0, zj x1, zj (x2 + 1), zj x3] [] (w.set a0 (za (zsi l_4 x2 x1))) ov w' c s)))))) : Zr sc 71 5 [zp a0, zj x1, zj x2, zj x3] [] w ov w' c s := by
  refine Zr_st (q := (6, [zp a0, zj x1, zj x2, zj x3], [zj x2])) rfl rfl rfl ?_
  show Zr sc 71 6 [zp a0, zj x1, zj x2, zj x3] [zj x2] w ov w' c s
  refine Zr_st (q := (7, [zp a0, zj x1, zj x2, zj x3], [zj x3, zj x2])) rfl rfl rfl ?_
  show Zr sc 71 7 [zp a0, zj x1, zj x2, zj x3] [zj x3, zj x2] w ov w' c s
  obtain ⟨hr_1, h⟩ := h
  refine Zr_br (p := x3 ≤ x2) rfl rfl (zcmp_j (cnd := .ge) hr_1.1 hr_1.2) (fun hp => ?_) (fun hp => ?_)
  · replace h := h.1 hp
    show Zr sc 71 20 [zp a0, zj x1, zj x2, zj x3] [] w ov w' c s
    obtain ⟨h1, h2, h3, h4⟩ := h
    subst h1; subst h2; subst h3; subst h4
    exact Zr_ret (ins := .return_) rfl rfl
  · replace h := h.2 hp
    show Zr sc 71 10 [zp a0, zj x1, zj x2, zj x3] [] w ov w' c s
    refine Zr_st (q := (11, [zp a0, zj x1, zj x2, zj x3], [zp a0])) rfl rfl rfl ?_
    show Zr sc 71 11 [zp a0, zj x1, zj x2, zj x3] [zp a0] w ov w' c s
    refine Zr_st (q := (12, [zp a0, zj x1, zj x2, zj x3], [zj x2, zp a0])) rfl rfl rfl ?_
    show Zr sc 71 12 [zp a0, zj x1, zj x2, zj x3] [zj x2, zp a0] w ov w' c s
    refine Zr_st (q := (13, [zp a0, zj x1, zj x2, zj x3], [zj x1, zj x2, zp a0])) rfl rfl rfl ?_
    show Zr sc 71 13 [zp a0, zj x1, zj x2, zj x3] [zj x1, zj x2, zp a0] w ov w' c s
    obtain ⟨l_4, hw_3, h⟩ := h
    obtain ⟨hi_2, h⟩ := h
    refine rl_is rfl hw_3 hi_2.1 hi_2.2.1 hi_2.2.2 ?_
    show Zr sc 71 14 [zp a0, zj x1, zj x2, zj x3] [] (w.set a0 (za (zsi l_4 x2 x1))) ov w' c s
    refine rl_inc rfl rfl rfl rfl ?_
    show Zr sc 71 17 [zp a0, zj x1, zj (x2 + 1), zj x3] [] (w.set a0 (za (zsi l_4 x2 x1))) ov w' c s
    refine Zr_st (q := (5, [zp a0, zj x1, zj (x2 + 1), zj x3], [])) rfl rfl rfl ?_
    show Zr sc 71 5 [zp a0, zj x1, zj (x2 + 1), zj x3] [] (w.set a0 (za (zsi l_4 x2 x1))) ov w' c s
    exact h

-- HeapwrightLab$Blocks.inOrder(I)I
set_option maxRecDepth 100000 in
theorem V72_0 {sc : List Value} {w w' : List zE} {ov : Option Value} {c s : Nat} {a0 : Nat} {x1 : Int} (h : ((zrg x1) ∧ ((x1 < 0 → (ov = some (zj (-1)) ∧ w' = w ∧ c = 0 ∧ s = 0)) ∧ (¬ (x1 < 0) → (∃ f0_3 : Nat, ∃ f1_4 : Nat, ∃ f2_5 : Nat, ∃ f3_6 : Nat, ∃ f4_7 : Int, ∃ f5_8 : Int, w[a0]? = some (zob 0 [zp f0_3, zp f1_4, zp f2_5, zp f3_6, zj f4_7, zj f5_8]) ∧ ((zrg x1 ∧ zrg f4_7) ∧ ((f4_7 ≤ x1 → (ov = some (zj (-1)) ∧ w' = w ∧ c = 0 ∧ s = 0)) ∧ (¬ (f4_7 ≤ x1) → (∃ l_12 : List Int, w[f3_6]? = some (za l_12) ∧ ((0 ≤ x1 ∧ x1 < (l_12.length : Int) ∧ x1 ≤ 2147483647) ∧ (ov = some (zj (zgi l_12 x1)) ∧ w' = w ∧ c = 0 ∧ s = 0))))))))))) : Zr sc 72 0 [zp a0, zj x1] [] w ov w' c s := by
  refine Zr_st (q := (1, [zp a0, zj x1], [zj x1])) rfl rfl rfl ?_
  show Zr sc 72 1 [zp a0, zj x1] [zj x1] w ov w' c s
  obtain ⟨hr_1, h⟩ := h
  refine Zr_b0 (p := x1 < 0) rfl rfl (zcmp_0 (cnd := .lt) hr_1) (fun hp => ?_) (fun hp => ?_)
  · replace h := h.1 hp
    show Zr sc 72 21 [zp a0, zj x1] [] w ov w' c s
    refine rl_ic rfl ?_
    show Zr sc 72 22 [zp a0, zj x1] [zj (-1)] w ov w' c s
    obtain ⟨h1, h2, h3, h4⟩ := h
    subst h1; subst h2; subst h3; subst h4
    exact Zr_ret (ins := .ireturn) rfl rfl
  · replace h := h.2 hp
    show Zr sc 72 4 [zp a0, zj x1] [] w ov w' c s
    refine Zr_st (q := (5, [zp a0, zj x1], [zj x1])) rfl rfl rfl ?_
    show Zr sc 72 5 [zp a0, zj x1] [zj x1] w ov w' c s
    refine Zr_st (q := (6, [zp a0, zj x1], [zp a0, zj x1])) rfl rfl rfl ?_
    show Zr sc 72 6 [zp a0, zj x1] [zp a0, zj x1] w ov w' c s
    obtain ⟨f0_3, f1_4, f2_5, f3_6, f4_7, f5_8, hw_2, h⟩ := h
    refine rl_gf rfl hw_2 rfl rfl ?_
    show Zr sc 72 9 [zp a0, zj x1] [zj f4_7, zj x1] w ov w' c s
    obtain ⟨hr_9, h⟩ := h
    refine Zr_br (p := f4_7 ≤ x1) rfl rfl (zcmp_j (cnd := .ge) hr_9.1 hr_9.2) (fun hp => ?_) (fun hp => ?_)
    · replace h := h.1 hp
      show Zr sc 72 21 [zp a0, zj x1] [] w ov w' c s
      refine rl_ic rfl ?_
      show Zr sc 72 22 [zp a0, zj x1] [zj (-1)] w ov w' c s
      obtain ⟨h1, h2, h3, h4⟩ := h
      subst h1; subst h2; subst h3; subst h4
      exact Zr_ret (ins := .ireturn) rfl rfl
    · replace h := h.2 hp
      show Zr sc 72 12 [zp a0, zj x1] [] w ov w' c s
      refine Zr_st (q := (13, [zp a0, zj x1], [zp a0])) rfl rfl rfl ?_
      show Zr sc 72 13 [zp a0, zj x1] [zp a0] w ov w' c s
      refine rl_gf rfl hw_2 rfl rfl ?_
      show Zr sc 72 16 [zp a0, zj x1] [zp f3_6] w ov w' c s
      refine Zr_st (q := (17, [zp a0, zj x1], [zj x1, zp f3_6])) rfl rfl rfl ?_
      show Zr sc 72 17 [zp a0, zj x1] [zj x1, zp f3_6] w ov w' c s
      obtain ⟨l_12, hw_11, h⟩ := h
      obtain ⟨hi_10, h⟩ := h
      refine rl_ia rfl hw_11 hi_10.1 hi_10.2.1 hi_10.2.2 ?_
      show Zr sc 72 18 [zp a0, zj x1] [zj (zgi l_12 x1)] w ov w' c s
      refine Zr_st (q := (22, [zp a0, zj x1], [zj (zgi l_12 x1)])) rfl rfl rfl ?_
      show Zr sc 72 22 [zp a0, zj x1] [zj (zgi l_12 x1)] w ov w' c s
      obtain ⟨h1, h2, h3, h4⟩ := h
      subst h1; subst h2; subst h3; subst h4
      exact Zr_ret (ins := .ireturn) rfl rfl

-- HeapwrightLab$Memory.sortPages()V
set_option maxRecDepth 100000 in
theorem V73_0_1 {sc : List Value} {w w' : List zE} {ov : Option Value} {c s : Nat} {a0 : Nat} (h : (ov = none ∧ w' = w ∧ c = 0 ∧ s = 0)) : Zr sc 73 0 [zp a0] [] w ov w' c s := by
  obtain ⟨h1, h2, h3, h4⟩ := h
  subst h1; subst h2; subst h3; subst h4
  exact Zr_ret (ins := .return_) rfl rfl

-- HeapwrightLab$Memory.sortPages()V
set_option maxRecDepth 100000 in
theorem V73_0_2 {sc : List Value} {w w' : List zE} {ov : Option Value} {c s : Nat} {a0 : Nat} (h : (ov = none ∧ w' = w ∧ c = 0 ∧ s = 0)) : Zr sc 73 0 [zp a0] [] w ov w' c s := by
  obtain ⟨h1, h2, h3, h4⟩ := h
  subst h1; subst h2; subst h3; subst h4
  exact Zr_ret (ins := .return_) rfl rfl

-- HeapwrightLab$Holes.removeAll()V
set_option maxRecDepth 100000 in
theorem V74_0 {sc : List Value} {w w' : List zE} {ov : Option Value} {c s : Nat} {a0 : Nat} (h : (∃ f0_2 : Nat, ∃ f1_3 : Nat, ∃ f2_4 : Int, w[a0]? = some (zob 3 [zp f0_2, zp f1_3, zj f2_4]) ∧ (ov = none ∧ w' = (w.set a0 (zob 3 [zp f0_2, zp f1_3, zj 0])) ∧ c = 0 ∧ s = 0))) : Zr sc 74 0 [zp a0] [] w ov w' c s := by
  refine Zr_st (q := (1, [zp a0], [zp a0])) rfl rfl rfl ?_
  show Zr sc 74 1 [zp a0] [zp a0] w ov w' c s
  refine rl_ic rfl ?_
  show Zr sc 74 2 [zp a0] [zj 0, zp a0] w ov w' c s
  obtain ⟨f0_2, f1_3, f2_4, hw_1, h⟩ := h
  refine rl_pf rfl hw_1 rfl rfl rfl ?_
  show Zr sc 74 5 [zp a0] [] (w.set a0 (zob 3 [zp f0_2, zp f1_3, zj 0])) ov w' c s
  obtain ⟨h1, h2, h3, h4⟩ := h
  subst h1; subst h2; subst h3; subst h4
  exact Zr_ret (ins := .return_) rfl rfl

-- HeapwrightLab$Buddies.addGap(II)V
set_option maxRecDepth 100000 in
theorem V75_0 {sc : List Value} {w w' : List zE} {ov : Option Value} {c s : Nat} {a0 : Nat} {x1 : Int} {x2 : Int} (h : Zr sc 75 5 [zp a0, zj x1, zj x2, zj x1, zj 0, zmk] [] w ov w' c s) : Zr sc 75 0 [zp a0, zj x1, zj x2, zmk, zmk, zmk] [] w ov w' c s := by
  refine Zr_st (q := (1, [zp a0, zj x1, zj x2, zmk, zmk, zmk], [zj x1])) rfl rfl rfl ?_
  show Zr sc 75 1 [zp a0, zj x1, zj x2, zmk, zmk, zmk] [zj x1] w ov w' c s
  refine Zr_st (q := (2, [zp a0, zj x1, zj x2, zj x1, zmk, zmk], [])) rfl rfl rfl ?_
  show Zr sc 75 2 [zp a0, zj x1, zj x2, zj x1, zmk, zmk] [] w ov w' c s
  refine rl_ic rfl ?_
  show Zr sc 75 3 [zp a0, zj x1, zj x2, zj x1, zmk, zmk] [zj 0] w ov w' c s
  refine Zr_st (q := (5, [zp a0, zj x1, zj x2, zj x1, zj 0, zmk], [])) rfl rfl rfl ?_
  show Zr sc 75 5 [zp a0, zj x1, zj x2, zj x1, zj 0, zmk] [] w ov w' c s
  exact h
set_option maxRecDepth 100000 in
theorem V75_5 {sc : List Value} {w w' : List zE} {ov : Option Value} {c s : Nat} {a0 : Nat} {x1 : Int} {x2 : Int} {x3 : Int} {x4 : Int} {v5 : Value} (h : ((zrg x4 ∧ zrg 128) ∧ ((128 ≤ x4 → (ov = none ∧ w' = w ∧ c = 0 ∧ s = 0)) ∧ (¬ (128 ≤ x4) → ((zrg x3 ∧ zrg x2) ∧ ((x2 ≤ x3 → (ov = none ∧ w' = w ∧ c = 0 ∧ s = 0)) ∧ (¬ (x2 ≤ x3) → (∃ r_5 : Int, ∃ w_3 : List zE, Zc sc 76 [zj x3, zj x2] w (some (zj r_5)) w_3 0 0 ∧ (∃ f0_7 : Nat, ∃ f1_8 : Nat, ∃ f2_9 : Int, ∃ f3_10 : Int, ∃ f4_11 : Int, ∃ f5_12 : Int, ∃ f6_13 : Int, ∃ f7_14 : Nat, ∃ f8_15 : Nat, ∃ f9_16 : Int, ∃ f10_17 : Int, ∃ f11_18 : Int, ∃ f12_19 : Int, w_3[a0]? = some (zob 1 [zp f0_7, zp f1_8, zj f2_9, zj f3_10, zj f4_11, zj f5_12, zj f6_13, zp f7_14, zp f8_15, zj f9_16, zj f10_17, zj f11_18, zj f12_19]) ∧ (∃ f0_21 : Nat, ∃ f1_22 : Nat, ∃ f2_23 : Int, w_3[f1_8]? = some (zob 3 [zp f0_21, zp f1_22, zj f2_23]) ∧ (∃ w_24 : List zE, Zc sc 77 [zp f1_8, zj x3, zj r_5] w_3 none w_24 0 0 ∧ Zr sc 75 5 [zp a0, zj x1, zj x2, zj (x3 + r_5), zj (x4 + 1), zj r_5] [] w_24 ov w' c s))))))))))) : Zr sc 75 5 [zp a0, zj x1, zj x2, zj x3, zj x4, v5] [] w ov w' c s := by
  refine Zr_st (q := (7, [zp a0, zj x1, zj x2, zj x3, zj x4, v5], [zj x4])) rfl rfl rfl ?_
  show Zr sc 75 7 [zp a0, zj x1, zj x2, zj x3, zj x4, v5] [zj x4] w ov w' c s
  refine rl_si rfl (by decide) ?_
  show Zr sc 75 10 [zp a0, zj x1, zj x2, zj x3, zj x4, v5] [zj 128, zj x4] w ov w' c s
  obtain ⟨hr_1, h⟩ := h
  refine Zr_br (p := 128 ≤ x4) rfl rfl (zcmp_j (cnd := .ge) hr_1.1 hr_1.2) (fun hp => ?_) (fun hp => ?_)
  · replace h := h.1 hp
    show Zr sc 75 46 [zp a0, zj x1, zj x2, zj x3, zj x4, v5] [] w ov w' c s
    obtain ⟨h1, h2, h3, h4⟩ := h
    subst h1; subst h2; subst h3; subst h4
    exact Zr_ret (ins := .return_) rfl rfl
  · replace h := h.2 hp
    show Zr sc 75 13 [zp a0, zj x1, zj x2, zj x3, zj x4, v5] [] w ov w' c s
    refine Zr_st (q := (14, [zp a0, zj x1, zj x2, zj x3, zj x4, v5], [zj x3])) rfl rfl rfl ?_
    show Zr sc 75 14 [zp a0, zj x1, zj x2, zj x3, zj x4, v5] [zj x3] w ov w' c s
    refine Zr_st (q := (15, [zp a0, zj x1, zj x2, zj x3, zj x4, v5], [zj x2, zj x3])) rfl rfl rfl ?_
    show Zr sc 75 15 [zp a0, zj x1, zj x2, zj x3, zj x4, v5] [zj x2, zj x3] w ov w' c s
    obtain ⟨hr_2, h⟩ := h
    refine Zr_br (p := x2 ≤ x3) rfl rfl (zcmp_j (cnd := .ge) hr_2.1 hr_2.2) (fun hp => ?_) (fun hp => ?_)
    · replace h := h.1 hp
      show Zr sc 75 46 [zp a0, zj x1, zj x2, zj x3, zj x4, v5] [] w ov w' c s
      obtain ⟨h1, h2, h3, h4⟩ := h
      subst h1; subst h2; subst h3; subst h4
      exact Zr_ret (ins := .return_) rfl rfl
    · replace h := h.2 hp
      show Zr sc 75 18 [zp a0, zj x1, zj x2, zj x3, zj x4, v5] [] w ov w' c s
      refine Zr_st (q := (19, [zp a0, zj x1, zj x2, zj x3, zj x4, v5], [zj x3])) rfl rfl rfl ?_
      show Zr sc 75 19 [zp a0, zj x1, zj x2, zj x3, zj x4, v5] [zj x3] w ov w' c s
      refine Zr_st (q := (20, [zp a0, zj x1, zj x2, zj x3, zj x4, v5], [zj x2, zj x3])) rfl rfl rfl ?_
      show Zr sc 75 20 [zp a0, zj x1, zj x2, zj x3, zj x4, v5] [zj x2, zj x3] w ov w' c s
      obtain ⟨r_5, w_3, hk_4, h⟩ := h
      refine rn_cal0 (ins := .invokestatic 32) (rest := []) rfl rfl rfl rfl (zinv_t rfl rfl rfl rfl) rfl rfl hk_4 ?_
      show Zr sc 75 23 [zp a0, zj x1, zj x2, zj x3, zj x4, v5] [zj r_5] w_3 ov w' c s
      refine Zr_st (q := (25, [zp a0, zj x1, zj x2, zj x3, zj x4, zj r_5], [])) rfl rfl rfl ?_
      show Zr sc 75 25 [zp a0, zj x1, zj x2, zj x3, zj x4, zj r_5] [] w_3 ov w' c s
      refine Zr_st (q := (26, [zp a0, zj x1, zj x2, zj x3, zj x4, zj r_5], [zp a0])) rfl rfl rfl ?_
      show Zr sc 75 26 [zp a0, zj x1, zj x2, zj x3, zj x4, zj r_5] [zp a0] w_3 ov w' c s
      obtain ⟨f0_7, f1_8, f2_9, f3_10, f4_11, f5_12, f6_13, f7_14, f8_15, f9_16, f10_17, f11_18, f12_19, hw_6, h⟩ := h
      refine rl_gf rfl hw_6 rfl rfl ?_
      show Zr sc 75 29 [zp a0, zj x1, zj x2, zj x3, zj x4, zj r_5] [zp f1_8] w_3 ov w' c s
      refine Zr_st (q := (30, [zp a0, zj x1, zj x2, zj x3, zj x4, zj r_5], [zj x3, zp f1_8])) rfl rfl rfl ?_
      show Zr sc 75 30 [zp a0, zj x1, zj x2, zj x3, zj x4, zj r_5] [zj x3, zp f1_8] w_3 ov w' c s
      refine Zr_st (q := (32, [zp a0, zj x1, zj x2, zj x3, zj x4, zj r_5], [zj r_5, zj x3, zp f1_8])) rfl rfl rfl ?_
      show Zr sc 75 32 [zp a0, zj x1, zj x2, zj x3, zj x4, zj r_5] [zj r_5, zj x3, zp f1_8] w_3 ov w' c s
      obtain ⟨f0_21, f1_22, f2_23, hw_20, h⟩ := h
      obtain ⟨w_24, hk_25, h⟩ := h
      refine rn_cal0 (ins := .invokevirtual 36) (rest := []) rfl rfl rfl rfl (zinv_v (fs := _) hw_20 rfl rfl rfl rfl) rfl rfl hk_25 ?_
      show Zr sc 75 35 [zp a0, zj x1, zj x2, zj x3, zj x4, zj r_5] [] w_24 ov w' c s
      refine Zr_st (q := (36, [zp a0, zj x1, zj x2, zj x3, zj x4, zj r_5], [zj x3])) rfl rfl rfl ?_
      show Zr sc 75 36 [zp a0, zj x1, zj x2, zj x3, zj x4, zj r_5] [zj x3] w_24 ov w' c s
      refine Zr_st (q := (38, [zp a0, zj x1, zj x2, zj x3, zj x4, zj r_5], [zj r_5, zj x3])) rfl rfl rfl ?_
      show Zr sc 75 38 [zp a0, zj x1, zj x2, zj x3, zj x4, zj r_5] [zj r_5, zj x3] w_24 ov w' c s
      refine rl_add rfl ?_
      show Zr sc 75 39 [zp a0, zj x1, zj x2, zj x3, zj x4, zj r_5] [zj (x3 + r_5)] w_24 ov w' c s
      refine Zr_st (q := (40, [zp a0, zj x1, zj x2, zj (x3 + r_5), zj x4, zj r_5], [])) rfl rfl rfl ?_
      show Zr sc 75 40 [zp a0, zj x1, zj x2, zj (x3 + r_5), zj x4, zj r_5] [] w_24 ov w' c s
      refine rl_inc rfl rfl rfl rfl ?_
      show Zr sc 75 43 [zp a0, zj x1, zj x2, zj (x3 + r_5), zj (x4 + 1), zj r_5] [] w_24 ov w' c s
      refine Zr_st (q := (5, [zp a0, zj x1, zj x2, zj (x3 + r_5), zj (x4 + 1), zj r_5], [])) rfl rfl rfl ?_
      show Zr sc 75 5 [zp a0, zj x1, zj x2, zj (x3 + r_5), zj (x4 + 1), zj r_5] [] w_24 ov w' c s
      exact h

-- HeapwrightLab$Buddies.largestPart(II)I
set_option maxRecDepth 100000 in
theorem V76_0 {sc : List Value} {w w' : List zE} {ov : Option Value} {c s : Nat} {x0 : Int} {x1 : Int} (h : Zr sc 76 4 [zj x0, zj x1, zj 1024] [] w ov w' c s) : Zr sc 76 0 [zj x0, zj x1, zmk] [] w ov w' c s := by
  refine rl_si rfl (by decide) ?_
  show Zr sc 76 3 [zj x0, zj x1, zmk] [zj 1024] w ov w' c s
  refine Zr_st (q := (4, [zj x0, zj x1, zj 1024], [])) rfl rfl rfl ?_
  show Zr sc 76 4 [zj x0, zj x1, zj 1024] [] w ov w' c s
  exact h
set_option maxRecDepth 100000 in
theorem V76_4 {sc : List Value} {w w' : List zE} {ov : Option Value} {c s : Nat} {x0 : Int} {x1 : Int} {x2 : Int} (h : ((zrg x2 ∧ zrg 8) ∧ ((x2 ≤ 8 → (ov = some (zj 8) ∧ w' = w ∧ c = 0 ∧ s = 0)) ∧ (¬ (x2 ≤ 8) → (((0 : Int) ≤ x0 ∧ x0 ≤ (2147483647 : Int) ∧ (0 : Int) < x2 ∧ x2 ≤ (2147483647 : Int)) ∧ ((zrg (x0 % x2)) ∧ (((x0 % x2) ≠ 0 → (((0 : Int) ≤ x2 ∧ x2 ≤ (2147483647 : Int) ∧ (0 : Int) < 2 ∧ 2 ≤ (2147483647 : Int)) ∧ Zr sc 76 4 [zj x0, zj x1, zj (x2 / 2)] [] w ov w' c s)) ∧ (¬ ((x0 % x2) ≠ 0) → ((zrg x2 ∧ zrg (x1 - x0)) ∧ (((x1 - x0) < x2 → (((0 : Int) ≤ x2 ∧ x2 ≤ (2147483647 : Int) ∧ (0 : Int) < 2 ∧ 2 ≤ (2147483647 : Int)) ∧ Zr sc 76 4 [zj x0, zj x1, zj (x2 / 2)] [] w ov w' c s)) ∧ (¬ ((x1 - x0) < x2) → (ov = some (zj x2) ∧ w' = w ∧ c = 0 ∧ s = 0)))))))))))) : Zr sc 76 4 [zj x0, zj x1, zj x2] [] w ov w' c s := by
  refine Zr_st (q := (5, [zj x0, zj x1, zj x2], [zj x2])) rfl rfl rfl ?_
  show Zr sc 76 5 [zj x0, zj x1, zj x2] [zj x2] w ov w' c s
  refine rl_bi rfl (by decide) ?_
  show Zr sc 76 7 [zj x0, zj x1, zj x2] [zj 8, zj x2] w ov w' c s
  obtain ⟨hr_1, h⟩ := h
  refine Zr_br (p := x2 ≤ 8) rfl rfl (zcmp_j (cnd := .le) hr_1.1 hr_1.2) (fun hp => ?_) (fun hp => ?_)
  · replace h := h.1 hp
    show Zr sc 76 32 [zj x0, zj x1, zj x2] [] w ov w' c s
    refine rl_bi rfl (by decide) ?_
    show Zr sc 76 34 [zj x0, zj x1, zj x2] [zj 8] w ov w' c s
    obtain ⟨h1, h2, h3, h4⟩ := h
    subst h1; subst h2; subst h3; subst h4
    exact Zr_ret (ins := .ireturn) rfl rfl
  · replace h := h.2 hp
    show Zr sc 76 10 [zj x0, zj x1, zj x2] [] w ov w' c s
    refine Zr_st (q := (11, [zj x0, zj x1, zj x2], [zj x0])) rfl rfl rfl ?_
    show Zr sc 76 11 [zj x0, zj x1, zj x2] [zj x0] w ov w' c s
    refine Zr_st (q := (12, [zj x0, zj x1, zj x2], [zj x2, zj x0])) rfl rfl rfl ?_
    show Zr sc 76 12 [zj x0, zj x1, zj x2] [zj x2, zj x0] w ov w' c s
    obtain ⟨hd_2, h⟩ := h
    refine rl_rem rfl hd_2.1 hd_2.2.1 hd_2.2.2.1 hd_2.2.2.2 ?_
    show Zr sc 76 13 [zj x0, zj x1, zj x2] [zj (x0 % x2)] w ov w' c s
    obtain ⟨hr_3, h⟩ := h
    refine Zr_b0 (p := (x0 % x2) ≠ 0) rfl rfl (zcmp_0 (cnd := .ne) hr_3) (fun hp => ?_) (fun hp => ?_)
    · replace h := h.1 hp
      show Zr sc 76 25 [zj x0, zj x1, zj x2] [] w ov w' c s
      refine Zr_st (q := (26, [zj x0, zj x1, zj x2], [zj x2])) rfl rfl rfl ?_
      show Zr sc 76 26 [zj x0, zj x1, zj x2] [zj x2] w ov w' c s
      refine rl_ic rfl ?_
      show Zr sc 76 27 [zj x0, zj x1, zj x2] [zj 2, zj x2] w ov w' c s
      obtain ⟨hd_4, h⟩ := h
      refine rl_div rfl hd_4.1 hd_4.2.1 hd_4.2.2.1 hd_4.2.2.2 ?_
      show Zr sc 76 28 [zj x0, zj x1, zj x2] [zj (x2 / 2)] w ov w' c s
      refine Zr_st (q := (29, [zj x0, zj x1, zj (x2 / 2)], [])) rfl rfl rfl ?_
      show Zr sc 76 29 [zj x0, zj x1, zj (x2 / 2)] [] w ov w' c s
      refine Zr_st (q := (4, [zj x0, zj x1, zj (x2 / 2)], [])) rfl rfl rfl ?_
      show Zr sc 76 4 [zj x0, zj x1, zj (x2 / 2)] [] w ov w' c s
      exact h
    · replace h := h.2 hp
      show Zr sc 76 16 [zj x0, zj x1, zj x2] [] w ov w' c s
      refine Zr_st (q := (17, [zj x0, zj x1, zj x2], [zj x2])) rfl rfl rfl ?_
      show Zr sc 76 17 [zj x0, zj x1, zj x2] [zj x2] w ov w' c s
      refine Zr_st (q := (18, [zj x0, zj x1, zj x2], [zj x1, zj x2])) rfl rfl rfl ?_
      show Zr sc 76 18 [zj x0, zj x1, zj x2] [zj x1, zj x2] w ov w' c s
      refine Zr_st (q := (19, [zj x0, zj x1, zj x2], [zj x0, zj x1, zj x2])) rfl rfl rfl ?_
      show Zr sc 76 19 [zj x0, zj x1, zj x2] [zj x0, zj x1, zj x2] w ov w' c s
      refine rl_sub rfl ?_
      show Zr sc 76 20 [zj x0, zj x1, zj x2] [zj (x1 - x0), zj x2] w ov w' c s
      obtain ⟨hr_5, h⟩ := h
      refine Zr_br (p := (x1 - x0) < x2) rfl rfl (zcmp_j (cnd := .gt) hr_5.1 hr_5.2) (fun hp => ?_) (fun hp => ?_)
      · replace h := h.1 hp
        show Zr sc 76 25 [zj x0, zj x1, zj x2] [] w ov w' c s
        refine Zr_st (q := (26, [zj x0, zj x1, zj x2], [zj x2])) rfl rfl rfl ?_
        show Zr sc 76 26 [zj x0, zj x1, zj x2] [zj x2] w ov w' c s
        refine rl_ic rfl ?_
        show Zr sc 76 27 [zj x0, zj x1, zj x2] [zj 2, zj x2] w ov w' c s
        obtain ⟨hd_6, h⟩ := h
        refine rl_div rfl hd_6.1 hd_6.2.1 hd_6.2.2.1 hd_6.2.2.2 ?_
        show Zr sc 76 28 [zj x0, zj x1, zj x2] [zj (x2 / 2)] w ov w' c s
        refine Zr_st (q := (29, [zj x0, zj x1, zj (x2 / 2)], [])) rfl rfl rfl ?_
        show Zr sc 76 29 [zj x0, zj x1, zj (x2 / 2)] [] w ov w' c s
        refine Zr_st (q := (4, [zj x0, zj x1, zj (x2 / 2)], [])) rfl rfl rfl ?_
        show Zr sc 76 4 [zj x0, zj x1, zj (x2 / 2)] [] w ov w' c s
        exact h
      · replace h := h.2 hp
        show Zr sc 76 23 [zj x0, zj x1, zj x2] [] w ov w' c s
        refine Zr_st (q := (24, [zj x0, zj x1, zj x2], [zj x2])) rfl rfl rfl ?_
        show Zr sc 76 24 [zj x0, zj x1, zj x2] [zj x2] w ov w' c s
        obtain ⟨h1, h2, h3, h4⟩ := h
        subst h1; subst h2; subst h3; subst h4
        exact Zr_ret (ins := .ireturn) rfl rfl

-- HeapwrightLab$Holes.add(II)V
set_option maxRecDepth 100000 in
theorem V77_0 {sc : List Value} {w w' : List zE} {ov : Option Value} {c s : Nat} {a0 : Nat} {x1 : Int} {x2 : Int} (h : (∃ f0_2 : Nat, ∃ f1_3 : Nat, ∃ f2_4 : Int, w[a0]? = some (zob 3 [zp f0_2, zp f1_3, zj f2_4]) ∧ ((zrg f2_4 ∧ zrg 128) ∧ ((128 ≤ f2_4 → (ov = none ∧ w' = w ∧ c = 0 ∧ s = 0)) ∧ (¬ (128 ≤ f2_4) → (∃ l_8 : List Int, w[f0_2]? = some (za l_8) ∧ ((0 ≤ f2_4 ∧ f2_4 < (l_8.length : Int) ∧ f2_4 ≤ 2147483647) ∧ ((f0_2 ≠ a0) ∧ ((f0_2 ≠ f1_3) ∧ (∃ l_13 : List Int, w[f1_3]? = some (za l_13) ∧ ((0 ≤ f2_4 ∧ f2_4 < (l_13.length : Int) ∧ f2_4 ≤ 2147483647) ∧ ((f1_3 ≠ a0) ∧ (ov = none ∧ w' = (((w.set f0_2 (za (zsi l_8 f2_4 x1))).set f1_3 (za (zsi l_13 f2_4 x2))).set a0 (zob 3 [zp f0_2, zp f1_3, zj (f2_4 + 1)])) ∧ c = 0 ∧ s = 0))))))))))))) : Zr sc 77 0 [zp a0, zj x1, zj x2] [] w ov w' c s := by
  refine Zr_st (q := (1, [zp a0, zj x1, zj x2], [zp a0])) rfl rfl rfl ?_
  show Zr sc 77 1 [zp a0, zj x1, zj x2] [zp a0] w ov w' c s
  obtain ⟨f0_2, f1_3, f2_4, hw_1, h⟩ := h
  refine rl_gf rfl hw_1 rfl rfl ?_
  show Zr sc 77 4 [zp a0, zj x1, zj x2] [zj f2_4] w ov w' c s
  refine rl_si rfl (by decide) ?_
  show Zr sc 77 7 [zp a0, zj x1, zj x2] [zj 128, zj f2_4] w ov w' c s
  obtain ⟨hr_5, h⟩ := h
  refine Zr_br (p := 128 ≤ f2_4) rfl rfl (zcmp_j (cnd := .ge) hr_5.1 hr_5.2) (fun hp => ?_) (fun hp => ?_)
  · replace h := h.1 hp
    show Zr sc 77 40 [zp a0, zj x1, zj x2] [] w ov w' c s
    obtain ⟨h1, h2, h3, h4⟩ := h
    subst h1; subst h2; subst h3; subst h4
    exact Zr_ret (ins := .return_) rfl rfl
  · replace h := h.2 hp
    show Zr sc 77 10 [zp a0, zj x1, zj x2] [] w ov w' c s
    refine Zr_st (q := (11, [zp a0, zj x1, zj x2], [zp a0])) rfl rfl rfl ?_
    show Zr sc 77 11 [zp a0, zj x1, zj x2] [zp a0] w ov w' c s
    refine rl_gf rfl hw_1 rfl rfl ?_
    show Zr sc 77 14 [zp a0, zj x1, zj x2] [zp f0_2] w ov w' c s
    refine Zr_st (q := (15, [zp a0, zj x1, zj x2], [zp a0, zp f0_2])) rfl rfl rfl ?_
    show Zr sc 77 15 [zp a0, zj x1, zj x2] [zp a0, zp f0_2] w ov w' c s
    refine rl_gf rfl hw_1 rfl rfl ?_
    show Zr sc 77 18 [zp a0, zj x1, zj x2] [zj f2_4, zp f0_2] w ov w' c s
    refine Zr_st (q := (19, [zp a0, zj x1, zj x2], [zj x1, zj f2_4, zp f0_2])) rfl rfl rfl ?_
    show Zr sc 77 19 [zp a0, zj x1, zj x2] [zj x1, zj f2_4, zp f0_2] w ov w' c s
    obtain ⟨l_8, hw_7, h⟩ := h
    obtain ⟨hi_6, h⟩ := h
    refine rl_is rfl hw_7 hi_6.1 hi_6.2.1 hi_6.2.2 ?_
    show Zr sc 77 20 [zp a0, zj x1, zj x2] [] (w.set f0_2 (za (zsi l_8 f2_4 x1))) ov w' c s
    refine Zr_st (q := (21, [zp a0, zj x1, zj x2], [zp a0])) rfl rfl rfl ?_
    show Zr sc 77 21 [zp a0, zj x1, zj x2] [zp a0] (w.set f0_2 (za (zsi l_8 f2_4 x1))) ov w' c s
    obtain ⟨hn_9, h⟩ := h
    refine rl_gf rfl (zw_o hn_9 hw_1) rfl rfl ?_
    show Zr sc 77 24 [zp a0, zj x1, zj x2] [zp f1_3] (w.set f0_2 (za (zsi l_8 f2_4 x1))) ov w' c s
    refine Zr_st (q := (25, [zp a0, zj x1, zj x2], [zp a0, zp f1_3])) rfl rfl rfl ?_
    show Zr sc 77 25 [zp a0, zj x1, zj x2] [zp a0, zp f1_3] (w.set f0_2 (za (zsi l_8 f2_4 x1))) ov w' c s
    refine rl_gf rfl (zw_o hn_9 hw_1) rfl rfl ?_
    show Zr sc 77 28 [zp a0, zj x1, zj x2] [zj f2_4, zp f1_3] (w.set f0_2 (za (zsi l_8 f2_4 x1))) ov w' c s
    refine Zr_st (q := (29, [zp a0, zj x1, zj x2], [zj x2, zj f2_4, zp f1_3])) rfl rfl rfl ?_
    show Zr sc 77 29 [zp a0, zj x1, zj x2] [zj x2, zj f2_4, zp f1_3] (w.set f0_2 (za (zsi l_8 f2_4 x1))) ov w' c s
    obtain ⟨hn_11, h⟩ := h
    obtain ⟨l_13, hw_12, h⟩ := h
    obtain ⟨hi_10, h⟩ := h
    refine rl_is rfl (zw_o hn_11 hw_12) hi_10.1 hi_10.2.1 hi_10.2.2 ?_
    show Zr sc 77 30 [zp a0, zj x1, zj x2] [] ((w.set f0_2 (za (zsi l_8 f2_4 x1))).set f1_3 (za (zsi l_13 f2_4 x2))) ov w' c s
    refine Zr_st (q := (31, [zp a0, zj x1, zj x2], [zp a0])) rfl rfl rfl ?_
    show Zr sc 77 31 [zp a0, zj x1, zj x2] [zp a0] ((w.set f0_2 (za (zsi l_8 f2_4 x1))).set f1_3 (za (zsi l_13 f2_4 x2))) ov w' c s
    refine Zr_st (q := (32, [zp a0, zj x1, zj x2], [zp a0, zp a0])) rfl rfl rfl ?_
    show Zr sc 77 32 [zp a0, zj x1, zj x2] [zp a0, zp a0] ((w.set f0_2 (za (zsi l_8 f2_4 x1))).set f1_3 (za (zsi l_13 f2_4 x2))) ov w' c s
    obtain ⟨hn_14, h⟩ := h
    refine rl_gf rfl (zw_o hn_14 (zw_o hn_9 hw_1)) rfl rfl ?_
    show Zr sc 77 35 [zp a0, zj x1, zj x2] [zj f2_4, zp a0] ((w.set f0_2 (za (zsi l_8 f2_4 x1))).set f1_3 (za (zsi l_13 f2_4 x2))) ov w' c s
    refine rl_ic rfl ?_
    show Zr sc 77 36 [zp a0, zj x1, zj x2] [zj 1, zj f2_4, zp a0] ((w.set f0_2 (za (zsi l_8 f2_4 x1))).set f1_3 (za (zsi l_13 f2_4 x2))) ov w' c s
    refine rl_add rfl ?_
    show Zr sc 77 37 [zp a0, zj x1, zj x2] [zj (f2_4 + 1), zp a0] ((w.set f0_2 (za (zsi l_8 f2_4 x1))).set f1_3 (za (zsi l_13 f2_4 x2))) ov w' c s
    refine rl_pf rfl (zw_o hn_14 (zw_o hn_9 hw_1)) rfl rfl rfl ?_
    show Zr sc 77 40 [zp a0, zj x1, zj x2] [] (((w.set f0_2 (za (zsi l_8 f2_4 x1))).set f1_3 (za (zsi l_13 f2_4 x2))).set a0 (zob 3 [zp f0_2, zp f1_3, zj (f2_4 + 1)])) ov w' c s
    obtain ⟨h1, h2, h3, h4⟩ := h
    subst h1; subst h2; subst h3; subst h4
    exact Zr_ret (ins := .return_) rfl rfl

-- HeapwrightLab$Fits.addGap(II)V
set_option maxRecDepth 100000 in
theorem V78_0 {sc : List Value} {w w' : List zE} {ov : Option Value} {c s : Nat} {a0 : Nat} {x1 : Int} {x2 : Int} (h : ((zrg x1 ∧ zrg x2) ∧ ((x2 ≤ x1 → (ov = none ∧ w' = w ∧ c = 0 ∧ s = 0)) ∧ (¬ (x2 ≤ x1) → (∃ f0_3 : Nat, ∃ f1_4 : Nat, ∃ f2_5 : Int, ∃ f3_6 : Int, ∃ f4_7 : Int, ∃ f5_8 : Int, ∃ f6_9 : Int, ∃ f7_10 : Nat, ∃ f8_11 : Nat, ∃ f9_12 : Int, ∃ f10_13 : Int, ∃ f11_14 : Int, ∃ f12_15 : Int, w[a0]? = some (zob 2 [zp f0_3, zp f1_4, zj f2_5, zj f3_6, zj f4_7, zj f5_8, zj f6_9, zp f7_10, zp f8_11, zj f9_12, zj f10_13, zj f11_14, zj f12_15]) ∧ (∃ f0_17 : Nat, ∃ f1_18 : Nat, ∃ f2_19 : Int, w[f1_4]? = some (zob 3 [zp f0_17, zp f1_18, zj f2_19]) ∧ (∃ w_20 : List zE, Zc sc 77 [zp f1_4, zj x1, zj (x2 - x1)] w none w_20 0 0 ∧ (ov = none ∧ w' = w_20 ∧ c = 0 ∧ s = 0)))))))) : Zr sc 78 0 [zp a0, zj x1, zj x2] [] w ov w' c s := by
  refine Zr_st (q := (1, [zp a0, zj x1, zj x2], [zj x1])) rfl rfl rfl ?_
  show Zr sc 78 1 [zp a0, zj x1, zj x2] [zj x1] w ov w' c s
  refine Zr_st (q := (2, [zp a0, zj x1, zj x2], [zj x2, zj x1])) rfl rfl rfl ?_
  show Zr sc 78 2 [zp a0, zj x1, zj x2] [zj x2, zj x1] w ov w' c s
  obtain ⟨hr_1, h⟩ := h
  refine Zr_br (p := x2 ≤ x1) rfl rfl (zcmp_j (cnd := .ge) hr_1.1 hr_1.2) (fun hp => ?_) (fun hp => ?_)
  · replace h := h.1 hp
    show Zr sc 78 16 [zp a0, zj x1, zj x2] [] w ov w' c s
    obtain ⟨h1, h2, h3, h4⟩ := h
    subst h1; subst h2; subst h3; subst h4
    exact Zr_ret (ins := .return_) rfl rfl
  · replace h := h.2 hp
    show Zr sc 78 5 [zp a0, zj x1, zj x2] [] w ov w' c s
    refine Zr_st (q := (6, [zp a0, zj x1, zj x2], [zp a0])) rfl rfl rfl ?_
    show Zr sc 78 6 [zp a0, zj x1, zj x2] [zp a0] w ov w' c s
    obtain ⟨f0_3, f1_4, f2_5, f3_6, f4_7, f5_8, f6_9, f7_10, f8_11, f9_12, f10_13, f11_14, f12_15, hw_2, h⟩ := h
    refine rl_gf rfl hw_2 rfl rfl ?_
    show Zr sc 78 9 [zp a0, zj x1, zj x2] [zp f1_4] w ov w' c s
    refine Zr_st (q := (10, [zp a0, zj x1, zj x2], [zj x1, zp f1_4])) rfl rfl rfl ?_
    show Zr sc 78 10 [zp a0, zj x1, zj x2] [zj x1, zp f1_4] w ov w' c s
    refine Zr_st (q := (11, [zp a0, zj x1, zj x2], [zj x2, zj x1, zp f1_4])) rfl rfl rfl ?_
    show Zr sc 78 11 [zp a0, zj x1, zj x2] [zj x2, zj x1, zp f1_4] w ov w' c s
    refine Zr_st (q := (12, [zp a0, zj x1, zj x2], [zj x1, zj x2, zj x1, zp f1_4])) rfl rfl rfl ?_
    show Zr sc 78 12 [zp a0, zj x1, zj x2] [zj x1, zj x2, zj x1, zp f1_4] w ov w' c s
    refine rl_sub rfl ?_
    show Zr sc 78 13 [zp a0, zj x1, zj x2] [zj (x2 - x1), zj x1, zp f1_4] w ov w' c s
    obtain ⟨f0_17, f1_18, f2_19, hw_16, h⟩ := h
    obtain ⟨w_20, hk_21, h⟩ := h
    refine rn_cal0 (ins := .invokevirtual 59) (rest := []) rfl rfl rfl rfl (zinv_v (fs := _) hw_16 rfl rfl rfl rfl) rfl rfl hk_21 ?_
    show Zr sc 78 16 [zp a0, zj x1, zj x2] [] w_20 ov w' c s
    obtain ⟨h1, h2, h3, h4⟩ := h
    subst h1; subst h2; subst h3; subst h4
    exact Zr_ret (ins := .return_) rfl rfl

-- HeapwrightLab$Slabs.addGap(II)V
set_option maxRecDepth 100000 in
theorem V79_0 {sc : List Value} {w w' : List zE} {ov : Option Value} {c s : Nat} {a0 : Nat} {x1 : Int} {x2 : Int} (h : Zr sc 79 5 [zp a0, zj x1, zj x2, zj x1, zj 0, zmk] [] w ov w' c s) : Zr sc 79 0 [zp a0, zj x1, zj x2, zmk, zmk, zmk] [] w ov w' c s := by
  refine Zr_st (q := (1, [zp a0, zj x1, zj x2, zmk, zmk, zmk], [zj x1])) rfl rfl rfl ?_
  show Zr sc 79 1 [zp a0, zj x1, zj x2, zmk, zmk, zmk] [zj x1] w ov w' c s
  refine Zr_st (q := (2, [zp a0, zj x1, zj x2, zj x1, zmk, zmk], [])) rfl rfl rfl ?_
  show Zr sc 79 2 [zp a0, zj x1, zj x2, zj x1, zmk, zmk] [] w ov w' c s
  refine rl_ic rfl ?_
  show Zr sc 79 3 [zp a0, zj x1, zj x2, zj x1, zmk, zmk] [zj 0] w ov w' c s
  refine Zr_st (q := (5, [zp a0, zj x1, zj x2, zj x1, zj 0, zmk], [])) rfl rfl rfl ?_
  show Zr sc 79 5 [zp a0, zj x1, zj x2, zj x1, zj 0, zmk] [] w ov w' c s
  exact h
set_option maxRecDepth 100000 in
theorem V79_5 {sc : List Value} {w w' : List zE} {ov : Option Value} {c s : Nat} {a0 : Nat} {x1 : Int} {x2 : Int} {x3 : Int} {x4 : Int} {v5 : Value} (h : ((zrg x4 ∧ zrg 128) ∧ ((128 ≤ x4 → (ov = none ∧ w' = w ∧ c = 0 ∧ s = 0)) ∧ (¬ (128 ≤ x4) → ((zrg x3 ∧ zrg x2) ∧ ((x2 ≤ x3 → (ov = none ∧ w' = w ∧ c = 0 ∧ s = 0)) ∧ (¬ (x2 ≤ x3) → (((0 : Int) ≤ x3 ∧ x3 ≤ (2147483647 : Int) ∧ (0 : Int) < 128 ∧ 128 ≤ (2147483647 : Int)) ∧ ((zrg (x3 % 128)) ∧ (((x3 % 128) ≠ 0 → (((0 : Int) ≤ x3 ∧ x3 ≤ (2147483647 : Int) ∧ (0 : Int) < 128 ∧ 128 ≤ (2147483647 : Int)) ∧ (∃ f0_7 : Nat, ∃ f1_8 : Nat, ∃ f2_9 : Int, ∃ f3_10 : Int, ∃ f4_11 : Int, ∃ f5_12 : Int, ∃ f6_13 : Int, ∃ f7_14 : Nat, ∃ f8_15 : Nat, ∃ f9_16 : Int, ∃ f10_17 : Int, ∃ f11_18 : Int, ∃ f12_19 : Int, ∃ f13_20 : Nat, w[a0]? = some (zob 4 [zp f0_7, zp f1_8, zj f2_9, zj f3_10, zj f4_11, zj f5_12, zj f6_13, zp f7_14, zp f8_15, zj f9_16, zj f10_17, zj f11_18, zj f12_19, zp f13_20]) ∧ (∃ r_23 : Int, ∃ w_21 : List zE, Zc sc 80 [zp a0, zj (x3 / 128)] w (some (zj r_23)) w_21 0 0 ∧ ((zrg r_23 ∧ zrg 8) ∧ (∃ f0_26 : Nat, ∃ f1_27 : Nat, ∃ f2_28 : Int, ∃ f3_29 : Int, ∃ f4_30 : Int, ∃ f5_31 : Int, ∃ f6_32 : Int, ∃ f7_33 : Nat, ∃ f8_34 : Nat, ∃ f9_35 : Int, ∃ f10_36 : Int, ∃ f11_37 : Int, ∃ f12_38 : Int, ∃ f13_39 : Nat, w_21[a0]? = some (zob 4 [zp f0_26, zp f1_27, zj f2_28, zj f3_29, zj f4_30, zj f5_31, zj f6_32, zp f7_33, zp f8_34, zj f9_35, zj f10_36, zj f11_37, zj f12_38, zp f13_39]) ∧ (∃ f0_41 : Nat, ∃ f1_42 : Nat, ∃ f2_43 : Int, w_21[f1_27]? = some (zob 3 [zp f0_41, zp f1_42, zj f2_43]) ∧ (∃ w_44 : List zE, Zc sc 77 [zp f1_27, zj x3, zj (max r_23 8)] w_21 none w_44 0 0 ∧ Zr sc 79 5 [zp a0, zj x1, zj x2, zj (x3 + (max r_23 8)), zj (x4 + 1), zj (max r_23 8)] [] w_44 ov w' c s)))))))) ∧ (¬ ((x3 % 128) ≠ 0) → ((zrg (x2 - x3) ∧ zrg 128) ∧ (((x2 - x3) < 128 → (((0 : Int) ≤ x3 ∧ x3 ≤ (2147483647 : Int) ∧ (0 : Int) < 128 ∧ 128 ≤ (2147483647 : Int)) ∧ (∃ f0_49 : Nat, ∃ f1_50 : Nat, ∃ f2_51 : Int, ∃ f3_52 : Int, ∃ f4_53 : Int, ∃ f5_54 : Int, ∃ f6_55 : Int, ∃ f7_56 : Nat, ∃ f8_57 : Nat, ∃ f9_58 : Int, ∃ f10_59 : Int, ∃ f11_60 : Int, ∃ f12_61 : Int, ∃ f13_62 : Nat, w[a0]? = some (zob 4 [zp f0_49, zp f1_50, zj f2_51, zj f3_52, zj f4_53, zj f5_54, zj f6_55, zp f7_56, zp f8_57, zj f9_58, zj f10_59, zj f11_60, zj f12_61, zp f13_62]) ∧ (∃ r_65 : Int, ∃ w_63 : List zE, Zc sc 80 [zp a0, zj (x3 / 128)] w (some (zj r_65)) w_63 0 0 ∧ ((zrg r_65 ∧ zrg 8) ∧ (∃ f0_68 : Nat, ∃ f1_69 : Nat, ∃ f2_70 : Int, ∃ f3_71 : Int, ∃ f4_72 : Int, ∃ f5_73 : Int, ∃ f6_74 : Int, ∃ f7_75 : Nat, ∃ f8_76 : Nat, ∃ f9_77 : Int, ∃ f10_78 : Int, ∃ f11_79 : Int, ∃ f12_80 : Int, ∃ f13_81 : Nat, w_63[a0]? = some (zob 4 [zp f0_68, zp f1_69, zj f2_70, zj f3_71, zj f4_72, zj f5_73, zj f6_74, zp f7_75, zp f8_76, zj f9_77, zj f10_78, zj f11_79, zj f12_80, zp f13_81]) ∧ (∃ f0_83 : Nat, ∃ f1_84 : Nat, ∃ f2_85 : Int, w_63[f1_69]? = some (zob 3 [zp f0_83, zp f1_84, zj f2_85]) ∧ (∃ w_86 : List zE, Zc sc 77 [zp f1_69, zj x3, zj (max r_65 8)] w_63 none w_86 0 0 ∧ Zr sc 79 5 [zp a0, zj x1, zj x2, zj (x3 + (max r_65 8)), zj (x4 + 1), zj (max r_65 8)] [] w_86 ov w' c s)))))))) ∧ (¬ ((x2 - x3) < 128) → (((0 : Int) ≤ (x2 - x3) ∧ (x2 - x3) ≤ (2147483647 : Int) ∧ (0 : Int) < 128 ∧ 128 ≤ (2147483647 : Int)) ∧ (∃ f0_90 : Nat, ∃ f1_91 : Nat, ∃ f2_92 : Int, ∃ f3_93 : Int, ∃ f4_94 : Int, ∃ f5_95 : Int, ∃ f6_96 : Int, ∃ f7_97 : Nat, ∃ f8_98 : Nat, ∃ f9_99 : Int, ∃ f10_100 : Int, ∃ f11_101 : Int, ∃ f12_102 : Int, ∃ f13_103 : Nat, w[a0]? = some (zob 4 [zp f0_90, zp f1_91, zj f2_92, zj f3_93, zj f4_94, zj f5_95, zj f6_96, zp f7_97, zp f8_98, zj f9_99, zj f10_100, zj f11_101, zj f12_102, zp f13_103]) ∧ (∃ f0_105 : Nat, ∃ f1_106 : Nat, ∃ f2_107 : Int, w[f1_91]? = some (zob 3 [zp f0_105, zp f1_106, zj f2_107]) ∧ (∃ w_108 : List zE, Zc sc 77 [zp f1_91, zj x3, zj (((x2 - x3) / 128) * 128)] w none w_108 0 0 ∧ Zr sc 79 5 [zp a0, zj x1, zj x2, zj (x3 + (((x2 - x3) / 128) * 128)), zj (x4 + 1), zj (((x2 - x3) / 128) * 128)] [] w_108 ov w' c s)))))))))))))))))) : Zr sc 79 5 [zp a0, zj x1, zj x2, zj x3, zj x4, v5] [] w ov w' c s := by
  refine Zr_st (q := (7, [zp a0, zj x1, zj x2, zj x3, zj x4, v5], [zj x4])) rfl rfl rfl ?_
  show Zr sc 79 7 [zp a0, zj x1, zj x2, zj x3, zj x4, v5] [zj x4] w ov w' c s
  refine rl_si rfl (by decide) ?_
  show Zr sc 79 10 [zp a0, zj x1, zj x2, zj x3, zj x4, v5] [zj 128, zj x4] w ov w' c s
  obtain ⟨hr_1, h⟩ := h
  refine Zr_br (p := 128 ≤ x4) rfl rfl (zcmp_j (cnd := .ge) hr_1.1 hr_1.2) (fun hp => ?_) (fun hp => ?_)
  · replace h := h.1 hp
    show Zr sc 79 88 [zp a0, zj x1, zj x2, zj x3, zj x4, v5] [] w ov w' c s
    obtain ⟨h1, h2, h3, h4⟩ := h
    subst h1; subst h2; subst h3; subst h4
    exact Zr_ret (ins := .return_) rfl rfl
  · replace h := h.2 hp
    show Zr sc 79 13 [zp a0, zj x1, zj x2, zj x3, zj x4, v5] [] w ov w' c s
    refine Zr_st (q := (14, [zp a0, zj x1, zj x2, zj x3, zj x4, v5], [zj x3])) rfl rfl rfl ?_
    show Zr sc 79 14 [zp a0, zj x1, zj x2, zj x3, zj x4, v5] [zj x3] w ov w' c s
    refine Zr_st (q := (15, [zp a0, zj x1, zj x2, zj x3, zj x4, v5], [zj x2, zj x3])) rfl rfl rfl ?_
    show Zr sc 79 15 [zp a0, zj x1, zj x2, zj x3, zj x4, v5] [zj x2, zj x3] w ov w' c s
    obtain ⟨hr_2, h⟩ := h
    refine Zr_br (p := x2 ≤ x3) rfl rfl (zcmp_j (cnd := .ge) hr_2.1 hr_2.2) (fun hp => ?_) (fun hp => ?_)
    · replace h := h.1 hp
      show Zr sc 79 88 [zp a0, zj x1, zj x2, zj x3, zj x4, v5] [] w ov w' c s
      obtain ⟨h1, h2, h3, h4⟩ := h
      subst h1; subst h2; subst h3; subst h4
      exact Zr_ret (ins := .return_) rfl rfl
    · replace h := h.2 hp
      show Zr sc 79 18 [zp a0, zj x1, zj x2, zj x3, zj x4, v5] [] w ov w' c s
      refine Zr_st (q := (19, [zp a0, zj x1, zj x2, zj x3, zj x4, v5], [zj x3])) rfl rfl rfl ?_
      show Zr sc 79 19 [zp a0, zj x1, zj x2, zj x3, zj x4, v5] [zj x3] w ov w' c s
      refine rl_si rfl (by decide) ?_
      show Zr sc 79 22 [zp a0, zj x1, zj x2, zj x3, zj x4, v5] [zj 128, zj x3] w ov w' c s
      obtain ⟨hd_3, h⟩ := h
      refine rl_rem rfl hd_3.1 hd_3.2.1 hd_3.2.2.1 hd_3.2.2.2 ?_
      show Zr sc 79 23 [zp a0, zj x1, zj x2, zj x3, zj x4, v5] [zj (x3 % 128)] w ov w' c s
      obtain ⟨hr_4, h⟩ := h
      refine Zr_b0 (p := (x3 % 128) ≠ 0) rfl rfl (zcmp_0 (cnd := .ne) hr_4) (fun hp => ?_) (fun hp => ?_)
      · replace h := h.1 hp
        show Zr sc 79 51 [zp a0, zj x1, zj x2, zj x3, zj x4, v5] [] w ov w' c s
        refine Zr_st (q := (52, [zp a0, zj x1, zj x2, zj x3, zj x4, v5], [zp a0])) rfl rfl rfl ?_
        show Zr sc 79 52 [zp a0, zj x1, zj x2, zj x3, zj x4, v5] [zp a0] w ov w' c s
        refine Zr_st (q := (53, [zp a0, zj x1, zj x2, zj x3, zj x4, v5], [zj x3, zp a0])) rfl rfl rfl ?_
        show Zr sc 79 53 [zp a0, zj x1, zj x2, zj x3, zj x4, v5] [zj x3, zp a0] w ov w' c s
        refine rl_si rfl (by decide) ?_
        show Zr sc 79 56 [zp a0, zj x1, zj x2, zj x3, zj x4, v5] [zj 128, zj x3, zp a0] w ov w' c s
        obtain ⟨hd_5, h⟩ := h
        refine rl_div rfl hd_5.1 hd_5.2.1 hd_5.2.2.1 hd_5.2.2.2 ?_
        show Zr sc 79 57 [zp a0, zj x1, zj x2, zj x3, zj x4, v5] [zj (x3 / 128), zp a0] w ov w' c s
        obtain ⟨f0_7, f1_8, f2_9, f3_10, f4_11, f5_12, f6_13, f7_14, f8_15, f9_16, f10_17, f11_18, f12_19, f13_20, hw_6, h⟩ := h
        obtain ⟨r_23, w_21, hk_22, h⟩ := h
        refine rn_cal0 (ins := .invokevirtual 50) (rest := []) rfl rfl rfl rfl (zinv_v (fs := _) hw_6 rfl rfl rfl rfl) rfl rfl hk_22 ?_
        show Zr sc 79 60 [zp a0, zj x1, zj x2, zj x3, zj x4, v5] [zj r_23] w_21 ov w' c s
        refine rl_bi rfl (by decide) ?_
        show Zr sc 79 62 [zp a0, zj x1, zj x2, zj x3, zj x4, v5] [zj 8, zj r_23] w_21 ov w' c s
        obtain ⟨hm_24, h⟩ := h
        refine Zr_mx (b := true) (ins := .invokestatic 42) (rest := []) rfl rfl rfl rfl (zinv_t2 (rest := []) rfl rfl rfl rfl rfl) rfl (zmx_j hm_24.1 hm_24.2) ?_
        show Zr sc 79 65 [zp a0, zj x1, zj x2, zj x3, zj x4, v5] [zj (max r_23 8)] w_21 ov w' c s
        refine Zr_st (q := (67, [zp a0, zj x1, zj x2, zj x3, zj x4, zj (max r_23 8)], [])) rfl rfl rfl ?_
        show Zr sc 79 67 [zp a0, zj x1, zj x2, zj x3, zj x4, zj (max r_23 8)] [] w_21 ov w' c s
        refine Zr_st (q := (68, [zp a0, zj x1, zj x2, zj x3, zj x4, zj (max r_23 8)], [zp a0])) rfl rfl rfl ?_
        show Zr sc 79 68 [zp a0, zj x1, zj x2, zj x3, zj x4, zj (max r_23 8)] [zp a0] w_21 ov w' c s
        obtain ⟨f0_26, f1_27, f2_28, f3_29, f4_30, f5_31, f6_32, f7_33, f8_34, f9_35, f10_36, f11_37, f12_38, f13_39, hw_25, h⟩ := h
        refine rl_gf rfl hw_25 rfl rfl ?_
        show Zr sc 79 71 [zp a0, zj x1, zj x2, zj x3, zj x4, zj (max r_23 8)] [zp f1_27] w_21 ov w' c s
        refine Zr_st (q := (72, [zp a0, zj x1, zj x2, zj x3, zj x4, zj (max r_23 8)], [zj x3, zp f1_27])) rfl rfl rfl ?_
        show Zr sc 79 72 [zp a0, zj x1, zj x2, zj x3, zj x4, zj (max r_23 8)] [zj x3, zp f1_27] w_21 ov w' c s
        refine Zr_st (q := (74, [zp a0, zj x1, zj x2, zj x3, zj x4, zj (max r_23 8)], [zj (max r_23 8), zj x3, zp f1_27])) rfl rfl rfl ?_
        show Zr sc 79 74 [zp a0, zj x1, zj x2, zj x3, zj x4, zj (max r_23 8)] [zj (max r_23 8), zj x3, zp f1_27] w_21 ov w' c s
        obtain ⟨f0_41, f1_42, f2_43, hw_40, h⟩ := h
        obtain ⟨w_44, hk_45, h⟩ := h
        refine rn_cal0 (ins := .invokevirtual 53) (rest := []) rfl rfl rfl rfl (zinv_v (fs := _) hw_40 rfl rfl rfl rfl) rfl rfl hk_45 ?_
        show Zr sc 79 77 [zp a0, zj x1, zj x2, zj x3, zj x4, zj (max r_23 8)] [] w_44 ov w' c s
        refine Zr_st (q := (78, [zp a0, zj x1, zj x2, zj x3, zj x4, zj (max r_23 8)], [zj x3])) rfl rfl rfl ?_
        show Zr sc 79 78 [zp a0, zj x1, zj x2, zj x3, zj x4, zj (max r_23 8)] [zj x3] w_44 ov w' c s
        refine Zr_st (q := (80, [zp a0, zj x1, zj x2, zj x3, zj x4, zj (max r_23 8)], [zj (max r_23 8), zj x3])) rfl rfl rfl ?_
        show Zr sc 79 80 [zp a0, zj x1, zj x2, zj x3, zj x4, zj (max r_23 8)] [zj (max r_23 8), zj x3] w_44 ov w' c s
        refine rl_add rfl ?_
        show Zr sc 79 81 [zp a0, zj x1, zj x2, zj x3, zj x4, zj (max r_23 8)] [zj (x3 + (max r_23 8))] w_44 ov w' c s
        refine Zr_st (q := (82, [zp a0, zj x1, zj x2, zj (x3 + (max r_23 8)), zj x4, zj (max r_23 8)], [])) rfl rfl rfl ?_
        show Zr sc 79 82 [zp a0, zj x1, zj x2, zj (x3 + (max r_23 8)), zj x4, zj (max r_23 8)] [] w_44 ov w' c s
        refine rl_inc rfl rfl rfl rfl ?_
        show Zr sc 79 85 [zp a0, zj x1, zj x2, zj (x3 + (max r_23 8)), zj (x4 + 1), zj (max r_23 8)] [] w_44 ov w' c s
        refine Zr_st (q := (5, [zp a0, zj x1, zj x2, zj (x3 + (max r_23 8)), zj (x4 + 1), zj (max r_23 8)], [])) rfl rfl rfl ?_
        show Zr sc 79 5 [zp a0, zj x1, zj x2, zj (x3 + (max r_23 8)), zj (x4 + 1), zj (max r_23 8)] [] w_44 ov w' c s
        exact h
      · replace h := h.2 hp
        show Zr sc 79 26 [zp a0, zj x1, zj x2, zj x3, zj x4, v5] [] w ov w' c s
        refine Zr_st (q := (27, [zp a0, zj x1, zj x2, zj x3, zj x4, v5], [zj x2])) rfl rfl rfl ?_
        show Zr sc 79 27 [zp a0, zj x1, zj x2, zj x3, zj x4, v5] [zj x2] w ov w' c s
        refine Zr_st (q := (28, [zp a0, zj x1, zj x2, zj x3, zj x4, v5], [zj x3, zj x2])) rfl rfl rfl ?_
        show Zr sc 79 28 [zp a0, zj x1, zj x2, zj x3, zj x4, v5] [zj x3, zj x2] w ov w' c s
        refine rl_sub rfl ?_
        show Zr sc 79 29 [zp a0, zj x1, zj x2, zj x3, zj x4, v5] [zj (x2 - x3)] w ov w' c s
        refine rl_si rfl (by decide) ?_
        show Zr sc 79 32 [zp a0, zj x1, zj x2, zj x3, zj x4, v5] [zj 128, zj (x2 - x3)] w ov w' c s
        obtain ⟨hr_46, h⟩ := h
        refine Zr_br (p := (x2 - x3) < 128) rfl rfl (zcmp_j (cnd := .lt) hr_46.1 hr_46.2) (fun hp => ?_) (fun hp => ?_)
        · replace h := h.1 hp
          show Zr sc 79 51 [zp a0, zj x1, zj x2, zj x3, zj x4, v5] [] w ov w' c s
          refine Zr_st (q := (52, [zp a0, zj x1, zj x2, zj x3, zj x4, v5], [zp a0])) rfl rfl rfl ?_
          show Zr sc 79 52 [zp a0, zj x1, zj x2, zj x3, zj x4, v5] [zp a0] w ov w' c s
          refine Zr_st (q := (53, [zp a0, zj x1, zj x2, zj x3, zj x4, v5], [zj x3, zp a0])) rfl rfl rfl ?_
          show Zr sc 79 53 [zp a0, zj x1, zj x2, zj x3, zj x4, v5] [zj x3, zp a0] w ov w' c s
          refine rl_si rfl (by decide) ?_
          show Zr sc 79 56 [zp a0, zj x1, zj x2, zj x3, zj x4, v5] [zj 128, zj x3, zp a0] w ov w' c s
          obtain ⟨hd_47, h⟩ := h
          refine rl_div rfl hd_47.1 hd_47.2.1 hd_47.2.2.1 hd_47.2.2.2 ?_
          show Zr sc 79 57 [zp a0, zj x1, zj x2, zj x3, zj x4, v5] [zj (x3 / 128), zp a0] w ov w' c s
          obtain ⟨f0_49, f1_50, f2_51, f3_52, f4_53, f5_54, f6_55, f7_56, f8_57, f9_58, f10_59, f11_60, f12_61, f13_62, hw_48, h⟩ := h
          obtain ⟨r_65, w_63, hk_64, h⟩ := h
          refine rn_cal0 (ins := .invokevirtual 50) (rest := []) rfl rfl rfl rfl (zinv_v (fs := _) hw_48 rfl rfl rfl rfl) rfl rfl hk_64 ?_
          show Zr sc 79 60 [zp a0, zj x1, zj x2, zj x3, zj x4, v5] [zj r_65] w_63 ov w' c s
          refine rl_bi rfl (by decide) ?_
          show Zr sc 79 62 [zp a0, zj x1, zj x2, zj x3, zj x4, v5] [zj 8, zj r_65] w_63 ov w' c s
          obtain ⟨hm_66, h⟩ := h
          refine Zr_mx (b := true) (ins := .invokestatic 42) (rest := []) rfl rfl rfl rfl (zinv_t2 (rest := []) rfl rfl rfl rfl rfl) rfl (zmx_j hm_66.1 hm_66.2) ?_
          show Zr sc 79 65 [zp a0, zj x1, zj x2, zj x3, zj x4, v5] [zj (max r_65 8)] w_63 ov w' c s
          refine Zr_st (q := (67, [zp a0, zj x1, zj x2, zj x3, zj x4, zj (max r_65 8)], [])) rfl rfl rfl ?_
          show Zr sc 79 67 [zp a0, zj x1, zj x2, zj x3, zj x4, zj (max r_65 8)] [] w_63 ov w' c s
          refine Zr_st (q := (68, [zp a0, zj x1, zj x2, zj x3, zj x4, zj (max r_65 8)], [zp a0])) rfl rfl rfl ?_
          show Zr sc 79 68 [zp a0, zj x1, zj x2, zj x3, zj x4, zj (max r_65 8)] [zp a0] w_63 ov w' c s
          obtain ⟨f0_68, f1_69, f2_70, f3_71, f4_72, f5_73, f6_74, f7_75, f8_76, f9_77, f10_78, f11_79, f12_80, f13_81, hw_67, h⟩ := h
          refine rl_gf rfl hw_67 rfl rfl ?_
          show Zr sc 79 71 [zp a0, zj x1, zj x2, zj x3, zj x4, zj (max r_65 8)] [zp f1_69] w_63 ov w' c s
          refine Zr_st (q := (72, [zp a0, zj x1, zj x2, zj x3, zj x4, zj (max r_65 8)], [zj x3, zp f1_69])) rfl rfl rfl ?_
          show Zr sc 79 72 [zp a0, zj x1, zj x2, zj x3, zj x4, zj (max r_65 8)] [zj x3, zp f1_69] w_63 ov w' c s
          refine Zr_st (q := (74, [zp a0, zj x1, zj x2, zj x3, zj x4, zj (max r_65 8)], [zj (max r_65 8), zj x3, zp f1_69])) rfl rfl rfl ?_
          show Zr sc 79 74 [zp a0, zj x1, zj x2, zj x3, zj x4, zj (max r_65 8)] [zj (max r_65 8), zj x3, zp f1_69] w_63 ov w' c s
          obtain ⟨f0_83, f1_84, f2_85, hw_82, h⟩ := h
          obtain ⟨w_86, hk_87, h⟩ := h
          refine rn_cal0 (ins := .invokevirtual 53) (rest := []) rfl rfl rfl rfl (zinv_v (fs := _) hw_82 rfl rfl rfl rfl) rfl rfl hk_87 ?_
          show Zr sc 79 77 [zp a0, zj x1, zj x2, zj x3, zj x4, zj (max r_65 8)] [] w_86 ov w' c s
          refine Zr_st (q := (78, [zp a0, zj x1, zj x2, zj x3, zj x4, zj (max r_65 8)], [zj x3])) rfl rfl rfl ?_
          show Zr sc 79 78 [zp a0, zj x1, zj x2, zj x3, zj x4, zj (max r_65 8)] [zj x3] w_86 ov w' c s
          refine Zr_st (q := (80, [zp a0, zj x1, zj x2, zj x3, zj x4, zj (max r_65 8)], [zj (max r_65 8), zj x3])) rfl rfl rfl ?_
          show Zr sc 79 80 [zp a0, zj x1, zj x2, zj x3, zj x4, zj (max r_65 8)] [zj (max r_65 8), zj x3] w_86 ov w' c s
          refine rl_add rfl ?_
          show Zr sc 79 81 [zp a0, zj x1, zj x2, zj x3, zj x4, zj (max r_65 8)] [zj (x3 + (max r_65 8))] w_86 ov w' c s
          refine Zr_st (q := (82, [zp a0, zj x1, zj x2, zj (x3 + (max r_65 8)), zj x4, zj (max r_65 8)], [])) rfl rfl rfl ?_
          show Zr sc 79 82 [zp a0, zj x1, zj x2, zj (x3 + (max r_65 8)), zj x4, zj (max r_65 8)] [] w_86 ov w' c s
          refine rl_inc rfl rfl rfl rfl ?_
          show Zr sc 79 85 [zp a0, zj x1, zj x2, zj (x3 + (max r_65 8)), zj (x4 + 1), zj (max r_65 8)] [] w_86 ov w' c s
          refine Zr_st (q := (5, [zp a0, zj x1, zj x2, zj (x3 + (max r_65 8)), zj (x4 + 1), zj (max r_65 8)], [])) rfl rfl rfl ?_
          show Zr sc 79 5 [zp a0, zj x1, zj x2, zj (x3 + (max r_65 8)), zj (x4 + 1), zj (max r_65 8)] [] w_86 ov w' c s
          exact h
        · replace h := h.2 hp
          show Zr sc 79 35 [zp a0, zj x1, zj x2, zj x3, zj x4, v5] [] w ov w' c s
          refine Zr_st (q := (36, [zp a0, zj x1, zj x2, zj x3, zj x4, v5], [zj x2])) rfl rfl rfl ?_
          show Zr sc 79 36 [zp a0, zj x1, zj x2, zj x3, zj x4, v5] [zj x2] w ov w' c s
          refine Zr_st (q := (37, [zp a0, zj x1, zj x2, zj x3, zj x4, v5], [zj x3, zj x2])) rfl rfl rfl ?_
          show Zr sc 79 37 [zp a0, zj x1, zj x2, zj x3, zj x4, v5] [zj x3, zj x2] w ov w' c s
          refine rl_sub rfl ?_
          show Zr sc 79 38 [zp a0, zj x1, zj x2, zj x3, zj x4, v5] [zj (x2 - x3)] w ov w' c s
          refine rl_si rfl (by decide) ?_
          show Zr sc 79 41 [zp a0, zj x1, zj x2, zj x3, zj x4, v5] [zj 128, zj (x2 - x3)] w ov w' c s
          obtain ⟨hd_88, h⟩ := h
          refine rl_div rfl hd_88.1 hd_88.2.1 hd_88.2.2.1 hd_88.2.2.2 ?_
          show Zr sc 79 42 [zp a0, zj x1, zj x2, zj x3, zj x4, v5] [zj ((x2 - x3) / 128)] w ov w' c s
          refine rl_si rfl (by decide) ?_
          show Zr sc 79 45 [zp a0, zj x1, zj x2, zj x3, zj x4, v5] [zj 128, zj ((x2 - x3) / 128)] w ov w' c s
          refine rl_mul rfl ?_
          show Zr sc 79 46 [zp a0, zj x1, zj x2, zj x3, zj x4, v5] [zj (((x2 - x3) / 128) * 128)] w ov w' c s
          refine Zr_st (q := (48, [zp a0, zj x1, zj x2, zj x3, zj x4, zj (((x2 - x3) / 128) * 128)], [])) rfl rfl rfl ?_
          show Zr sc 79 48 [zp a0, zj x1, zj x2, zj x3, zj x4, zj (((x2 - x3) / 128) * 128)] [] w ov w' c s
          refine Zr_st (q := (67, [zp a0, zj x1, zj x2, zj x3, zj x4, zj (((x2 - x3) / 128) * 128)], [])) rfl rfl rfl ?_
          show Zr sc 79 67 [zp a0, zj x1, zj x2, zj x3, zj x4, zj (((x2 - x3) / 128) * 128)] [] w ov w' c s
          refine Zr_st (q := (68, [zp a0, zj x1, zj x2, zj x3, zj x4, zj (((x2 - x3) / 128) * 128)], [zp a0])) rfl rfl rfl ?_
          show Zr sc 79 68 [zp a0, zj x1, zj x2, zj x3, zj x4, zj (((x2 - x3) / 128) * 128)] [zp a0] w ov w' c s
          obtain ⟨f0_90, f1_91, f2_92, f3_93, f4_94, f5_95, f6_96, f7_97, f8_98, f9_99, f10_100, f11_101, f12_102, f13_103, hw_89, h⟩ := h
          refine rl_gf rfl hw_89 rfl rfl ?_
          show Zr sc 79 71 [zp a0, zj x1, zj x2, zj x3, zj x4, zj (((x2 - x3) / 128) * 128)] [zp f1_91] w ov w' c s
          refine Zr_st (q := (72, [zp a0, zj x1, zj x2, zj x3, zj x4, zj (((x2 - x3) / 128) * 128)], [zj x3, zp f1_91])) rfl rfl rfl ?_
          show Zr sc 79 72 [zp a0, zj x1, zj x2, zj x3, zj x4, zj (((x2 - x3) / 128) * 128)] [zj x3, zp f1_91] w ov w' c s
          refine Zr_st (q := (74, [zp a0, zj x1, zj x2, zj x3, zj x4, zj (((x2 - x3) / 128) * 128)], [zj (((x2 - x3) / 128) * 128), zj x3, zp f1_91])) rfl rfl rfl ?_
          show Zr sc 79 74 [zp a0, zj x1, zj x2, zj x3, zj x4, zj (((x2 - x3) / 128) * 128)] [zj (((x2 - x3) / 128) * 128), zj x3, zp f1_91] w ov w' c s
          obtain ⟨f0_105, f1_106, f2_107, hw_104, h⟩ := h
          obtain ⟨w_108, hk_109, h⟩ := h
          refine rn_cal0 (ins := .invokevirtual 53) (rest := []) rfl rfl rfl rfl (zinv_v (fs := _) hw_104 rfl rfl rfl rfl) rfl rfl hk_109 ?_
          show Zr sc 79 77 [zp a0, zj x1, zj x2, zj x3, zj x4, zj (((x2 - x3) / 128) * 128)] [] w_108 ov w' c s
          refine Zr_st (q := (78, [zp a0, zj x1, zj x2, zj x3, zj x4, zj (((x2 - x3) / 128) * 128)], [zj x3])) rfl rfl rfl ?_
          show Zr sc 79 78 [zp a0, zj x1, zj x2, zj x3, zj x4, zj (((x2 - x3) / 128) * 128)] [zj x3] w_108 ov w' c s
          refine Zr_st (q := (80, [zp a0, zj x1, zj x2, zj x3, zj x4, zj (((x2 - x3) / 128) * 128)], [zj (((x2 - x3) / 128) * 128), zj x3])) rfl rfl rfl ?_
          show Zr sc 79 80 [zp a0, zj x1, zj x2, zj x3, zj x4, zj (((x2 - x3) / 128) * 128)] [zj (((x2 - x3) / 128) * 128), zj x3] w_108 ov w' c s
          refine rl_add rfl ?_
          show Zr sc 79 81 [zp a0, zj x1, zj x2, zj x3, zj x4, zj (((x2 - x3) / 128) * 128)] [zj (x3 + (((x2 - x3) / 128) * 128))] w_108 ov w' c s
          refine Zr_st (q := (82, [zp a0, zj x1, zj x2, zj (x3 + (((x2 - x3) / 128) * 128)), zj x4, zj (((x2 - x3) / 128) * 128)], [])) rfl rfl rfl ?_
          show Zr sc 79 82 [zp a0, zj x1, zj x2, zj (x3 + (((x2 - x3) / 128) * 128)), zj x4, zj (((x2 - x3) / 128) * 128)] [] w_108 ov w' c s
          refine rl_inc rfl rfl rfl rfl ?_
          show Zr sc 79 85 [zp a0, zj x1, zj x2, zj (x3 + (((x2 - x3) / 128) * 128)), zj (x4 + 1), zj (((x2 - x3) / 128) * 128)] [] w_108 ov w' c s
          refine Zr_st (q := (5, [zp a0, zj x1, zj x2, zj (x3 + (((x2 - x3) / 128) * 128)), zj (x4 + 1), zj (((x2 - x3) / 128) * 128)], [])) rfl rfl rfl ?_
          show Zr sc 79 5 [zp a0, zj x1, zj x2, zj (x3 + (((x2 - x3) / 128) * 128)), zj (x4 + 1), zj (((x2 - x3) / 128) * 128)] [] w_108 ov w' c s
          exact h

-- HeapwrightLab$Slabs.classOf(I)I
set_option maxRecDepth 100000 in
theorem V80_0 {sc : List Value} {w w' : List zE} {ov : Option Value} {c s : Nat} {a0 : Nat} {x1 : Int} (h : ((zrg x1) ∧ ((x1 < 0 → (ov = some (zj (-1)) ∧ w' = w ∧ c = 0 ∧ s = 0)) ∧ (¬ (x1 < 0) → ((zrg x1 ∧ zrg 8) ∧ ((8 ≤ x1 → (ov = some (zj (-1)) ∧ w' = w ∧ c = 0 ∧ s = 0)) ∧ (¬ (8 ≤ x1) → (∃ f0_4 : Nat, ∃ f1_5 : Nat, ∃ f2_6 : Int, ∃ f3_7 : Int, ∃ f4_8 : Int, ∃ f5_9 : Int, ∃ f6_10 : Int, ∃ f7_11 : Nat, ∃ f8_12 : Nat, ∃ f9_13 : Int, ∃ f10_14 : Int, ∃ f11_15 : Int, ∃ f12_16 : Int, ∃ f13_17 : Nat, w[a0]? = some (zob 4 [zp f0_4, zp f1_5, zj f2_6, zj f3_7, zj f4_8, zj f5_9, zj f6_10, zp f7_11, zp f8_12, zj f9_13, zj f10_14, zj f11_15, zj f12_16, zp f13_17]) ∧ (∃ l_20 : List Int, w[f13_17]? = some (za l_20) ∧ ((0 ≤ x1 ∧ x1 < (l_20.length : Int) ∧ x1 ≤ 2147483647) ∧ (ov = some (zj (zgi l_20 x1)) ∧ w' = w ∧ c = 0 ∧ s = 0))))))))))) : Zr sc 80 0 [zp a0, zj x1] [] w ov w' c s := by
  refine Zr_st (q := (1, [zp a0, zj x1], [zj x1])) rfl rfl rfl ?_
  show Zr sc 80 1 [zp a0, zj x1] [zj x1] w ov w' c s
  obtain ⟨hr_1, h⟩ := h
  refine Zr_b0 (p := x1 < 0) rfl rfl (zcmp_0 (cnd := .lt) hr_1) (fun hp => ?_) (fun hp => ?_)
  · replace h := h.1 hp
    show Zr sc 80 19 [zp a0, zj x1] [] w ov w' c s
    refine rl_ic rfl ?_
    show Zr sc 80 20 [zp a0, zj x1] [zj (-1)] w ov w' c s
    obtain ⟨h1, h2, h3, h4⟩ := h
    subst h1; subst h2; subst h3; subst h4
    exact Zr_ret (ins := .ireturn) rfl rfl
  · replace h := h.2 hp
    show Zr sc 80 4 [zp a0, zj x1] [] w ov w' c s
    refine Zr_st (q := (5, [zp a0, zj x1], [zj x1])) rfl rfl rfl ?_
    show Zr sc 80 5 [zp a0, zj x1] [zj x1] w ov w' c s
    refine rl_bi rfl (by decide) ?_
    show Zr sc 80 7 [zp a0, zj x1] [zj 8, zj x1] w ov w' c s
    obtain ⟨hr_2, h⟩ := h
    refine Zr_br (p := 8 ≤ x1) rfl rfl (zcmp_j (cnd := .ge) hr_2.1 hr_2.2) (fun hp => ?_) (fun hp => ?_)
    · replace h := h.1 hp
      show Zr sc 80 19 [zp a0, zj x1] [] w ov w' c s
      refine rl_ic rfl ?_
      show Zr sc 80 20 [zp a0, zj x1] [zj (-1)] w ov w' c s
      obtain ⟨h1, h2, h3, h4⟩ := h
      subst h1; subst h2; subst h3; subst h4
      exact Zr_ret (ins := .ireturn) rfl rfl
    · replace h := h.2 hp
      show Zr sc 80 10 [zp a0, zj x1] [] w ov w' c s
      refine Zr_st (q := (11, [zp a0, zj x1], [zp a0])) rfl rfl rfl ?_
      show Zr sc 80 11 [zp a0, zj x1] [zp a0] w ov w' c s
      obtain ⟨f0_4, f1_5, f2_6, f3_7, f4_8, f5_9, f6_10, f7_11, f8_12, f9_13, f10_14, f11_15, f12_16, f13_17, hw_3, h⟩ := h
      refine rl_gf rfl hw_3 rfl rfl ?_
      show Zr sc 80 14 [zp a0, zj x1] [zp f13_17] w ov w' c s
      refine Zr_st (q := (15, [zp a0, zj x1], [zj x1, zp f13_17])) rfl rfl rfl ?_
      show Zr sc 80 15 [zp a0, zj x1] [zj x1, zp f13_17] w ov w' c s
      obtain ⟨l_20, hw_19, h⟩ := h
      obtain ⟨hi_18, h⟩ := h
      refine rl_ia rfl hw_19 hi_18.1 hi_18.2.1 hi_18.2.2 ?_
      show Zr sc 80 16 [zp a0, zj x1] [zj (zgi l_20 x1)] w ov w' c s
      refine Zr_st (q := (20, [zp a0, zj x1], [zj (zgi l_20 x1)])) rfl rfl rfl ?_
      show Zr sc 80 20 [zp a0, zj x1] [zj (zgi l_20 x1)] w ov w' c s
      obtain ⟨h1, h2, h3, h4⟩ := h
      subst h1; subst h2; subst h3; subst h4
      exact Zr_ret (ins := .ireturn) rfl rfl

-- HeapwrightLab$Memory.handBehind(I)V
set_option maxRecDepth 100000 in
theorem V81_0_1 {sc : List Value} {w w' : List zE} {ov : Option Value} {c s : Nat} {a0 : Nat} {x1 : Int} (h : ((zrg x1 ∧ zrg 1024) ∧ ((1024 ≤ x1 → (∃ f0_3 : Nat, ∃ f1_4 : Nat, ∃ f2_5 : Int, ∃ f3_6 : Int, ∃ f4_7 : Int, ∃ f5_8 : Int, ∃ f6_9 : Int, ∃ f7_10 : Nat, ∃ f8_11 : Nat, ∃ f9_12 : Int, ∃ f10_13 : Int, ∃ f11_14 : Int, ∃ f12_15 : Int, w[a0]? = some (zob 1 [zp f0_3, zp f1_4, zj f2_5, zj f3_6, zj f4_7, zj f5_8, zj f6_9, zp f7_10, zp f8_11, zj f9_12, zj f10_13, zj f11_14, zj f12_15]) ∧ (ov = none ∧ w' = (w.set a0 (zob 1 [zp f0_3, zp f1_4, zj f2_5, zj f3_6, zj f4_7, zj 0, zj f6_9, zp f7_10, zp f8_11, zj f9_12, zj f10_13, zj f11_14, zj f12_15])) ∧ c = 0 ∧ s = 0))) ∧ (¬ (1024 ≤ x1) → (∃ f0_17 : Nat, ∃ f1_18 : Nat, ∃ f2_19 : Int, ∃ f3_20 : Int, ∃ f4_21 : Int, ∃ f5_22 : Int, ∃ f6_23 : Int, ∃ f7_24 : Nat, ∃ f8_25 : Nat, ∃ f9_26 : Int, ∃ f10_27 : Int, ∃ f11_28 : Int, ∃ f12_29 : Int, w[a0]? = some (zob 1 [zp f0_17, zp f1_18, zj f2_19, zj f3_20, zj f4_21, zj f5_22, zj f6_23, zp f7_24, zp f8_25, zj f9_26, zj f10_27, zj f11_28, zj f12_29]) ∧ (ov = none ∧ w' = (w.set a0 (zob 1 [zp f0_17, zp f1_18, zj f2_19, zj f3_20, zj f4_21, zj x1, zj f6_23, zp f7_24, zp f8_25, zj f9_26, zj f10_27, zj f11_28, zj f12_29])) ∧ c = 0 ∧ s = 0)))))) : Zr sc 81 0 [zp a0, zj x1] [] w ov w' c s := by
  refine Zr_st (q := (1, [zp a0, zj x1], [zp a0])) rfl rfl rfl ?_
  show Zr sc 81 1 [zp a0, zj x1] [zp a0] w ov w' c s
  refine Zr_st (q := (2, [zp a0, zj x1], [zj x1, zp a0])) rfl rfl rfl ?_
  show Zr sc 81 2 [zp a0, zj x1] [zj x1, zp a0] w ov w' c s
  refine rl_si rfl (by decide) ?_
  show Zr sc 81 5 [zp a0, zj x1] [zj 1024, zj x1, zp a0] w ov w' c s
  obtain ⟨hr_1, h⟩ := h
  refine Zr_br (p := 1024 ≤ x1) rfl rfl (zcmp_j (cnd := .ge) hr_1.1 hr_1.2) (fun hp => ?_) (fun hp => ?_)
  · replace h := h.1 hp
    show Zr sc 81 12 [zp a0, zj x1] [zp a0] w ov w' c s
    refine rl_ic rfl ?_
    show Zr sc 81 13 [zp a0, zj x1] [zj 0, zp a0] w ov w' c s
    obtain ⟨f0_3, f1_4, f2_5, f3_6, f4_7, f5_8, f6_9, f7_10, f8_11, f9_12, f10_13, f11_14, f12_15, hw_2, h⟩ := h
    refine rl_pf rfl hw_2 rfl rfl rfl ?_
    show Zr sc 81 16 [zp a0, zj x1] [] (w.set a0 (zob 1 [zp f0_3, zp f1_4, zj f2_5, zj f3_6, zj f4_7, zj 0, zj f6_9, zp f7_10, zp f8_11, zj f9_12, zj f10_13, zj f11_14, zj f12_15])) ov w' c s
    obtain ⟨h1, h2, h3, h4⟩ := h
    subst h1; subst h2; subst h3; subst h4
    exact Zr_ret (ins := .return_) rfl rfl
  · replace h := h.2 hp
    show Zr sc 81 8 [zp a0, zj x1] [zp a0] w ov w' c s
    refine Zr_st (q := (9, [zp a0, zj x1], [zj x1, zp a0])) rfl rfl rfl ?_
    show Zr sc 81 9 [zp a0, zj x1] [zj x1, zp a0] w ov w' c s
    refine Zr_st (q := (13, [zp a0, zj x1], [zj x1, zp a0])) rfl rfl rfl ?_
    show Zr sc 81 13 [zp a0, zj x1] [zj x1, zp a0] w ov w' c s
    obtain ⟨f0_17, f1_18, f2_19, f3_20, f4_21, f5_22, f6_23, f7_24, f8_25, f9_26, f10_27, f11_28, f12_29, hw_16, h⟩ := h
    refine rl_pf rfl hw_16 rfl rfl rfl ?_
    show Zr sc 81 16 [zp a0, zj x1] [] (w.set a0 (zob 1 [zp f0_17, zp f1_18, zj f2_19, zj f3_20, zj f4_21, zj x1, zj f6_23, zp f7_24, zp f8_25, zj f9_26, zj f10_27, zj f11_28, zj f12_29])) ov w' c s
    obtain ⟨h1, h2, h3, h4⟩ := h
    subst h1; subst h2; subst h3; subst h4
    exact Zr_ret (ins := .return_) rfl rfl

-- HeapwrightLab$Memory.handBehind(I)V
set_option maxRecDepth 100000 in
theorem V81_0_2 {sc : List Value} {w w' : List zE} {ov : Option Value} {c s : Nat} {a0 : Nat} {x1 : Int} (h : ((zrg x1 ∧ zrg 1024) ∧ ((1024 ≤ x1 → (∃ f0_3 : Nat, ∃ f1_4 : Nat, ∃ f2_5 : Int, ∃ f3_6 : Int, ∃ f4_7 : Int, ∃ f5_8 : Int, ∃ f6_9 : Int, ∃ f7_10 : Nat, ∃ f8_11 : Nat, ∃ f9_12 : Int, ∃ f10_13 : Int, ∃ f11_14 : Int, ∃ f12_15 : Int, w[a0]? = some (zob 2 [zp f0_3, zp f1_4, zj f2_5, zj f3_6, zj f4_7, zj f5_8, zj f6_9, zp f7_10, zp f8_11, zj f9_12, zj f10_13, zj f11_14, zj f12_15]) ∧ (ov = none ∧ w' = (w.set a0 (zob 2 [zp f0_3, zp f1_4, zj f2_5, zj f3_6, zj f4_7, zj 0, zj f6_9, zp f7_10, zp f8_11, zj f9_12, zj f10_13, zj f11_14, zj f12_15])) ∧ c = 0 ∧ s = 0))) ∧ (¬ (1024 ≤ x1) → (∃ f0_17 : Nat, ∃ f1_18 : Nat, ∃ f2_19 : Int, ∃ f3_20 : Int, ∃ f4_21 : Int, ∃ f5_22 : Int, ∃ f6_23 : Int, ∃ f7_24 : Nat, ∃ f8_25 : Nat, ∃ f9_26 : Int, ∃ f10_27 : Int, ∃ f11_28 : Int, ∃ f12_29 : Int, w[a0]? = some (zob 2 [zp f0_17, zp f1_18, zj f2_19, zj f3_20, zj f4_21, zj f5_22, zj f6_23, zp f7_24, zp f8_25, zj f9_26, zj f10_27, zj f11_28, zj f12_29]) ∧ (ov = none ∧ w' = (w.set a0 (zob 2 [zp f0_17, zp f1_18, zj f2_19, zj f3_20, zj f4_21, zj x1, zj f6_23, zp f7_24, zp f8_25, zj f9_26, zj f10_27, zj f11_28, zj f12_29])) ∧ c = 0 ∧ s = 0)))))) : Zr sc 81 0 [zp a0, zj x1] [] w ov w' c s := by
  refine Zr_st (q := (1, [zp a0, zj x1], [zp a0])) rfl rfl rfl ?_
  show Zr sc 81 1 [zp a0, zj x1] [zp a0] w ov w' c s
  refine Zr_st (q := (2, [zp a0, zj x1], [zj x1, zp a0])) rfl rfl rfl ?_
  show Zr sc 81 2 [zp a0, zj x1] [zj x1, zp a0] w ov w' c s
  refine rl_si rfl (by decide) ?_
  show Zr sc 81 5 [zp a0, zj x1] [zj 1024, zj x1, zp a0] w ov w' c s
  obtain ⟨hr_1, h⟩ := h
  refine Zr_br (p := 1024 ≤ x1) rfl rfl (zcmp_j (cnd := .ge) hr_1.1 hr_1.2) (fun hp => ?_) (fun hp => ?_)
  · replace h := h.1 hp
    show Zr sc 81 12 [zp a0, zj x1] [zp a0] w ov w' c s
    refine rl_ic rfl ?_
    show Zr sc 81 13 [zp a0, zj x1] [zj 0, zp a0] w ov w' c s
    obtain ⟨f0_3, f1_4, f2_5, f3_6, f4_7, f5_8, f6_9, f7_10, f8_11, f9_12, f10_13, f11_14, f12_15, hw_2, h⟩ := h
    refine rl_pf rfl hw_2 rfl rfl rfl ?_
    show Zr sc 81 16 [zp a0, zj x1] [] (w.set a0 (zob 2 [zp f0_3, zp f1_4, zj f2_5, zj f3_6, zj f4_7, zj 0, zj f6_9, zp f7_10, zp f8_11, zj f9_12, zj f10_13, zj f11_14, zj f12_15])) ov w' c s
    obtain ⟨h1, h2, h3, h4⟩ := h
    subst h1; subst h2; subst h3; subst h4
    exact Zr_ret (ins := .return_) rfl rfl
  · replace h := h.2 hp
    show Zr sc 81 8 [zp a0, zj x1] [zp a0] w ov w' c s
    refine Zr_st (q := (9, [zp a0, zj x1], [zj x1, zp a0])) rfl rfl rfl ?_
    show Zr sc 81 9 [zp a0, zj x1] [zj x1, zp a0] w ov w' c s
    refine Zr_st (q := (13, [zp a0, zj x1], [zj x1, zp a0])) rfl rfl rfl ?_
    show Zr sc 81 13 [zp a0, zj x1] [zj x1, zp a0] w ov w' c s
    obtain ⟨f0_17, f1_18, f2_19, f3_20, f4_21, f5_22, f6_23, f7_24, f8_25, f9_26, f10_27, f11_28, f12_29, hw_16, h⟩ := h
    refine rl_pf rfl hw_16 rfl rfl rfl ?_
    show Zr sc 81 16 [zp a0, zj x1] [] (w.set a0 (zob 2 [zp f0_17, zp f1_18, zj f2_19, zj f3_20, zj f4_21, zj x1, zj f6_23, zp f7_24, zp f8_25, zj f9_26, zj f10_27, zj f11_28, zj f12_29])) ov w' c s
    obtain ⟨h1, h2, h3, h4⟩ := h
    subst h1; subst h2; subst h3; subst h4
    exact Zr_ret (ins := .return_) rfl rfl

-- HeapwrightLab$Memory.handBehind(I)V
set_option maxRecDepth 100000 in
theorem V81_0_4 {sc : List Value} {w w' : List zE} {ov : Option Value} {c s : Nat} {a0 : Nat} {x1 : Int} (h : ((zrg x1 ∧ zrg 1024) ∧ ((1024 ≤ x1 → (∃ f0_3 : Nat, ∃ f1_4 : Nat, ∃ f2_5 : Int, ∃ f3_6 : Int, ∃ f4_7 : Int, ∃ f5_8 : Int, ∃ f6_9 : Int, ∃ f7_10 : Nat, ∃ f8_11 : Nat, ∃ f9_12 : Int, ∃ f10_13 : Int, ∃ f11_14 : Int, ∃ f12_15 : Int, ∃ f13_16 : Nat, w[a0]? = some (zob 4 [zp f0_3, zp f1_4, zj f2_5, zj f3_6, zj f4_7, zj f5_8, zj f6_9, zp f7_10, zp f8_11, zj f9_12, zj f10_13, zj f11_14, zj f12_15, zp f13_16]) ∧ (ov = none ∧ w' = (w.set a0 (zob 4 [zp f0_3, zp f1_4, zj f2_5, zj f3_6, zj f4_7, zj 0, zj f6_9, zp f7_10, zp f8_11, zj f9_12, zj f10_13, zj f11_14, zj f12_15, zp f13_16])) ∧ c = 0 ∧ s = 0))) ∧ (¬ (1024 ≤ x1) → (∃ f0_18 : Nat, ∃ f1_19 : Nat, ∃ f2_20 : Int, ∃ f3_21 : Int, ∃ f4_22 : Int, ∃ f5_23 : Int, ∃ f6_24 : Int, ∃ f7_25 : Nat, ∃ f8_26 : Nat, ∃ f9_27 : Int, ∃ f10_28 : Int, ∃ f11_29 : Int, ∃ f12_30 : Int, ∃ f13_31 : Nat, w[a0]? = some (zob 4 [zp f0_18, zp f1_19, zj f2_20, zj f3_21, zj f4_22, zj f5_23, zj f6_24, zp f7_25, zp f8_26, zj f9_27, zj f10_28, zj f11_29, zj f12_30, zp f13_31]) ∧ (ov = none ∧ w' = (w.set a0 (zob 4 [zp f0_18, zp f1_19, zj f2_20, zj f3_21, zj f4_22, zj x1, zj f6_24, zp f7_25, zp f8_26, zj f9_27, zj f10_28, zj f11_29, zj f12_30, zp f13_31])) ∧ c = 0 ∧ s = 0)))))) : Zr sc 81 0 [zp a0, zj x1] [] w ov w' c s := by
  refine Zr_st (q := (1, [zp a0, zj x1], [zp a0])) rfl rfl rfl ?_
  show Zr sc 81 1 [zp a0, zj x1] [zp a0] w ov w' c s
  refine Zr_st (q := (2, [zp a0, zj x1], [zj x1, zp a0])) rfl rfl rfl ?_
  show Zr sc 81 2 [zp a0, zj x1] [zj x1, zp a0] w ov w' c s
  refine rl_si rfl (by decide) ?_
  show Zr sc 81 5 [zp a0, zj x1] [zj 1024, zj x1, zp a0] w ov w' c s
  obtain ⟨hr_1, h⟩ := h
  refine Zr_br (p := 1024 ≤ x1) rfl rfl (zcmp_j (cnd := .ge) hr_1.1 hr_1.2) (fun hp => ?_) (fun hp => ?_)
  · replace h := h.1 hp
    show Zr sc 81 12 [zp a0, zj x1] [zp a0] w ov w' c s
    refine rl_ic rfl ?_
    show Zr sc 81 13 [zp a0, zj x1] [zj 0, zp a0] w ov w' c s
    obtain ⟨f0_3, f1_4, f2_5, f3_6, f4_7, f5_8, f6_9, f7_10, f8_11, f9_12, f10_13, f11_14, f12_15, f13_16, hw_2, h⟩ := h
    refine rl_pf rfl hw_2 rfl rfl rfl ?_
    show Zr sc 81 16 [zp a0, zj x1] [] (w.set a0 (zob 4 [zp f0_3, zp f1_4, zj f2_5, zj f3_6, zj f4_7, zj 0, zj f6_9, zp f7_10, zp f8_11, zj f9_12, zj f10_13, zj f11_14, zj f12_15, zp f13_16])) ov w' c s
    obtain ⟨h1, h2, h3, h4⟩ := h
    subst h1; subst h2; subst h3; subst h4
    exact Zr_ret (ins := .return_) rfl rfl
  · replace h := h.2 hp
    show Zr sc 81 8 [zp a0, zj x1] [zp a0] w ov w' c s
    refine Zr_st (q := (9, [zp a0, zj x1], [zj x1, zp a0])) rfl rfl rfl ?_
    show Zr sc 81 9 [zp a0, zj x1] [zj x1, zp a0] w ov w' c s
    refine Zr_st (q := (13, [zp a0, zj x1], [zj x1, zp a0])) rfl rfl rfl ?_
    show Zr sc 81 13 [zp a0, zj x1] [zj x1, zp a0] w ov w' c s
    obtain ⟨f0_18, f1_19, f2_20, f3_21, f4_22, f5_23, f6_24, f7_25, f8_26, f9_27, f10_28, f11_29, f12_30, f13_31, hw_17, h⟩ := h
    refine rl_pf rfl hw_17 rfl rfl rfl ?_
    show Zr sc 81 16 [zp a0, zj x1] [] (w.set a0 (zob 4 [zp f0_18, zp f1_19, zj f2_20, zj f3_21, zj f4_22, zj x1, zj f6_24, zp f7_25, zp f8_26, zj f9_27, zj f10_28, zj f11_29, zj f12_30, zp f13_31])) ov w' c s
    obtain ⟨h1, h2, h3, h4⟩ := h
    subst h1; subst h2; subst h3; subst h4
    exact Zr_ret (ins := .return_) rfl rfl

-- HeapwrightLab$Trace.nameOf(I)I
set_option maxRecDepth 100000 in
theorem V82_0 {sc : List Value} {w w' : List zE} {ov : Option Value} {c s : Nat} {a0 : Nat} {x1 : Int} (h : (∃ f0_2 : Nat, ∃ f1_3 : Nat, ∃ f2_4 : Nat, ∃ f3_5 : Int, w[a0]? = some (zob 5 [zp f0_2, zp f1_3, zp f2_4, zj f3_5]) ∧ (∃ r_8 : Int, ∃ w_6 : List zE, Zc sc 60 [zp a0, zj x1] w (some (zj r_8)) w_6 0 0 ∧ ((zrg r_8) ∧ ((r_8 = 0 → (ov = some (zj (-1)) ∧ w' = w_6 ∧ c = 0 ∧ s = 0)) ∧ (¬ (r_8 = 0) → (∃ f0_11 : Nat, ∃ f1_12 : Nat, ∃ f2_13 : Nat, ∃ f3_14 : Int, w_6[a0]? = some (zob 5 [zp f0_11, zp f1_12, zp f2_13, zj f3_14]) ∧ (∃ l_17 : List Int, w_6[f1_12]? = some (za l_17) ∧ ((0 ≤ x1 ∧ x1 < (l_17.length : Int) ∧ x1 ≤ 2147483647) ∧ (ov = some (zj (zgi l_17 x1)) ∧ w' = w_6 ∧ c = 0 ∧ s = 0)))))))))) : Zr sc 82 0 [zp a0, zj x1] [] w ov w' c s := by
  refine Zr_st (q := (1, [zp a0, zj x1], [zp a0])) rfl rfl rfl ?_
  show Zr sc 82 1 [zp a0, zj x1] [zp a0] w ov w' c s
  refine Zr_st (q := (2, [zp a0, zj x1], [zj x1, zp a0])) rfl rfl rfl ?_
  show Zr sc 82 2 [zp a0, zj x1] [zj x1, zp a0] w ov w' c s
  obtain ⟨f0_2, f1_3, f2_4, f3_5, hw_1, h⟩ := h
  obtain ⟨r_8, w_6, hk_7, h⟩ := h
  refine rn_cal0 (ins := .invokevirtual 25) (rest := []) rfl rfl rfl rfl (zinv_v (fs := _) hw_1 rfl rfl rfl rfl) rfl rfl hk_7 ?_
  show Zr sc 82 5 [zp a0, zj x1] [zj r_8] w_6 ov w' c s
  obtain ⟨hr_9, h⟩ := h
  refine Zr_b0 (p := r_8 = 0) rfl rfl (zcmp_0 (cnd := .eq) hr_9) (fun hp => ?_) (fun hp => ?_)
  · replace h := h.1 hp
    show Zr sc 82 17 [zp a0, zj x1] [] w_6 ov w' c s
    refine rl_ic rfl ?_
    show Zr sc 82 18 [zp a0, zj x1] [zj (-1)] w_6 ov w' c s
    obtain ⟨h1, h2, h3, h4⟩ := h
    subst h1; subst h2; subst h3; subst h4
    exact Zr_ret (ins := .ireturn) rfl rfl
  · replace h := h.2 hp
    show Zr sc 82 8 [zp a0, zj x1] [] w_6 ov w' c s
    refine Zr_st (q := (9, [zp a0, zj x1], [zp a0])) rfl rfl rfl ?_
    show Zr sc 82 9 [zp a0, zj x1] [zp a0] w_6 ov w' c s
    obtain ⟨f0_11, f1_12, f2_13, f3_14, hw_10, h⟩ := h
    refine rl_gf rfl hw_10 rfl rfl ?_
    show Zr sc 82 12 [zp a0, zj x1] [zp f1_12] w_6 ov w' c s
    refine Zr_st (q := (13, [zp a0, zj x1], [zj x1, zp f1_12])) rfl rfl rfl ?_
    show Zr sc 82 13 [zp a0, zj x1] [zj x1, zp f1_12] w_6 ov w' c s
    obtain ⟨l_17, hw_16, h⟩ := h
    obtain ⟨hi_15, h⟩ := h
    refine rl_ia rfl hw_16 hi_15.1 hi_15.2.1 hi_15.2.2 ?_
    show Zr sc 82 14 [zp a0, zj x1] [zj (zgi l_17 x1)] w_6 ov w' c s
    refine Zr_st (q := (18, [zp a0, zj x1], [zj (zgi l_17 x1)])) rfl rfl rfl ?_
    show Zr sc 82 18 [zp a0, zj x1] [zj (zgi l_17 x1)] w_6 ov w' c s
    obtain ⟨h1, h2, h3, h4⟩ := h
    subst h1; subst h2; subst h3; subst h4
    exact Zr_ret (ins := .ireturn) rfl rfl

-- HeapwrightLab$Memory.release(I)V
set_option maxRecDepth 100000 in
theorem V83_0_1 {sc : List Value} {w w' : List zE} {ov : Option Value} {c s : Nat} {a0 : Nat} {x1 : Int} (h : (∃ f0_2 : Nat, ∃ f1_3 : Nat, ∃ f2_4 : Int, ∃ f3_5 : Int, ∃ f4_6 : Int, ∃ f5_7 : Int, ∃ f6_8 : Int, ∃ f7_9 : Nat, ∃ f8_10 : Nat, ∃ f9_11 : Int, ∃ f10_12 : Int, ∃ f11_13 : Int, ∃ f12_14 : Int, w[a0]? = some (zob 1 [zp f0_2, zp f1_3, zj f2_4, zj f3_5, zj f4_6, zj f5_7, zj f6_8, zp f7_9, zp f8_10, zj f9_11, zj f10_12, zj f11_13, zj f12_14]) ∧ (∃ f0_16 : Nat, ∃ f1_17 : Nat, ∃ f2_18 : Nat, ∃ f3_19 : Nat, ∃ f4_20 : Int, ∃ f5_21 : Int, w[f0_2]? = some (zob 0 [zp f0_16, zp f1_17, zp f2_18, zp f3_19, zj f4_20, zj f5_21]) ∧ (∃ r_24 : Int, ∃ w_22 : List zE, Zc sc 7 [zp f0_2, zj x1] w (some (zj r_24)) w_22 0 0 ∧ ((zrg r_24) ∧ ((r_24 ≠ 0 → (∃ f0_27 : Nat, ∃ f1_28 : Nat, ∃ f2_29 : Int, ∃ f3_30 : Int, ∃ f4_31 : Int, ∃ f5_32 : Int, ∃ f6_33 : Int, ∃ f7_34 : Nat, ∃ f8_35 : Nat, ∃ f9_36 : Int, ∃ f10_37 : Int, ∃ f11_38 : Int, ∃ f12_39 : Int, w_22[a0]? = some (zob 1 [zp f0_27, zp f1_28, zj f2_29, zj f3_30, zj f4_31, zj f5_32, zj f6_33, zp f7_34, zp f8_35, zj f9_36, zj f10_37, zj f11_38, zj f12_39]) ∧ (∃ f0_41 : Nat, ∃ f1_42 : Nat, ∃ f2_43 : Nat, ∃ f3_44 : Nat, ∃ f4_45 : Int, ∃ f5_46 : Int, w_22[f0_27]? = some (zob 0 [zp f0_41, zp f1_42, zp f2_43, zp f3_44, zj f4_45, zj f5_46]) ∧ (∃ r_49 : Int, ∃ w_47 : List zE, Zc sc 9 [zp f0_27, zj x1] w_22 (some (zj r_49)) w_47 0 0 ∧ (∃ f0_51 : Nat, ∃ f1_52 : Nat, ∃ f2_53 : Int, ∃ f3_54 : Int, ∃ f4_55 : Int, ∃ f5_56 : Int, ∃ f6_57 : Int, ∃ f7_58 : Nat, ∃ f8_59 : Nat, ∃ f9_60 : Int, ∃ f10_61 : Int, ∃ f11_62 : Int, ∃ f12_63 : Int, w_47[a0]? = some (zob 1 [zp f0_51, zp f1_52, zj f2_53, zj f3_54, zj f4_55, zj f5_56, zj f6_57, zp f7_58, zp f8_59, zj f9_60, zj f10_61, zj f11_62, zj f12_63]) ∧ (∃ f0_65 : Nat, ∃ f1_66 : Nat, ∃ f2_67 : Nat, ∃ f3_68 : Nat, ∃ f4_69 : Int, ∃ f5_70 : Int, w_47[f0_51]? = some (zob 0 [zp f0_65, zp f1_66, zp f2_67, zp f3_68, zj f4_69, zj f5_70]) ∧ (∃ r_73 : Int, ∃ w_71 : List zE, Zc sc 13 [zp f0_51, zj x1] w_47 (some (zj r_73)) w_71 0 0 ∧ (∃ f0_75 : Nat, ∃ f1_76 : Nat, ∃ f2_77 : Int, ∃ f3_78 : Int, ∃ f4_79 : Int, ∃ f5_80 : Int, ∃ f6_81 : Int, ∃ f7_82 : Nat, ∃ f8_83 : Nat, ∃ f9_84 : Int, ∃ f10_85 : Int, ∃ f11_86 : Int, ∃ f12_87 : Int, w_71[a0]? = some (zob 1 [zp f0_75, zp f1_76, zj f2_77, zj f3_78, zj f4_79, zj f5_80, zj f6_81, zp f7_82, zp f8_83, zj f9_84, zj f10_85, zj f11_86, zj f12_87]) ∧ (∃ f0_89 : Nat, ∃ f1_90 : Nat, ∃ f2_91 : Nat, ∃ f3_92 : Nat, ∃ f4_93 : Int, ∃ f5_94 : Int, w_71[f0_75]? = some (zob 0 [zp f0_89, zp f1_90, zp f2_91, zp f3_92, zj f4_93, zj f5_94]) ∧ (∃ w_95 : List zE, Zc sc 84 [zp f0_75, zj x1] w_71 none w_95 0 0 ∧ (∃ f0_98 : Nat, ∃ f1_99 : Nat, ∃ f2_100 : Int, ∃ f3_101 : Int, ∃ f4_102 : Int, ∃ f5_103 : Int, ∃ f6_104 : Int, ∃ f7_105 : Nat, ∃ f8_106 : Nat, ∃ f9_107 : Int, ∃ f10_108 : Int, ∃ f11_109 : Int, ∃ f12_110 : Int, w_95[a0]? = some (zob 1 [zp f0_98, zp f1_99, zj f2_100, zj f3_101, zj f4_102, zj f5_103, zj f6_104, zp f7_105, zp f8_106, zj f9_107, zj f10_108, zj f11_109, zj f12_110]) ∧ (∃ w_111 : List zE, Zc sc 69 [zp a0] w_95 none w_111 0 0 ∧ (∃ f0_114 : Nat, ∃ f1_115 : Nat, ∃ f2_116 : Int, ∃ f3_117 : Int, ∃ f4_118 : Int, ∃ f5_119 : Int, ∃ f6_120 : Int, ∃ f7_121 : Nat, ∃ f8_122 : Nat, ∃ f9_123 : Int, ∃ f10_124 : Int, ∃ f11_125 : Int, ∃ f12_126 : Int, w_111[a0]? = some (zob 1 [zp f0_114, zp f1_115, zj f2_116, zj f3_117, zj f4_118, zj f5_119, zj f6_120, zp f7_121, zp f8_122, zj f9_123, zj f10_124, zj f11_125, zj f12_126]) ∧ (∃ r_129 : Int, ∃ w_127 : List zE, Zc sc 87 [zp a0, zj r_49, zj r_73] w_111 (some (zj r_129)) w_127 0 0 ∧ (∃ f0_131 : Nat, ∃ f1_132 : Nat, ∃ f2_133 : Int, ∃ f3_134 : Int, ∃ f4_135 : Int, ∃ f5_136 : Int, ∃ f6_137 : Int, ∃ f7_138 : Nat, ∃ f8_139 : Nat, ∃ f9_140 : Int, ∃ f10_141 : Int, ∃ f11_142 : Int, ∃ f12_143 : Int, w_127[a0]? = some (zob 1 [zp f0_131, zp f1_132, zj f2_133, zj f3_134, zj f4_135, zj f5_136, zj f6_137, zp f7_138, zp f8_139, zj f9_140, zj f10_141, zj f11_142, zj f12_143]) ∧ (∃ w_144 : List zE, Zc sc 64 [zp a0, zj 2, zj r_129] w_127 none w_144 0 0 ∧ (ov = none ∧ w' = w_144 ∧ c = 0 ∧ s = 0))))))))))))))))) ∧ (¬ (r_24 ≠ 0) → (ov = none ∧ w' = w_22 ∧ c = 0 ∧ s = 0)))))))) : Zr sc 83 0 [zp a0, zj x1, zmk, zmk] [] w ov w' c s := by
  refine Zr_st (q := (1, [zp a0, zj x1, zmk, zmk], [zp a0])) rfl rfl rfl ?_
  show Zr sc 83 1 [zp a0, zj x1, zmk, zmk] [zp a0] w ov w' c s
  obtain ⟨f0_2, f1_3, f2_4, f3_5, f4_6, f5_7, f6_8, f7_9, f8_10, f9_11, f10_12, f11_13, f12_14, hw_1, h⟩ := h
  refine rl_gf rfl hw_1 rfl rfl ?_
  show Zr sc 83 4 [zp a0, zj x1, zmk, zmk] [zp f0_2] w ov w' c s
  refine Zr_st (q := (5, [zp a0, zj x1, zmk, zmk], [zj x1, zp f0_2])) rfl rfl rfl ?_
  show Zr sc 83 5 [zp a0, zj x1, zmk, zmk] [zj x1, zp f0_2] w ov w' c s
  obtain ⟨f0_16, f1_17, f2_18, f3_19, f4_20, f5_21, hw_15, h⟩ := h
  obtain ⟨r_24, w_22, hk_23, h⟩ := h
  refine rn_cal0 (ins := .invokevirtual 175) (rest := []) rfl rfl rfl rfl (zinv_v (fs := _) hw_15 rfl rfl rfl rfl) rfl rfl hk_23 ?_
  show Zr sc 83 8 [zp a0, zj x1, zmk, zmk] [zj r_24] w_22 ov w' c s
  obtain ⟨hr_25, h⟩ := h
  refine Zr_b0 (p := r_24 ≠ 0) rfl rfl (zcmp_0 (cnd := .ne) hr_25) (fun hp => ?_) (fun hp => ?_)
  · replace h := h.1 hp
    show Zr sc 83 12 [zp a0, zj x1, zmk, zmk] [] w_22 ov w' c s
    refine Zr_st (q := (13, [zp a0, zj x1, zmk, zmk], [zp a0])) rfl rfl rfl ?_
    show Zr sc 83 13 [zp a0, zj x1, zmk, zmk] [zp a0] w_22 ov w' c s
    obtain ⟨f0_27, f1_28, f2_29, f3_30, f4_31, f5_32, f6_33, f7_34, f8_35, f9_36, f10_37, f11_38, f12_39, hw_26, h⟩ := h
    refine rl_gf rfl hw_26 rfl rfl ?_
    show Zr sc 83 16 [zp a0, zj x1, zmk, zmk] [zp f0_27] w_22 ov w' c s
    refine Zr_st (q := (17, [zp a0, zj x1, zmk, zmk], [zj x1, zp f0_27])) rfl rfl rfl ?_
    show Zr sc 83 17 [zp a0, zj x1, zmk, zmk] [zj x1, zp f0_27] w_22 ov w' c s
    obtain ⟨f0_41, f1_42, f2_43, f3_44, f4_45, f5_46, hw_40, h⟩ := h
    obtain ⟨r_49, w_47, hk_48, h⟩ := h
    refine rn_cal0 (ins := .invokevirtual 136) (rest := []) rfl rfl rfl rfl (zinv_v (fs := _) hw_40 rfl rfl rfl rfl) rfl rfl hk_48 ?_
    show Zr sc 83 20 [zp a0, zj x1, zmk, zmk] [zj r_49] w_47 ov w' c s
    refine Zr_st (q := (21, [zp a0, zj x1, zj r_49, zmk], [])) rfl rfl rfl ?_
    show Zr sc 83 21 [zp a0, zj x1, zj r_49, zmk] [] w_47 ov w' c s
    refine Zr_st (q := (22, [zp a0, zj x1, zj r_49, zmk], [zp a0])) rfl rfl rfl ?_
    show Zr sc 83 22 [zp a0, zj x1, zj r_49, zmk] [zp a0] w_47 ov w' c s
    obtain ⟨f0_51, f1_52, f2_53, f3_54, f4_55, f5_56, f6_57, f7_58, f8_59, f9_60, f10_61, f11_62, f12_63, hw_50, h⟩ := h
    refine rl_gf rfl hw_50 rfl rfl ?_
    show Zr sc 83 25 [zp a0, zj x1, zj r_49, zmk] [zp f0_51] w_47 ov w' c s
    refine Zr_st (q := (26, [zp a0, zj x1, zj r_49, zmk], [zj x1, zp f0_51])) rfl rfl rfl ?_
    show Zr sc 83 26 [zp a0, zj x1, zj r_49, zmk] [zj x1, zp f0_51] w_47 ov w' c s
    obtain ⟨f0_65, f1_66, f2_67, f3_68, f4_69, f5_70, hw_64, h⟩ := h
    obtain ⟨r_73, w_71, hk_72, h⟩ := h
    refine rn_cal0 (ins := .invokevirtual 138) (rest := []) rfl rfl rfl rfl (zinv_v (fs := _) hw_64 rfl rfl rfl rfl) rfl rfl hk_72 ?_
    show Zr sc 83 29 [zp a0, zj x1, zj r_49, zmk] [zj r_73] w_71 ov w' c s
    refine Zr_st (q := (30, [zp a0, zj x1, zj r_49, zj r_73], [])) rfl rfl rfl ?_
    show Zr sc 83 30 [zp a0, zj x1, zj r_49, zj r_73] [] w_71 ov w' c s
    refine Zr_st (q := (31, [zp a0, zj x1, zj r_49, zj r_73], [zp a0])) rfl rfl rfl ?_
    show Zr sc 83 31 [zp a0, zj x1, zj r_49, zj r_73] [zp a0] w_71 ov w' c s
    obtain ⟨f0_75, f1_76, f2_77, f3_78, f4_79, f5_80, f6_81, f7_82, f8_83, f9_84, f10_85, f11_86, f12_87, hw_74, h⟩ := h
    refine rl_gf rfl hw_74 rfl rfl ?_
    show Zr sc 83 34 [zp a0, zj x1, zj r_49, zj r_73] [zp f0_75] w_71 ov w' c s
    refine Zr_st (q := (35, [zp a0, zj x1, zj r_49, zj r_73], [zj x1, zp f0_75])) rfl rfl rfl ?_
    show Zr sc 83 35 [zp a0, zj x1, zj r_49, zj r_73] [zj x1, zp f0_75] w_71 ov w' c s
    obtain ⟨f0_89, f1_90, f2_91, f3_92, f4_93, f5_94, hw_88, h⟩ := h
    obtain ⟨w_95, hk_96, h⟩ := h
    refine rn_cal0 (ins := .invokevirtual 141) (rest := []) rfl rfl rfl rfl (zinv_v (fs := _) hw_88 rfl rfl rfl rfl) rfl rfl hk_96 ?_
    show Zr sc 83 38 [zp a0, zj x1, zj r_49, zj r_73] [] w_95 ov w' c s
    refine Zr_st (q := (39, [zp a0, zj x1, zj r_49, zj r_73], [zp a0])) rfl rfl rfl ?_
    show Zr sc 83 39 [zp a0, zj x1, zj r_49, zj r_73] [zp a0] w_95 ov w' c s
    obtain ⟨f0_98, f1_99, f2_100, f3_101, f4_102, f5_103, f6_104, f7_105, f8_106, f9_107, f10_108, f11_109, f12_110, hw_97, h⟩ := h
    obtain ⟨w_111, hk_112, h⟩ := h
    refine rn_cal0 (ins := .invokevirtual 77) (rest := []) rfl rfl rfl rfl (zinv_v (fs := _) hw_97 rfl rfl rfl rfl) rfl rfl hk_112 ?_
    show Zr sc 83 42 [zp a0, zj x1, zj r_49, zj r_73] [] w_111 ov w' c s
    refine Zr_st (q := (43, [zp a0, zj x1, zj r_49, zj r_73], [zp a0])) rfl rfl rfl ?_
    show Zr sc 83 43 [zp a0, zj x1, zj r_49, zj r_73] [zp a0] w_111 ov w' c s
    refine rl_ic rfl ?_
    show Zr sc 83 44 [zp a0, zj x1, zj r_49, zj r_73] [zj 2, zp a0] w_111 ov w' c s
    refine Zr_st (q := (45, [zp a0, zj x1, zj r_49, zj r_73], [zp a0, zj 2, zp a0])) rfl rfl rfl ?_
    show Zr sc 83 45 [zp a0, zj x1, zj r_49, zj r_73] [zp a0, zj 2, zp a0] w_111 ov w' c s
    refine Zr_st (q := (46, [zp a0, zj x1, zj r_49, zj r_73], [zj r_49, zp a0, zj 2, zp a0])) rfl rfl rfl ?_
    show Zr sc 83 46 [zp a0, zj x1, zj r_49, zj r_73] [zj r_49, zp a0, zj 2, zp a0] w_111 ov w' c s
    refine Zr_st (q := (47, [zp a0, zj x1, zj r_49, zj r_73], [zj r_73, zj r_49, zp a0, zj 2, zp a0])) rfl rfl rfl ?_
    show Zr sc 83 47 [zp a0, zj x1, zj r_49, zj r_73] [zj r_73, zj r_49, zp a0, zj 2, zp a0] w_111 ov w' c s
    obtain ⟨f0_114, f1_115, f2_116, f3_117, f4_118, f5_119, f6_120, f7_121, f8_122, f9_123, f10_124, f11_125, f12_126, hw_113, h⟩ := h
    obtain ⟨r_129, w_127, hk_128, h⟩ := h
    refine rn_cal0 (ins := .invokevirtual 179) (rest := [zj 2, zp a0]) rfl rfl rfl rfl (zinv_v (fs := _) hw_113 rfl rfl rfl rfl) rfl rfl hk_128 ?_
    show Zr sc 83 50 [zp a0, zj x1, zj r_49, zj r_73] [zj r_129, zj 2, zp a0] w_127 ov w' c s
    obtain ⟨f0_131, f1_132, f2_133, f3_134, f4_135, f5_136, f6_137, f7_138, f8_139, f9_140, f10_141, f11_142, f12_143, hw_130, h⟩ := h
    obtain ⟨w_144, hk_145, h⟩ := h
    refine rn_cal0 (ins := .invokevirtual 169) (rest := []) rfl rfl rfl rfl (zinv_v (fs := _) hw_130 rfl rfl rfl rfl) rfl rfl hk_145 ?_
    show Zr sc 83 53 [zp a0, zj x1, zj r_49, zj r_73] [] w_144 ov w' c s
    obtain ⟨h1, h2, h3, h4⟩ := h
    subst h1; subst h2; subst h3; subst h4
    exact Zr_ret (ins := .return_) rfl rfl
  · replace h := h.2 hp
    show Zr sc 83 11 [zp a0, zj x1, zmk, zmk] [] w_22 ov w' c s
    obtain ⟨h1, h2, h3, h4⟩ := h
    subst h1; subst h2; subst h3; subst h4
    exact Zr_ret (ins := .return_) rfl rfl

-- HeapwrightLab$Memory.release(I)V
set_option maxRecDepth 100000 in
theorem V83_0_2 {sc : List Value} {w w' : List zE} {ov : Option Value} {c s : Nat} {a0 : Nat} {x1 : Int} (h : (∃ f0_2 : Nat, ∃ f1_3 : Nat, ∃ f2_4 : Int, ∃ f3_5 : Int, ∃ f4_6 : Int, ∃ f5_7 : Int, ∃ f6_8 : Int, ∃ f7_9 : Nat, ∃ f8_10 : Nat, ∃ f9_11 : Int, ∃ f10_12 : Int, ∃ f11_13 : Int, ∃ f12_14 : Int, w[a0]? = some (zob 2 [zp f0_2, zp f1_3, zj f2_4, zj f3_5, zj f4_6, zj f5_7, zj f6_8, zp f7_9, zp f8_10, zj f9_11, zj f10_12, zj f11_13, zj f12_14]) ∧ (∃ f0_16 : Nat, ∃ f1_17 : Nat, ∃ f2_18 : Nat, ∃ f3_19 : Nat, ∃ f4_20 : Int, ∃ f5_21 : Int, w[f0_2]? = some (zob 0 [zp f0_16, zp f1_17, zp f2_18, zp f3_19, zj f4_20, zj f5_21]) ∧ (∃ r_24 : Int, ∃ w_22 : List zE, Zc sc 7 [zp f0_2, zj x1] w (some (zj r_24)) w_22 0 0 ∧ ((zrg r_24) ∧ ((r_24 ≠ 0 → (∃ f0_27 : Nat, ∃ f1_28 : Nat, ∃ f2_29 : Int, ∃ f3_30 : Int, ∃ f4_31 : Int, ∃ f5_32 : Int, ∃ f6_33 : Int, ∃ f7_34 : Nat, ∃ f8_35 : Nat, ∃ f9_36 : Int, ∃ f10_37 : Int, ∃ f11_38 : Int, ∃ f12_39 : Int, w_22[a0]? = some (zob 2 [zp f0_27, zp f1_28, zj f2_29, zj f3_30, zj f4_31, zj f5_32, zj f6_33, zp f7_34, zp f8_35, zj f9_36, zj f10_37, zj f11_38, zj f12_39]) ∧ (∃ f0_41 : Nat, ∃ f1_42 : Nat, ∃ f2_43 : Nat, ∃ f3_44 : Nat, ∃ f4_45 : Int, ∃ f5_46 : Int, w_22[f0_27]? = some (zob 0 [zp f0_41, zp f1_42, zp f2_43, zp f3_44, zj f4_45, zj f5_46]) ∧ (∃ r_49 : Int, ∃ w_47 : List zE, Zc sc 9 [zp f0_27, zj x1] w_22 (some (zj r_49)) w_47 0 0 ∧ (∃ f0_51 : Nat, ∃ f1_52 : Nat, ∃ f2_53 : Int, ∃ f3_54 : Int, ∃ f4_55 : Int, ∃ f5_56 : Int, ∃ f6_57 : Int, ∃ f7_58 : Nat, ∃ f8_59 : Nat, ∃ f9_60 : Int, ∃ f10_61 : Int, ∃ f11_62 : Int, ∃ f12_63 : Int, w_47[a0]? = some (zob 2 [zp f0_51, zp f1_52, zj f2_53, zj f3_54, zj f4_55, zj f5_56, zj f6_57, zp f7_58, zp f8_59, zj f9_60, zj f10_61, zj f11_62, zj f12_63]) ∧ (∃ f0_65 : Nat, ∃ f1_66 : Nat, ∃ f2_67 : Nat, ∃ f3_68 : Nat, ∃ f4_69 : Int, ∃ f5_70 : Int, w_47[f0_51]? = some (zob 0 [zp f0_65, zp f1_66, zp f2_67, zp f3_68, zj f4_69, zj f5_70]) ∧ (∃ r_73 : Int, ∃ w_71 : List zE, Zc sc 13 [zp f0_51, zj x1] w_47 (some (zj r_73)) w_71 0 0 ∧ (∃ f0_75 : Nat, ∃ f1_76 : Nat, ∃ f2_77 : Int, ∃ f3_78 : Int, ∃ f4_79 : Int, ∃ f5_80 : Int, ∃ f6_81 : Int, ∃ f7_82 : Nat, ∃ f8_83 : Nat, ∃ f9_84 : Int, ∃ f10_85 : Int, ∃ f11_86 : Int, ∃ f12_87 : Int, w_71[a0]? = some (zob 2 [zp f0_75, zp f1_76, zj f2_77, zj f3_78, zj f4_79, zj f5_80, zj f6_81, zp f7_82, zp f8_83, zj f9_84, zj f10_85, zj f11_86, zj f12_87]) ∧ (∃ f0_89 : Nat, ∃ f1_90 : Nat, ∃ f2_91 : Nat, ∃ f3_92 : Nat, ∃ f4_93 : Int, ∃ f5_94 : Int, w_71[f0_75]? = some (zob 0 [zp f0_89, zp f1_90, zp f2_91, zp f3_92, zj f4_93, zj f5_94]) ∧ (∃ w_95 : List zE, Zc sc 84 [zp f0_75, zj x1] w_71 none w_95 0 0 ∧ (∃ f0_98 : Nat, ∃ f1_99 : Nat, ∃ f2_100 : Int, ∃ f3_101 : Int, ∃ f4_102 : Int, ∃ f5_103 : Int, ∃ f6_104 : Int, ∃ f7_105 : Nat, ∃ f8_106 : Nat, ∃ f9_107 : Int, ∃ f10_108 : Int, ∃ f11_109 : Int, ∃ f12_110 : Int, w_95[a0]? = some (zob 2 [zp f0_98, zp f1_99, zj f2_100, zj f3_101, zj f4_102, zj f5_103, zj f6_104, zp f7_105, zp f8_106, zj f9_107, zj f10_108, zj f11_109, zj f12_110]) ∧ (∃ w_111 : List zE, Zc sc 69 [zp a0] w_95 none w_111 0 0 ∧ (∃ f0_114 : Nat, ∃ f1_115 : Nat, ∃ f2_116 : Int, ∃ f3_117 : Int, ∃ f4_118 : Int, ∃ f5_119 : Int, ∃ f6_120 : Int, ∃ f7_121 : Nat, ∃ f8_122 : Nat, ∃ f9_123 : Int, ∃ f10_124 : Int, ∃ f11_125 : Int, ∃ f12_126 : Int, w_111[a0]? = some (zob 2 [zp f0_114, zp f1_115, zj f2_116, zj f3_117, zj f4_118, zj f5_119, zj f6_120, zp f7_121, zp f8_122, zj f9_123, zj f10_124, zj f11_125, zj f12_126]) ∧ (∃ r_129 : Int, ∃ w_127 : List zE, Zc sc 86 [zp a0, zj r_49, zj r_73] w_111 (some (zj r_129)) w_127 0 0 ∧ (∃ f0_131 : Nat, ∃ f1_132 : Nat, ∃ f2_133 : Int, ∃ f3_134 : Int, ∃ f4_135 : Int, ∃ f5_136 : Int, ∃ f6_137 : Int, ∃ f7_138 : Nat, ∃ f8_139 : Nat, ∃ f9_140 : Int, ∃ f10_141 : Int, ∃ f11_142 : Int, ∃ f12_143 : Int, w_127[a0]? = some (zob 2 [zp f0_131, zp f1_132, zj f2_133, zj f3_134, zj f4_135, zj f5_136, zj f6_137, zp f7_138, zp f8_139, zj f9_140, zj f10_141, zj f11_142, zj f12_143]) ∧ (∃ w_144 : List zE, Zc sc 64 [zp a0, zj 2, zj r_129] w_127 none w_144 0 0 ∧ (ov = none ∧ w' = w_144 ∧ c = 0 ∧ s = 0))))))))))))))))) ∧ (¬ (r_24 ≠ 0) → (ov = none ∧ w' = w_22 ∧ c = 0 ∧ s = 0)))))))) : Zr sc 83 0 [zp a0, zj x1, zmk, zmk] [] w ov w' c s := by
  refine Zr_st (q := (1, [zp a0, zj x1, zmk, zmk], [zp a0])) rfl rfl rfl ?_
  show Zr sc 83 1 [zp a0, zj x1, zmk, zmk] [zp a0] w ov w' c s
  obtain ⟨f0_2, f1_3, f2_4, f3_5, f4_6, f5_7, f6_8, f7_9, f8_10, f9_11, f10_12, f11_13, f12_14, hw_1, h⟩ := h
  refine rl_gf rfl hw_1 rfl rfl ?_
  show Zr sc 83 4 [zp a0, zj x1, zmk, zmk] [zp f0_2] w ov w' c s
  refine Zr_st (q := (5, [zp a0, zj x1, zmk, zmk], [zj x1, zp f0_2])) rfl rfl rfl ?_
  show Zr sc 83 5 [zp a0, zj x1, zmk, zmk] [zj x1, zp f0_2] w ov w' c s
  obtain ⟨f0_16, f1_17, f2_18, f3_19, f4_20, f5_21, hw_15, h⟩ := h
  obtain ⟨r_24, w_22, hk_23, h⟩ := h
  refine rn_cal0 (ins := .invokevirtual 175) (rest := []) rfl rfl rfl rfl (zinv_v (fs := _) hw_15 rfl rfl rfl rfl) rfl rfl hk_23 ?_
  show Zr sc 83 8 [zp a0, zj x1, zmk, zmk] [zj r_24] w_22 ov w' c s
  obtain ⟨hr_25, h⟩ := h
  refine Zr_b0 (p := r_24 ≠ 0) rfl rfl (zcmp_0 (cnd := .ne) hr_25) (fun hp => ?_) (fun hp => ?_)
  · replace h := h.1 hp
    show Zr sc 83 12 [zp a0, zj x1, zmk, zmk] [] w_22 ov w' c s
    refine Zr_st (q := (13, [zp a0, zj x1, zmk, zmk], [zp a0])) rfl rfl rfl ?_
    show Zr sc 83 13 [zp a0, zj x1, zmk, zmk] [zp a0] w_22 ov w' c s
    obtain ⟨f0_27, f1_28, f2_29, f3_30, f4_31, f5_32, f6_33, f7_34, f8_35, f9_36, f10_37, f11_38, f12_39, hw_26, h⟩ := h
    refine rl_gf rfl hw_26 rfl rfl ?_
    show Zr sc 83 16 [zp a0, zj x1, zmk, zmk] [zp f0_27] w_22 ov w' c s
    refine Zr_st (q := (17, [zp a0, zj x1, zmk, zmk], [zj x1, zp f0_27])) rfl rfl rfl ?_
    show Zr sc 83 17 [zp a0, zj x1, zmk, zmk] [zj x1, zp f0_27] w_22 ov w' c s
    obtain ⟨f0_41, f1_42, f2_43, f3_44, f4_45, f5_46, hw_40, h⟩ := h
    obtain ⟨r_49, w_47, hk_48, h⟩ := h
    refine rn_cal0 (ins := .invokevirtual 136) (rest := []) rfl rfl rfl rfl (zinv_v (fs := _) hw_40 rfl rfl rfl rfl) rfl rfl hk_48 ?_
    show Zr sc 83 20 [zp a0, zj x1, zmk, zmk] [zj r_49] w_47 ov w' c s
    refine Zr_st (q := (21, [zp a0, zj x1, zj r_49, zmk], [])) rfl rfl rfl ?_
    show Zr sc 83 21 [zp a0, zj x1, zj r_49, zmk] [] w_47 ov w' c s
    refine Zr_st (q := (22, [zp a0, zj x1, zj r_49, zmk], [zp a0])) rfl rfl rfl ?_
    show Zr sc 83 22 [zp a0, zj x1, zj r_49, zmk] [zp a0] w_47 ov w' c s
    obtain ⟨f0_51, f1_52, f2_53, f3_54, f4_55, f5_56, f6_57, f7_58, f8_59, f9_60, f10_61, f11_62, f12_63, hw_50, h⟩ := h
    refine rl_gf rfl hw_50 rfl rfl ?_
    show Zr sc 83 25 [zp a0, zj x1, zj r_49, zmk] [zp f0_51] w_47 ov w' c s
    refine Zr_st (q := (26, [zp a0, zj x1, zj r_49, zmk], [zj x1, zp f0_51])) rfl rfl rfl ?_
    show Zr sc 83 26 [zp a0, zj x1, zj r_49, zmk] [zj x1, zp f0_51] w_47 ov w' c s
    obtain ⟨f0_65, f1_66, f2_67, f3_68, f4_69, f5_70, hw_64, h⟩ := h
    obtain ⟨r_73, w_71, hk_72, h⟩ := h
    refine rn_cal0 (ins := .invokevirtual 138) (rest := []) rfl rfl rfl rfl (zinv_v (fs := _) hw_64 rfl rfl rfl rfl) rfl rfl hk_72 ?_
    show Zr sc 83 29 [zp a0, zj x1, zj r_49, zmk] [zj r_73] w_71 ov w' c s
    refine Zr_st (q := (30, [zp a0, zj x1, zj r_49, zj r_73], [])) rfl rfl rfl ?_
    show Zr sc 83 30 [zp a0, zj x1, zj r_49, zj r_73] [] w_71 ov w' c s
    refine Zr_st (q := (31, [zp a0, zj x1, zj r_49, zj r_73], [zp a0])) rfl rfl rfl ?_
    show Zr sc 83 31 [zp a0, zj x1, zj r_49, zj r_73] [zp a0] w_71 ov w' c s
    obtain ⟨f0_75, f1_76, f2_77, f3_78, f4_79, f5_80, f6_81, f7_82, f8_83, f9_84, f10_85, f11_86, f12_87, hw_74, h⟩ := h
    refine rl_gf rfl hw_74 rfl rfl ?_
    show Zr sc 83 34 [zp a0, zj x1, zj r_49, zj r_73] [zp f0_75] w_71 ov w' c s
    refine Zr_st (q := (35, [zp a0, zj x1, zj r_49, zj r_73], [zj x1, zp f0_75])) rfl rfl rfl ?_
    show Zr sc 83 35 [zp a0, zj x1, zj r_49, zj r_73] [zj x1, zp f0_75] w_71 ov w' c s
    obtain ⟨f0_89, f1_90, f2_91, f3_92, f4_93, f5_94, hw_88, h⟩ := h
    obtain ⟨w_95, hk_96, h⟩ := h
    refine rn_cal0 (ins := .invokevirtual 141) (rest := []) rfl rfl rfl rfl (zinv_v (fs := _) hw_88 rfl rfl rfl rfl) rfl rfl hk_96 ?_
    show Zr sc 83 38 [zp a0, zj x1, zj r_49, zj r_73] [] w_95 ov w' c s
    refine Zr_st (q := (39, [zp a0, zj x1, zj r_49, zj r_73], [zp a0])) rfl rfl rfl ?_
    show Zr sc 83 39 [zp a0, zj x1, zj r_49, zj r_73] [zp a0] w_95 ov w' c s
    obtain ⟨f0_98, f1_99, f2_100, f3_101, f4_102, f5_103, f6_104, f7_105, f8_106, f9_107, f10_108, f11_109, f12_110, hw_97, h⟩ := h
    obtain ⟨w_111, hk_112, h⟩ := h
    refine rn_cal0 (ins := .invokevirtual 77) (rest := []) rfl rfl rfl rfl (zinv_v (fs := _) hw_97 rfl rfl rfl rfl) rfl rfl hk_112 ?_
    show Zr sc 83 42 [zp a0, zj x1, zj r_49, zj r_73] [] w_111 ov w' c s
    refine Zr_st (q := (43, [zp a0, zj x1, zj r_49, zj r_73], [zp a0])) rfl rfl rfl ?_
    show Zr sc 83 43 [zp a0, zj x1, zj r_49, zj r_73] [zp a0] w_111 ov w' c s
    refine rl_ic rfl ?_
    show Zr sc 83 44 [zp a0, zj x1, zj r_49, zj r_73] [zj 2, zp a0] w_111 ov w' c s
    refine Zr_st (q := (45, [zp a0, zj x1, zj r_49, zj r_73], [zp a0, zj 2, zp a0])) rfl rfl rfl ?_
    show Zr sc 83 45 [zp a0, zj x1, zj r_49, zj r_73] [zp a0, zj 2, zp a0] w_111 ov w' c s
    refine Zr_st (q := (46, [zp a0, zj x1, zj r_49, zj r_73], [zj r_49, zp a0, zj 2, zp a0])) rfl rfl rfl ?_
    show Zr sc 83 46 [zp a0, zj x1, zj r_49, zj r_73] [zj r_49, zp a0, zj 2, zp a0] w_111 ov w' c s
    refine Zr_st (q := (47, [zp a0, zj x1, zj r_49, zj r_73], [zj r_73, zj r_49, zp a0, zj 2, zp a0])) rfl rfl rfl ?_
    show Zr sc 83 47 [zp a0, zj x1, zj r_49, zj r_73] [zj r_73, zj r_49, zp a0, zj 2, zp a0] w_111 ov w' c s
    obtain ⟨f0_114, f1_115, f2_116, f3_117, f4_118, f5_119, f6_120, f7_121, f8_122, f9_123, f10_124, f11_125, f12_126, hw_113, h⟩ := h
    obtain ⟨r_129, w_127, hk_128, h⟩ := h
    refine rn_cal0 (ins := .invokevirtual 179) (rest := [zj 2, zp a0]) rfl rfl rfl rfl (zinv_v (fs := _) hw_113 rfl rfl rfl rfl) rfl rfl hk_128 ?_
    show Zr sc 83 50 [zp a0, zj x1, zj r_49, zj r_73] [zj r_129, zj 2, zp a0] w_127 ov w' c s
    obtain ⟨f0_131, f1_132, f2_133, f3_134, f4_135, f5_136, f6_137, f7_138, f8_139, f9_140, f10_141, f11_142, f12_143, hw_130, h⟩ := h
    obtain ⟨w_144, hk_145, h⟩ := h
    refine rn_cal0 (ins := .invokevirtual 169) (rest := []) rfl rfl rfl rfl (zinv_v (fs := _) hw_130 rfl rfl rfl rfl) rfl rfl hk_145 ?_
    show Zr sc 83 53 [zp a0, zj x1, zj r_49, zj r_73] [] w_144 ov w' c s
    obtain ⟨h1, h2, h3, h4⟩ := h
    subst h1; subst h2; subst h3; subst h4
    exact Zr_ret (ins := .return_) rfl rfl
  · replace h := h.2 hp
    show Zr sc 83 11 [zp a0, zj x1, zmk, zmk] [] w_22 ov w' c s
    obtain ⟨h1, h2, h3, h4⟩ := h
    subst h1; subst h2; subst h3; subst h4
    exact Zr_ret (ins := .return_) rfl rfl

-- HeapwrightLab$Memory.release(I)V
set_option maxRecDepth 100000 in
theorem V83_0_4 {sc : List Value} {w w' : List zE} {ov : Option Value} {c s : Nat} {a0 : Nat} {x1 : Int} (h : (∃ f0_2 : Nat, ∃ f1_3 : Nat, ∃ f2_4 : Int, ∃ f3_5 : Int, ∃ f4_6 : Int, ∃ f5_7 : Int, ∃ f6_8 : Int, ∃ f7_9 : Nat, ∃ f8_10 : Nat, ∃ f9_11 : Int, ∃ f10_12 : Int, ∃ f11_13 : Int, ∃ f12_14 : Int, ∃ f13_15 : Nat, w[a0]? = some (zob 4 [zp f0_2, zp f1_3, zj f2_4, zj f3_5, zj f4_6, zj f5_7, zj f6_8, zp f7_9, zp f8_10, zj f9_11, zj f10_12, zj f11_13, zj f12_14, zp f13_15]) ∧ (∃ f0_17 : Nat, ∃ f1_18 : Nat, ∃ f2_19 : Nat, ∃ f3_20 : Nat, ∃ f4_21 : Int, ∃ f5_22 : Int, w[f0_2]? = some (zob 0 [zp f0_17, zp f1_18, zp f2_19, zp f3_20, zj f4_21, zj f5_22]) ∧ (∃ r_25 : Int, ∃ w_23 : List zE, Zc sc 7 [zp f0_2, zj x1] w (some (zj r_25)) w_23 0 0 ∧ ((zrg r_25) ∧ ((r_25 ≠ 0 → (∃ f0_28 : Nat, ∃ f1_29 : Nat, ∃ f2_30 : Int, ∃ f3_31 : Int, ∃ f4_32 : Int, ∃ f5_33 : Int, ∃ f6_34 : Int, ∃ f7_35 : Nat, ∃ f8_36 : Nat, ∃ f9_37 : Int, ∃ f10_38 : Int, ∃ f11_39 : Int, ∃ f12_40 : Int, ∃ f13_41 : Nat, w_23[a0]? = some (zob 4 [zp f0_28, zp f1_29, zj f2_30, zj f3_31, zj f4_32, zj f5_33, zj f6_34, zp f7_35, zp f8_36, zj f9_37, zj f10_38, zj f11_39, zj f12_40, zp f13_41]) ∧ (∃ f0_43 : Nat, ∃ f1_44 : Nat, ∃ f2_45 : Nat, ∃ f3_46 : Nat, ∃ f4_47 : Int, ∃ f5_48 : Int, w_23[f0_28]? = some (zob 0 [zp f0_43, zp f1_44, zp f2_45, zp f3_46, zj f4_47, zj f5_48]) ∧ (∃ r_51 : Int, ∃ w_49 : List zE, Zc sc 9 [zp f0_28, zj x1] w_23 (some (zj r_51)) w_49 0 0 ∧ (∃ f0_53 : Nat, ∃ f1_54 : Nat, ∃ f2_55 : Int, ∃ f3_56 : Int, ∃ f4_57 : Int, ∃ f5_58 : Int, ∃ f6_59 : Int, ∃ f7_60 : Nat, ∃ f8_61 : Nat, ∃ f9_62 : Int, ∃ f10_63 : Int, ∃ f11_64 : Int, ∃ f12_65 : Int, ∃ f13_66 : Nat, w_49[a0]? = some (zob 4 [zp f0_53, zp f1_54, zj f2_55, zj f3_56, zj f4_57, zj f5_58, zj f6_59, zp f7_60, zp f8_61, zj f9_62, zj f10_63, zj f11_64, zj f12_65, zp f13_66]) ∧ (∃ f0_68 : Nat, ∃ f1_69 : Nat, ∃ f2_70 : Nat, ∃ f3_71 : Nat, ∃ f4_72 : Int, ∃ f5_73 : Int, w_49[f0_53]? = some (zob 0 [zp f0_68, zp f1_69, zp f2_70, zp f3_71, zj f4_72, zj f5_73]) ∧ (∃ r_76 : Int, ∃ w_74 : List zE, Zc sc 13 [zp f0_53, zj x1] w_49 (some (zj r_76)) w_74 0 0 ∧ (∃ f0_78 : Nat, ∃ f1_79 : Nat, ∃ f2_80 : Int, ∃ f3_81 : Int, ∃ f4_82 : Int, ∃ f5_83 : Int, ∃ f6_84 : Int, ∃ f7_85 : Nat, ∃ f8_86 : Nat, ∃ f9_87 : Int, ∃ f10_88 : Int, ∃ f11_89 : Int, ∃ f12_90 : Int, ∃ f13_91 : Nat, w_74[a0]? = some (zob 4 [zp f0_78, zp f1_79, zj f2_80, zj f3_81, zj f4_82, zj f5_83, zj f6_84, zp f7_85, zp f8_86, zj f9_87, zj f10_88, zj f11_89, zj f12_90, zp f13_91]) ∧ (∃ f0_93 : Nat, ∃ f1_94 : Nat, ∃ f2_95 : Nat, ∃ f3_96 : Nat, ∃ f4_97 : Int, ∃ f5_98 : Int, w_74[f0_78]? = some (zob 0 [zp f0_93, zp f1_94, zp f2_95, zp f3_96, zj f4_97, zj f5_98]) ∧ (∃ w_99 : List zE, Zc sc 84 [zp f0_78, zj x1] w_74 none w_99 0 0 ∧ (∃ f0_102 : Nat, ∃ f1_103 : Nat, ∃ f2_104 : Int, ∃ f3_105 : Int, ∃ f4_106 : Int, ∃ f5_107 : Int, ∃ f6_108 : Int, ∃ f7_109 : Nat, ∃ f8_110 : Nat, ∃ f9_111 : Int, ∃ f10_112 : Int, ∃ f11_113 : Int, ∃ f12_114 : Int, ∃ f13_115 : Nat, w_99[a0]? = some (zob 4 [zp f0_102, zp f1_103, zj f2_104, zj f3_105, zj f4_106, zj f5_107, zj f6_108, zp f7_109, zp f8_110, zj f9_111, zj f10_112, zj f11_113, zj f12_114, zp f13_115]) ∧ (∃ w_116 : List zE, Zc sc 69 [zp a0] w_99 none w_116 0 0 ∧ (∃ f0_119 : Nat, ∃ f1_120 : Nat, ∃ f2_121 : Int, ∃ f3_122 : Int, ∃ f4_123 : Int, ∃ f5_124 : Int, ∃ f6_125 : Int, ∃ f7_126 : Nat, ∃ f8_127 : Nat, ∃ f9_128 : Int, ∃ f10_129 : Int, ∃ f11_130 : Int, ∃ f12_131 : Int, ∃ f13_132 : Nat, w_116[a0]? = some (zob 4 [zp f0_119, zp f1_120, zj f2_121, zj f3_122, zj f4_123, zj f5_124, zj f6_125, zp f7_126, zp f8_127, zj f9_128, zj f10_129, zj f11_130, zj f12_131, zp f13_132]) ∧ (∃ r_135 : Int, ∃ w_133 : List zE, Zc sc 87 [zp a0, zj r_51, zj r_76] w_116 (some (zj r_135)) w_133 0 0 ∧ (∃ f0_137 : Nat, ∃ f1_138 : Nat, ∃ f2_139 : Int, ∃ f3_140 : Int, ∃ f4_141 : Int, ∃ f5_142 : Int, ∃ f6_143 : Int, ∃ f7_144 : Nat, ∃ f8_145 : Nat, ∃ f9_146 : Int, ∃ f10_147 : Int, ∃ f11_148 : Int, ∃ f12_149 : Int, ∃ f13_150 : Nat, w_133[a0]? = some (zob 4 [zp f0_137, zp f1_138, zj f2_139, zj f3_140, zj f4_141, zj f5_142, zj f6_143, zp f7_144, zp f8_145, zj f9_146, zj f10_147, zj f11_148, zj f12_149, zp f13_150]) ∧ (∃ w_151 : List zE, Zc sc 64 [zp a0, zj 2, zj r_135] w_133 none w_151 0 0 ∧ (ov = none ∧ w' = w_151 ∧ c = 0 ∧ s = 0))))))))))))))))) ∧ (¬ (r_25 ≠ 0) → (ov = none ∧ w' = w_23 ∧ c = 0 ∧ s = 0)))))))) : Zr sc 83 0 [zp a0, zj x1, zmk, zmk] [] w ov w' c s := by
  refine Zr_st (q := (1, [zp a0, zj x1, zmk, zmk], [zp a0])) rfl rfl rfl ?_
  show Zr sc 83 1 [zp a0, zj x1, zmk, zmk] [zp a0] w ov w' c s
  obtain ⟨f0_2, f1_3, f2_4, f3_5, f4_6, f5_7, f6_8, f7_9, f8_10, f9_11, f10_12, f11_13, f12_14, f13_15, hw_1, h⟩ := h
  refine rl_gf rfl hw_1 rfl rfl ?_
  show Zr sc 83 4 [zp a0, zj x1, zmk, zmk] [zp f0_2] w ov w' c s
  refine Zr_st (q := (5, [zp a0, zj x1, zmk, zmk], [zj x1, zp f0_2])) rfl rfl rfl ?_
  show Zr sc 83 5 [zp a0, zj x1, zmk, zmk] [zj x1, zp f0_2] w ov w' c s
  obtain ⟨f0_17, f1_18, f2_19, f3_20, f4_21, f5_22, hw_16, h⟩ := h
  obtain ⟨r_25, w_23, hk_24, h⟩ := h
  refine rn_cal0 (ins := .invokevirtual 175) (rest := []) rfl rfl rfl rfl (zinv_v (fs := _) hw_16 rfl rfl rfl rfl) rfl rfl hk_24 ?_
  show Zr sc 83 8 [zp a0, zj x1, zmk, zmk] [zj r_25] w_23 ov w' c s
  obtain ⟨hr_26, h⟩ := h
  refine Zr_b0 (p := r_25 ≠ 0) rfl rfl (zcmp_0 (cnd := .ne) hr_26) (fun hp => ?_) (fun hp => ?_)
  · replace h := h.1 hp
    show Zr sc 83 12 [zp a0, zj x1, zmk, zmk] [] w_23 ov w' c s
    refine Zr_st (q := (13, [zp a0, zj x1, zmk, zmk], [zp a0])) rfl rfl rfl ?_
    show Zr sc 83 13 [zp a0, zj x1, zmk, zmk] [zp a0] w_23 ov w' c s
    obtain ⟨f0_28, f1_29, f2_30, f3_31, f4_32, f5_33, f6_34, f7_35, f8_36, f9_37, f10_38, f11_39, f12_40, f13_41, hw_27, h⟩ := h
    refine rl_gf rfl hw_27 rfl rfl ?_
    show Zr sc 83 16 [zp a0, zj x1, zmk, zmk] [zp f0_28] w_23 ov w' c s
    refine Zr_st (q := (17, [zp a0, zj x1, zmk, zmk], [zj x1, zp f0_28])) rfl rfl rfl ?_
    show Zr sc 83 17 [zp a0, zj x1, zmk, zmk] [zj x1, zp f0_28] w_23 ov w' c s
    obtain ⟨f0_43, f1_44, f2_45, f3_46, f4_47, f5_48, hw_42, h⟩ := h
    obtain ⟨r_51, w_49, hk_50, h⟩ := h
    refine rn_cal0 (ins := .invokevirtual 136) (rest := []) rfl rfl rfl rfl (zinv_v (fs := _) hw_42 rfl rfl rfl rfl) rfl rfl hk_50 ?_
    show Zr sc 83 20 [zp a0, zj x1, zmk, zmk] [zj r_51] w_49 ov w' c s
    refine Zr_st (q := (21, [zp a0, zj x1, zj r_51, zmk], [])) rfl rfl rfl ?_
    show Zr sc 83 21 [zp a0, zj x1, zj r_51, zmk] [] w_49 ov w' c s
    refine Zr_st (q := (22, [zp a0, zj x1, zj r_51, zmk], [zp a0])) rfl rfl rfl ?_
    show Zr sc 83 22 [zp a0, zj x1, zj r_51, zmk] [zp a0] w_49 ov w' c s
    obtain ⟨f0_53, f1_54, f2_55, f3_56, f4_57, f5_58, f6_59, f7_60, f8_61, f9_62, f10_63, f11_64, f12_65, f13_66, hw_52, h⟩ := h
    refine rl_gf rfl hw_52 rfl rfl ?_
    show Zr sc 83 25 [zp a0, zj x1, zj r_51, zmk] [zp f0_53] w_49 ov w' c s
    refine Zr_st (q := (26, [zp a0, zj x1, zj r_51, zmk], [zj x1, zp f0_53])) rfl rfl rfl ?_
    show Zr sc 83 26 [zp a0, zj x1, zj r_51, zmk] [zj x1, zp f0_53] w_49 ov w' c s
    obtain ⟨f0_68, f1_69, f2_70, f3_71, f4_72, f5_73, hw_67, h⟩ := h
    obtain ⟨r_76, w_74, hk_75, h⟩ := h
    refine rn_cal0 (ins := .invokevirtual 138) (rest := []) rfl rfl rfl rfl (zinv_v (fs := _) hw_67 rfl rfl rfl rfl) rfl rfl hk_75 ?_
    show Zr sc 83 29 [zp a0, zj x1, zj r_51, zmk] [zj r_76] w_74 ov w' c s
    refine Zr_st (q := (30, [zp a0, zj x1, zj r_51, zj r_76], [])) rfl rfl rfl ?_
    show Zr sc 83 30 [zp a0, zj x1, zj r_51, zj r_76] [] w_74 ov w' c s
    refine Zr_st (q := (31, [zp a0, zj x1, zj r_51, zj r_76], [zp a0])) rfl rfl rfl ?_
    show Zr sc 83 31 [zp a0, zj x1, zj r_51, zj r_76] [zp a0] w_74 ov w' c s
    obtain ⟨f0_78, f1_79, f2_80, f3_81, f4_82, f5_83, f6_84, f7_85, f8_86, f9_87, f10_88, f11_89, f12_90, f13_91, hw_77, h⟩ := h
    refine rl_gf rfl hw_77 rfl rfl ?_
    show Zr sc 83 34 [zp a0, zj x1, zj r_51, zj r_76] [zp f0_78] w_74 ov w' c s
    refine Zr_st (q := (35, [zp a0, zj x1, zj r_51, zj r_76], [zj x1, zp f0_78])) rfl rfl rfl ?_
    show Zr sc 83 35 [zp a0, zj x1, zj r_51, zj r_76] [zj x1, zp f0_78] w_74 ov w' c s
    obtain ⟨f0_93, f1_94, f2_95, f3_96, f4_97, f5_98, hw_92, h⟩ := h
    obtain ⟨w_99, hk_100, h⟩ := h
    refine rn_cal0 (ins := .invokevirtual 141) (rest := []) rfl rfl rfl rfl (zinv_v (fs := _) hw_92 rfl rfl rfl rfl) rfl rfl hk_100 ?_
    show Zr sc 83 38 [zp a0, zj x1, zj r_51, zj r_76] [] w_99 ov w' c s
    refine Zr_st (q := (39, [zp a0, zj x1, zj r_51, zj r_76], [zp a0])) rfl rfl rfl ?_
    show Zr sc 83 39 [zp a0, zj x1, zj r_51, zj r_76] [zp a0] w_99 ov w' c s
    obtain ⟨f0_102, f1_103, f2_104, f3_105, f4_106, f5_107, f6_108, f7_109, f8_110, f9_111, f10_112, f11_113, f12_114, f13_115, hw_101, h⟩ := h
    obtain ⟨w_116, hk_117, h⟩ := h
    refine rn_cal0 (ins := .invokevirtual 77) (rest := []) rfl rfl rfl rfl (zinv_v (fs := _) hw_101 rfl rfl rfl rfl) rfl rfl hk_117 ?_
    show Zr sc 83 42 [zp a0, zj x1, zj r_51, zj r_76] [] w_116 ov w' c s
    refine Zr_st (q := (43, [zp a0, zj x1, zj r_51, zj r_76], [zp a0])) rfl rfl rfl ?_
    show Zr sc 83 43 [zp a0, zj x1, zj r_51, zj r_76] [zp a0] w_116 ov w' c s
    refine rl_ic rfl ?_
    show Zr sc 83 44 [zp a0, zj x1, zj r_51, zj r_76] [zj 2, zp a0] w_116 ov w' c s
    refine Zr_st (q := (45, [zp a0, zj x1, zj r_51, zj r_76], [zp a0, zj 2, zp a0])) rfl rfl rfl ?_
    show Zr sc 83 45 [zp a0, zj x1, zj r_51, zj r_76] [zp a0, zj 2, zp a0] w_116 ov w' c s
    refine Zr_st (q := (46, [zp a0, zj x1, zj r_51, zj r_76], [zj r_51, zp a0, zj 2, zp a0])) rfl rfl rfl ?_
    show Zr sc 83 46 [zp a0, zj x1, zj r_51, zj r_76] [zj r_51, zp a0, zj 2, zp a0] w_116 ov w' c s
    refine Zr_st (q := (47, [zp a0, zj x1, zj r_51, zj r_76], [zj r_76, zj r_51, zp a0, zj 2, zp a0])) rfl rfl rfl ?_
    show Zr sc 83 47 [zp a0, zj x1, zj r_51, zj r_76] [zj r_76, zj r_51, zp a0, zj 2, zp a0] w_116 ov w' c s
    obtain ⟨f0_119, f1_120, f2_121, f3_122, f4_123, f5_124, f6_125, f7_126, f8_127, f9_128, f10_129, f11_130, f12_131, f13_132, hw_118, h⟩ := h
    obtain ⟨r_135, w_133, hk_134, h⟩ := h
    refine rn_cal0 (ins := .invokevirtual 179) (rest := [zj 2, zp a0]) rfl rfl rfl rfl (zinv_v (fs := _) hw_118 rfl rfl rfl rfl) rfl rfl hk_134 ?_
    show Zr sc 83 50 [zp a0, zj x1, zj r_51, zj r_76] [zj r_135, zj 2, zp a0] w_133 ov w' c s
    obtain ⟨f0_137, f1_138, f2_139, f3_140, f4_141, f5_142, f6_143, f7_144, f8_145, f9_146, f10_147, f11_148, f12_149, f13_150, hw_136, h⟩ := h
    obtain ⟨w_151, hk_152, h⟩ := h
    refine rn_cal0 (ins := .invokevirtual 169) (rest := []) rfl rfl rfl rfl (zinv_v (fs := _) hw_136 rfl rfl rfl rfl) rfl rfl hk_152 ?_
    show Zr sc 83 53 [zp a0, zj x1, zj r_51, zj r_76] [] w_151 ov w' c s
    obtain ⟨h1, h2, h3, h4⟩ := h
    subst h1; subst h2; subst h3; subst h4
    exact Zr_ret (ins := .return_) rfl rfl
  · replace h := h.2 hp
    show Zr sc 83 11 [zp a0, zj x1, zmk, zmk] [] w_23 ov w' c s
    obtain ⟨h1, h2, h3, h4⟩ := h
    subst h1; subst h2; subst h3; subst h4
    exact Zr_ret (ins := .return_) rfl rfl

-- HeapwrightLab$Blocks.remove(I)V
set_option maxRecDepth 100000 in
theorem V84_0 {sc : List Value} {w w' : List zE} {ov : Option Value} {c s : Nat} {a0 : Nat} {x1 : Int} (h : (∃ f0_2 : Nat, ∃ f1_3 : Nat, ∃ f2_4 : Nat, ∃ f3_5 : Nat, ∃ f4_6 : Int, ∃ f5_7 : Int, w[a0]? = some (zob 0 [zp f0_2, zp f1_3, zp f2_4, zp f3_5, zj f4_6, zj f5_7]) ∧ (∃ r_10 : Int, ∃ w_8 : List zE, Zc sc 7 [zp a0, zj x1] w (some (zj r_10)) w_8 0 0 ∧ ((zrg r_10) ∧ ((r_10 ≠ 0 → (∃ f0_13 : Nat, ∃ f1_14 : Nat, ∃ f2_15 : Nat, ∃ f3_16 : Nat, ∃ f4_17 : Int, ∃ f5_18 : Int, w_8[a0]? = some (zob 0 [zp f0_13, zp f1_14, zp f2_15, zp f3_16, zj f4_17, zj f5_18]) ∧ (∃ r_21 : Int, ∃ w_19 : List zE, Zc sc 85 [zp a0, zj x1] w_8 (some (zj r_21)) w_19 0 0 ∧ Zr sc 84 15 [zp a0, zj x1, zj r_21] [] w_19 ov w' c s))) ∧ (¬ (r_10 ≠ 0) → (ov = none ∧ w' = w_8 ∧ c = 0 ∧ s = 0))))))) : Zr sc 84 0 [zp a0, zj x1, zmk] [] w ov w' c s := by
  refine Zr_st (q := (1, [zp a0, zj x1, zmk], [zp a0])) rfl rfl rfl ?_
  show Zr sc 84 1 [zp a0, zj x1, zmk] [zp a0] w ov w' c s
  refine Zr_st (q := (2, [zp a0, zj x1, zmk], [zj x1, zp a0])) rfl rfl rfl ?_
  show Zr sc 84 2 [zp a0, zj x1, zmk] [zj x1, zp a0] w ov w' c s
  obtain ⟨f0_2, f1_3, f2_4, f3_5, f4_6, f5_7, hw_1, h⟩ := h
  obtain ⟨r_10, w_8, hk_9, h⟩ := h
  refine rn_cal0 (ins := .invokevirtual 37) (rest := []) rfl rfl rfl rfl (zinv_v (fs := _) hw_1 rfl rfl rfl rfl) rfl rfl hk_9 ?_
  show Zr sc 84 5 [zp a0, zj x1, zmk] [zj r_10] w_8 ov w' c s
  obtain ⟨hr_11, h⟩ := h
  refine Zr_b0 (p := r_10 ≠ 0) rfl rfl (zcmp_0 (cnd := .ne) hr_11) (fun hp => ?_) (fun hp => ?_)
  · replace h := h.1 hp
    show Zr sc 84 9 [zp a0, zj x1, zmk] [] w_8 ov w' c s
    refine Zr_st (q := (10, [zp a0, zj x1, zmk], [zp a0])) rfl rfl rfl ?_
    show Zr sc 84 10 [zp a0, zj x1, zmk] [zp a0] w_8 ov w' c s
    refine Zr_st (q := (11, [zp a0, zj x1, zmk], [zj x1, zp a0])) rfl rfl rfl ?_
    show Zr sc 84 11 [zp a0, zj x1, zmk] [zj x1, zp a0] w_8 ov w' c s
    obtain ⟨f0_13, f1_14, f2_15, f3_16, f4_17, f5_18, hw_12, h⟩ := h
    obtain ⟨r_21, w_19, hk_20, h⟩ := h
    refine rn_cal0 (ins := .invokevirtual 51) (rest := []) rfl rfl rfl rfl (zinv_v (fs := _) hw_12 rfl rfl rfl rfl) rfl rfl hk_20 ?_
    show Zr sc 84 14 [zp a0, zj x1, zmk] [zj r_21] w_19 ov w' c s
    refine Zr_st (q := (15, [zp a0, zj x1, zj r_21], [])) rfl rfl rfl ?_
    show Zr sc 84 15 [zp a0, zj x1, zj r_21] [] w_19 ov w' c s
    exact h
  · replace h := h.2 hp
    show Zr sc 84 8 [zp a0, zj x1, zmk] [] w_8 ov w' c s
    obtain ⟨h1, h2, h3, h4⟩ := h
    subst h1; subst h2; subst h3; subst h4
    exact Zr_ret (ins := .return_) rfl rfl
set_option maxRecDepth 100000 in
theorem V84_15 {sc : List Value} {w w' : List zE} {ov : Option Value} {c s : Nat} {a0 : Nat} {x1 : Int} {x2 : Int} (h : (∃ f0_2 : Nat, ∃ f1_3 : Nat, ∃ f2_4 : Nat, ∃ f3_5 : Nat, ∃ f4_6 : Int, ∃ f5_7 : Int, w[a0]? = some (zob 0 [zp f0_2, zp f1_3, zp f2_4, zp f3_5, zj f4_6, zj f5_7]) ∧ ((zrg x2 ∧ zrg (f4_6 - 1)) ∧ (((f4_6 - 1) ≤ x2 → ((a0 ≠ f2_4) ∧ (∃ l_12 : List Int, w[f2_4]? = some (za l_12) ∧ ((0 ≤ x1 ∧ x1 < (l_12.length : Int) ∧ x1 ≤ 2147483647) ∧ ((0 ≤ x1 ∧ x1 < (l_12.length : Int) ∧ x1 ≤ 2147483647) ∧ (ov = none ∧ w' = (((w.set a0 (zob 0 [zp f0_2, zp f1_3, zp f2_4, zp f3_5, zj (f4_6 - 1), zj f5_7])).set a0 (zob 0 [zp f0_2, zp f1_3, zp f2_4, zp f3_5, zj (f4_6 - 1), zj (f5_7 - (zgi l_12 x1))])).set f2_4 (za (zsi l_12 x1 0))) ∧ c = 0 ∧ s = 0)))))) ∧ (¬ ((f4_6 - 1) ≤ x2) → (∃ l_16 : List Int, w[f3_5]? = some (za l_16) ∧ ((0 ≤ (x2 + 1) ∧ (x2 + 1) < (l_16.length : Int) ∧ (x2 + 1) ≤ 2147483647) ∧ ((0 ≤ x2 ∧ x2 < (l_16.length : Int) ∧ x2 ≤ 2147483647) ∧ Zr sc 84 15 [zp a0, zj x1, zj (x2 + 1)] [] (w.set f3_5 (za (zsi l_16 x2 (zgi l_16 (x2 + 1))))) ov w' c s)))))))) : Zr sc 84 15 [zp a0, zj x1, zj x2] [] w ov w' c s := by
  refine Zr_st (q := (16, [zp a0, zj x1, zj x2], [zj x2])) rfl rfl rfl ?_
  show Zr sc 84 16 [zp a0, zj x1, zj x2] [zj x2] w ov w' c s
  refine Zr_st (q := (17, [zp a0, zj x1, zj x2], [zp a0, zj x2])) rfl rfl rfl ?_
  show Zr sc 84 17 [zp a0, zj x1, zj x2] [zp a0, zj x2] w ov w' c s
  obtain ⟨f0_2, f1_3, f2_4, f3_5, f4_6, f5_7, hw_1, h⟩ := h
  refine rl_gf rfl hw_1 rfl rfl ?_
  show Zr sc 84 20 [zp a0, zj x1, zj x2] [zj f4_6, zj x2] w ov w' c s
  refine rl_ic rfl ?_
  show Zr sc 84 21 [zp a0, zj x1, zj x2] [zj 1, zj f4_6, zj x2] w ov w' c s
  refine rl_sub rfl ?_
  show Zr sc 84 22 [zp a0, zj x1, zj x2] [zj (f4_6 - 1), zj x2] w ov w' c s
  obtain ⟨hr_8, h⟩ := h
  refine Zr_br (p := (f4_6 - 1) ≤ x2) rfl rfl (zcmp_j (cnd := .ge) hr_8.1 hr_8.2) (fun hp => ?_) (fun hp => ?_)
  · replace h := h.1 hp
    show Zr sc 84 45 [zp a0, zj x1, zj x2] [] w ov w' c s
    refine Zr_st (q := (46, [zp a0, zj x1, zj x2], [zp a0])) rfl rfl rfl ?_
    show Zr sc 84 46 [zp a0, zj x1, zj x2] [zp a0] w ov w' c s
    refine Zr_st (q := (47, [zp a0, zj x1, zj x2], [zp a0, zp a0])) rfl rfl rfl ?_
    show Zr sc 84 47 [zp a0, zj x1, zj x2] [zp a0, zp a0] w ov w' c s
    refine rl_gf rfl hw_1 rfl rfl ?_
    show Zr sc 84 50 [zp a0, zj x1, zj x2] [zj f4_6, zp a0] w ov w' c s
    refine rl_ic rfl ?_
    show Zr sc 84 51 [zp a0, zj x1, zj x2] [zj 1, zj f4_6, zp a0] w ov w' c s
    refine rl_sub rfl ?_
    show Zr sc 84 52 [zp a0, zj x1, zj x2] [zj (f4_6 - 1), zp a0] w ov w' c s
    refine rl_pf rfl hw_1 rfl rfl rfl ?_
    show Zr sc 84 55 [zp a0, zj x1, zj x2] [] (w.set a0 (zob 0 [zp f0_2, zp f1_3, zp f2_4, zp f3_5, zj (f4_6 - 1), zj f5_7])) ov w' c s
    refine Zr_st (q := (56, [zp a0, zj x1, zj x2], [zp a0])) rfl rfl rfl ?_
    show Zr sc 84 56 [zp a0, zj x1, zj x2] [zp a0] (w.set a0 (zob 0 [zp f0_2, zp f1_3, zp f2_4, zp f3_5, zj (f4_6 - 1), zj f5_7])) ov w' c s
    refine Zr_st (q := (57, [zp a0, zj x1, zj x2], [zp a0, zp a0])) rfl rfl rfl ?_
    show Zr sc 84 57 [zp a0, zj x1, zj x2] [zp a0, zp a0] (w.set a0 (zob 0 [zp f0_2, zp f1_3, zp f2_4, zp f3_5, zj (f4_6 - 1), zj f5_7])) ov w' c s
    refine rl_gf rfl (zw_s hw_1) rfl rfl ?_
    show Zr sc 84 60 [zp a0, zj x1, zj x2] [zj f5_7, zp a0] (w.set a0 (zob 0 [zp f0_2, zp f1_3, zp f2_4, zp f3_5, zj (f4_6 - 1), zj f5_7])) ov w' c s
    refine Zr_st (q := (61, [zp a0, zj x1, zj x2], [zp a0, zj f5_7, zp a0])) rfl rfl rfl ?_
    show Zr sc 84 61 [zp a0, zj x1, zj x2] [zp a0, zj f5_7, zp a0] (w.set a0 (zob 0 [zp f0_2, zp f1_3, zp f2_4, zp f3_5, zj (f4_6 - 1), zj f5_7])) ov w' c s
    refine rl_gf rfl (zw_s hw_1) rfl rfl ?_
    show Zr sc 84 64 [zp a0, zj x1, zj x2] [zp f2_4, zj f5_7, zp a0] (w.set a0 (zob 0 [zp f0_2, zp f1_3, zp f2_4, zp f3_5, zj (f4_6 - 1), zj f5_7])) ov w' c s
    refine Zr_st (q := (65, [zp a0, zj x1, zj x2], [zj x1, zp f2_4, zj f5_7, zp a0])) rfl rfl rfl ?_
    show Zr sc 84 65 [zp a0, zj x1, zj x2] [zj x1, zp f2_4, zj f5_7, zp a0] (w.set a0 (zob 0 [zp f0_2, zp f1_3, zp f2_4, zp f3_5, zj (f4_6 - 1), zj f5_7])) ov w' c s
    obtain ⟨hn_10, h⟩ := h
    obtain ⟨l_12, hw_11, h⟩ := h
    obtain ⟨hi_9, h⟩ := h
    refine rl_ia rfl (zw_o hn_10 hw_11) hi_9.1 hi_9.2.1 hi_9.2.2 ?_
    show Zr sc 84 66 [zp a0, zj x1, zj x2] [zj (zgi l_12 x1), zj f5_7, zp a0] (w.set a0 (zob 0 [zp f0_2, zp f1_3, zp f2_4, zp f3_5, zj (f4_6 - 1), zj f5_7])) ov w' c s
    refine rl_sub rfl ?_
    show Zr sc 84 67 [zp a0, zj x1, zj x2] [zj (f5_7 - (zgi l_12 x1)), zp a0] (w.set a0 (zob 0 [zp f0_2, zp f1_3, zp f2_4, zp f3_5, zj (f4_6 - 1), zj f5_7])) ov w' c s
    refine rl_pf rfl (zw_s hw_1) rfl rfl rfl ?_
    show Zr sc 84 70 [zp a0, zj x1, zj x2] [] ((w.set a0 (zob 0 [zp f0_2, zp f1_3, zp f2_4, zp f3_5, zj (f4_6 - 1), zj f5_7])).set a0 (zob 0 [zp f0_2, zp f1_3, zp f2_4, zp f3_5, zj (f4_6 - 1), zj (f5_7 - (zgi l_12 x1))])) ov w' c s
    refine Zr_st (q := (71, [zp a0, zj x1, zj x2], [zp a0])) rfl rfl rfl ?_
    show Zr sc 84 71 [zp a0, zj x1, zj x2] [zp a0] ((w.set a0 (zob 0 [zp f0_2, zp f1_3, zp f2_4, zp f3_5, zj (f4_6 - 1), zj f5_7])).set a0 (zob 0 [zp f0_2, zp f1_3, zp f2_4, zp f3_5, zj (f4_6 - 1), zj (f5_7 - (zgi l_12 x1))])) ov w' c s
    refine rl_gf rfl (zw_s (zw_s hw_1)) rfl rfl ?_
    show Zr sc 84 74 [zp a0, zj x1, zj x2] [zp f2_4] ((w.set a0 (zob 0 [zp f0_2, zp f1_3, zp f2_4, zp f3_5, zj (f4_6 - 1), zj f5_7])).set a0 (zob 0 [zp f0_2, zp f1_3, zp f2_4, zp f3_5, zj (f4_6 - 1), zj (f5_7 - (zgi l_12 x1))])) ov w' c s
    refine Zr_st (q := (75, [zp a0, zj x1, zj x2], [zj x1, zp f2_4])) rfl rfl rfl ?_
    show Zr sc 84 75 [zp a0, zj x1, zj x2] [zj x1, zp f2_4] ((w.set a0 (zob 0 [zp f0_2, zp f1_3, zp f2_4, zp f3_5, zj (f4_6 - 1), zj f5_7])).set a0 (zob 0 [zp f0_2, zp f1_3, zp f2_4, zp f3_5, zj (f4_6 - 1), zj (f5_7 - (zgi l_12 x1))])) ov w' c s
    refine rl_ic rfl ?_
    show Zr sc 84 76 [zp a0, zj x1, zj x2] [zj 0, zj x1, zp f2_4] ((w.set a0 (zob 0 [zp f0_2, zp f1_3, zp f2_4, zp f3_5, zj (f4_6 - 1), zj f5_7])).set a0 (zob 0 [zp f0_2, zp f1_3, zp f2_4, zp f3_5, zj (f4_6 - 1), zj (f5_7 - (zgi l_12 x1))])) ov w' c s
    obtain ⟨hi_13, h⟩ := h
    refine rl_is rfl (zw_o hn_10 (zw_o hn_10 hw_11)) hi_13.1 hi_13.2.1 hi_13.2.2 ?_
    show Zr sc 84 77 [zp a0, zj x1, zj x2] [] (((w.set a0 (zob 0 [zp f0_2, zp f1_3, zp f2_4, zp f3_5, zj (f4_6 - 1), zj f5_7])).set a0 (zob 0 [zp f0_2, zp f1_3, zp f2_4, zp f3_5, zj (f4_6 - 1), zj (f5_7 - (zgi l_12 x1))])).set f2_4 (za (zsi l_12 x1 0))) ov w' c s
    obtain ⟨h1, h2, h3, h4⟩ := h
    subst h1; subst h2; subst h3; subst h4
    exact Zr_ret (ins := .return_) rfl rfl
  · replace h := h.2 hp
    show Zr sc 84 25 [zp a0, zj x1, zj x2] [] w ov w' c s
    refine Zr_st (q := (26, [zp a0, zj x1, zj x2], [zp a0])) rfl rfl rfl ?_
    show Zr sc 84 26 [zp a0, zj x1, zj x2] [zp a0] w ov w' c s
    refine rl_gf rfl hw_1 rfl rfl ?_
    show Zr sc 84 29 [zp a0, zj x1, zj x2] [zp f3_5] w ov w' c s
    refine Zr_st (q := (30, [zp a0, zj x1, zj x2], [zj x2, zp f3_5])) rfl rfl rfl ?_
    show Zr sc 84 30 [zp a0, zj x1, zj x2] [zj x2, zp f3_5] w ov w' c s
    refine Zr_st (q := (31, [zp a0, zj x1, zj x2], [zp a0, zj x2, zp f3_5])) rfl rfl rfl ?_
    show Zr sc 84 31 [zp a0, zj x1, zj x2] [zp a0, zj x2, zp f3_5] w ov w' c s
    refine rl_gf rfl hw_1 rfl rfl ?_
    show Zr sc 84 34 [zp a0, zj x1, zj x2] [zp f3_5, zj x2, zp f3_5] w ov w' c s
    refine Zr_st (q := (35, [zp a0, zj x1, zj x2], [zj x2, zp f3_5, zj x2, zp f3_5])) rfl rfl rfl ?_
    show Zr sc 84 35 [zp a0, zj x1, zj x2] [zj x2, zp f3_5, zj x2, zp f3_5] w ov w' c s
    refine rl_ic rfl ?_
    show Zr sc 84 36 [zp a0, zj x1, zj x2] [zj 1, zj x2, zp f3_5, zj x2, zp f3_5] w ov w' c s
    refine rl_add rfl ?_
    show Zr sc 84 37 [zp a0, zj x1, zj x2] [zj (x2 + 1), zp f3_5, zj x2, zp f3_5] w ov w' c s
    obtain ⟨l_16, hw_15, h⟩ := h
    obtain ⟨hi_14, h⟩ := h
    refine rl_ia rfl hw_15 hi_14.1 hi_14.2.1 hi_14.2.2 ?_
    show Zr sc 84 38 [zp a0, zj x1, zj x2] [zj (zgi l_16 (x2 + 1)), zj x2, zp f3_5] w ov w' c s
    obtain ⟨hi_17, h⟩ := h
    refine rl_is rfl hw_15 hi_17.1 hi_17.2.1 hi_17.2.2 ?_
    show Zr sc 84 39 [zp a0, zj x1, zj x2] [] (w.set f3_5 (za (zsi l_16 x2 (zgi l_16 (x2 + 1))))) ov w' c s
    refine rl_inc rfl rfl rfl rfl ?_
    show Zr sc 84 42 [zp a0, zj x1, zj (x2 + 1)] [] (w.set f3_5 (za (zsi l_16 x2 (zgi l_16 (x2 + 1))))) ov w' c s
    refine Zr_st (q := (15, [zp a0, zj x1, zj (x2 + 1)], [])) rfl rfl rfl ?_
    show Zr sc 84 15 [zp a0, zj x1, zj (x2 + 1)] [] (w.set f3_5 (za (zsi l_16 x2 (zgi l_16 (x2 + 1))))) ov w' c s
    exact h

-- HeapwrightLab$Blocks.indexOf(I)I
set_option maxRecDepth 100000 in
theorem V85_0 {sc : List Value} {w w' : List zE} {ov : Option Value} {c s : Nat} {a0 : Nat} {x1 : Int} (h : Zr sc 85 2 [zp a0, zj x1, zj 0] [] w ov w' c s) : Zr sc 85 0 [zp a0, zj x1, zmk] [] w ov w' c s := by
  refine rl_ic rfl ?_
  show Zr sc 85 1 [zp a0, zj x1, zmk] [zj 0] w ov w' c s
  refine Zr_st (q := (2, [zp a0, zj x1, zj 0], [])) rfl rfl rfl ?_
  show Zr sc 85 2 [zp a0, zj x1, zj 0] [] w ov w' c s
  exact h
set_option maxRecDepth 100000 in
theorem V85_2 {sc : List Value} {w w' : List zE} {ov : Option Value} {c s : Nat} {a0 : Nat} {x1 : Int} {x2 : Int} (h : (∃ f0_2 : Nat, ∃ f1_3 : Nat, ∃ f2_4 : Nat, ∃ f3_5 : Nat, ∃ f4_6 : Int, ∃ f5_7 : Int, w[a0]? = some (zob 0 [zp f0_2, zp f1_3, zp f2_4, zp f3_5, zj f4_6, zj f5_7]) ∧ ((zrg x2 ∧ zrg (f4_6 - 1)) ∧ (((f4_6 - 1) ≤ x2 → ((zrg f4_6) ∧ ((f4_6 ≤ 0 → (ov = some (zj 0) ∧ w' = w ∧ c = 0 ∧ s = 0)) ∧ (¬ (f4_6 ≤ 0) → (ov = some (zj (f4_6 - 1)) ∧ w' = w ∧ c = 0 ∧ s = 0))))) ∧ (¬ ((f4_6 - 1) ≤ x2) → (∃ l_12 : List Int, w[f3_5]? = some (za l_12) ∧ ((0 ≤ x2 ∧ x2 < (l_12.length : Int) ∧ x2 ≤ 2147483647) ∧ ((zrg (zgi l_12 x2) ∧ zrg x1) ∧ (((zgi l_12 x2) ≠ x1 → Zr sc 85 2 [zp a0, zj x1, zj (x2 + 1)] [] w ov w' c s) ∧ (¬ ((zgi l_12 x2) ≠ x1) → (ov = some (zj x2) ∧ w' = w ∧ c = 0 ∧ s = 0))))))))))) : Zr sc 85 2 [zp a0, zj x1, zj x2] [] w ov w' c s := by
  refine Zr_st (q := (3, [zp a0, zj x1, zj x2], [zj x2])) rfl rfl rfl ?_
  show Zr sc 85 3 [zp a0, zj x1, zj x2] [zj x2] w ov w' c s
  refine Zr_st (q := (4, [zp a0, zj x1, zj x2], [zp a0, zj x2])) rfl rfl rfl ?_
  show Zr sc 85 4 [zp a0, zj x1, zj x2] [zp a0, zj x2] w ov w' c s
  obtain ⟨f0_2, f1_3, f2_4, f3_5, f4_6, f5_7, hw_1, h⟩ := h
  refine rl_gf rfl hw_1 rfl rfl ?_
  show Zr sc 85 7 [zp a0, zj x1, zj x2] [zj f4_6, zj x2] w ov w' c s
  refine rl_ic rfl ?_
  show Zr sc 85 8 [zp a0, zj x1, zj x2] [zj 1, zj f4_6, zj x2] w ov w' c s
  refine rl_sub rfl ?_
  show Zr sc 85 9 [zp a0, zj x1, zj x2] [zj (f4_6 - 1), zj x2] w ov w' c s
  obtain ⟨hr_8, h⟩ := h
  refine Zr_br (p := (f4_6 - 1) ≤ x2) rfl rfl (zcmp_j (cnd := .ge) hr_8.1 hr_8.2) (fun hp => ?_) (fun hp => ?_)
  · replace h := h.1 hp
    show Zr sc 85 30 [zp a0, zj x1, zj x2] [] w ov w' c s
    refine Zr_st (q := (31, [zp a0, zj x1, zj x2], [zp a0])) rfl rfl rfl ?_
    show Zr sc 85 31 [zp a0, zj x1, zj x2] [zp a0] w ov w' c s
    refine rl_gf rfl hw_1 rfl rfl ?_
    show Zr sc 85 34 [zp a0, zj x1, zj x2] [zj f4_6] w ov w' c s
    obtain ⟨hr_9, h⟩ := h
    refine Zr_b0 (p := f4_6 ≤ 0) rfl rfl (zcmp_0 (cnd := .le) hr_9) (fun hp => ?_) (fun hp => ?_)
    · replace h := h.1 hp
      show Zr sc 85 46 [zp a0, zj x1, zj x2] [] w ov w' c s
      refine rl_ic rfl ?_
      show Zr sc 85 47 [zp a0, zj x1, zj x2] [zj 0] w ov w' c s
      obtain ⟨h1, h2, h3, h4⟩ := h
      subst h1; subst h2; subst h3; subst h4
      exact Zr_ret (ins := .ireturn) rfl rfl
    · replace h := h.2 hp
      show Zr sc 85 37 [zp a0, zj x1, zj x2] [] w ov w' c s
      refine Zr_st (q := (38, [zp a0, zj x1, zj x2], [zp a0])) rfl rfl rfl ?_
      show Zr sc 85 38 [zp a0, zj x1, zj x2] [zp a0] w ov w' c s
      refine rl_gf rfl hw_1 rfl rfl ?_
      show Zr sc 85 41 [zp a0, zj x1, zj x2] [zj f4_6] w ov w' c s
      refine rl_ic rfl ?_
      show Zr sc 85 42 [zp a0, zj x1, zj x2] [zj 1, zj f4_6] w ov w' c s
      refine rl_sub rfl ?_
      show Zr sc 85 43 [zp a0, zj x1, zj x2] [zj (f4_6 - 1)] w ov w' c s
      refine Zr_st (q := (47, [zp a0, zj x1, zj x2], [zj (f4_6 - 1)])) rfl rfl rfl ?_
      show Zr sc 85 47 [zp a0, zj x1, zj x2] [zj (f4_6 - 1)] w ov w' c s
      obtain ⟨h1, h2, h3, h4⟩ := h
      subst h1; subst h2; subst h3; subst h4
      exact Zr_ret (ins := .ireturn) rfl rfl
  · replace h := h.2 hp
    show Zr sc 85 12 [zp a0, zj x1, zj x2] [] w ov w' c s
    refine Zr_st (q := (13, [zp a0, zj x1, zj x2], [zp a0])) rfl rfl rfl ?_
    show Zr sc 85 13 [zp a0, zj x1, zj x2] [zp a0] w ov w' c s
    refine rl_gf rfl hw_1 rfl rfl ?_
    show Zr sc 85 16 [zp a0, zj x1, zj x2] [zp f3_5] w ov w' c s
    refine Zr_st (q := (17, [zp a0, zj x1, zj x2], [zj x2, zp f3_5])) rfl rfl rfl ?_
    show Zr sc 85 17 [zp a0, zj x1, zj x2] [zj x2, zp f3_5] w ov w' c s
    obtain ⟨l_12, hw_11, h⟩ := h
    obtain ⟨hi_10, h⟩ := h
    refine rl_ia rfl hw_11 hi_10.1 hi_10.2.1 hi_10.2.2 ?_
    show Zr sc 85 18 [zp a0, zj x1, zj x2] [zj (zgi l_12 x2)] w ov w' c s
    refine Zr_st (q := (19, [zp a0, zj x1, zj x2], [zj x1, zj (zgi l_12 x2)])) rfl rfl rfl ?_
    show Zr sc 85 19 [zp a0, zj x1, zj x2] [zj x1, zj (zgi l_12 x2)] w ov w' c s
    obtain ⟨hr_13, h⟩ := h
    refine Zr_br (p := (zgi l_12 x2) ≠ x1) rfl rfl (zcmp_j (cnd := .ne) hr_13.1 hr_13.2) (fun hp => ?_) (fun hp => ?_)
    · replace h := h.1 hp
      show Zr sc 85 24 [zp a0, zj x1, zj x2] [] w ov w' c s
      refine rl_inc rfl rfl rfl rfl ?_
      show Zr sc 85 27 [zp a0, zj x1, zj (x2 + 1)] [] w ov w' c s
      refine Zr_st (q := (2, [zp a0, zj x1, zj (x2 + 1)], [])) rfl rfl rfl ?_
      show Zr sc 85 2 [zp a0, zj x1, zj (x2 + 1)] [] w ov w' c s
      exact h
    · replace h := h.2 hp
      show Zr sc 85 22 [zp a0, zj x1, zj x2] [] w ov w' c s
      refine Zr_st (q := (23, [zp a0, zj x1, zj x2], [zj x2])) rfl rfl rfl ?_
      show Zr sc 85 23 [zp a0, zj x1, zj x2] [zj x2] w ov w' c s
      obtain ⟨h1, h2, h3, h4⟩ := h
      subst h1; subst h2; subst h3; subst h4
      exact Zr_ret (ins := .ireturn) rfl rfl

-- HeapwrightLab$Fits.joins(II)I
set_option maxRecDepth 100000 in
theorem V86_0 {sc : List Value} {w w' : List zE} {ov : Option Value} {c s : Nat} {a0 : Nat} {x1 : Int} {x2 : Int} (h : (∃ f0_2 : Nat, ∃ f1_3 : Nat, ∃ f2_4 : Int, ∃ f3_5 : Int, ∃ f4_6 : Int, ∃ f5_7 : Int, ∃ f6_8 : Int, ∃ f7_9 : Nat, ∃ f8_10 : Nat, ∃ f9_11 : Int, ∃ f10_12 : Int, ∃ f11_13 : Int, ∃ f12_14 : Int, w[a0]? = some (zob 2 [zp f0_2, zp f1_3, zj f2_4, zj f3_5, zj f4_6, zj f5_7, zj f6_8, zp f7_9, zp f8_10, zj f9_11, zj f10_12, zj f11_13, zj f12_14]) ∧ (∃ f0_16 : Nat, ∃ f1_17 : Nat, ∃ f2_18 : Int, w[f1_3]? = some (zob 3 [zp f0_16, zp f1_17, zj f2_18]) ∧ (∃ r_21 : Int, ∃ w_19 : List zE, Zc sc 47 [zp f1_3, zj x1] w (some (zj r_21)) w_19 0 0 ∧ (∃ f0_23 : Nat, ∃ f1_24 : Nat, ∃ f2_25 : Int, ∃ f3_26 : Int, ∃ f4_27 : Int, ∃ f5_28 : Int, ∃ f6_29 : Int, ∃ f7_30 : Nat, ∃ f8_31 : Nat, ∃ f9_32 : Int, ∃ f10_33 : Int, ∃ f11_34 : Int, ∃ f12_35 : Int, w_19[a0]? = some (zob 2 [zp f0_23, zp f1_24, zj f2_25, zj f3_26, zj f4_27, zj f5_28, zj f6_29, zp f7_30, zp f8_31, zj f9_32, zj f10_33, zj f11_34, zj f12_35]) ∧ (∃ f0_37 : Nat, ∃ f1_38 : Nat, ∃ f2_39 : Int, w_19[f1_24]? = some (zob 3 [zp f0_37, zp f1_38, zj f2_39]) ∧ (∃ r_42 : Int, ∃ w_40 : List zE, Zc sc 24 [zp f1_24, zj r_21] w_19 (some (zj r_42)) w_40 0 0 ∧ ((zrg r_42 ∧ zrg x1) ∧ ((x1 ≤ r_42 → (∃ f0_45 : Nat, ∃ f1_46 : Nat, ∃ f2_47 : Int, ∃ f3_48 : Int, ∃ f4_49 : Int, ∃ f5_50 : Int, ∃ f6_51 : Int, ∃ f7_52 : Nat, ∃ f8_53 : Nat, ∃ f9_54 : Int, ∃ f10_55 : Int, ∃ f11_56 : Int, ∃ f12_57 : Int, w_40[a0]? = some (zob 2 [zp f0_45, zp f1_46, zj f2_47, zj f3_48, zj f4_49, zj f5_50, zj f6_51, zp f7_52, zp f8_53, zj f9_54, zj f10_55, zj f11_56, zj f12_57]) ∧ (∃ f0_59 : Nat, ∃ f1_60 : Nat, ∃ f2_61 : Int, w_40[f1_46]? = some (zob 3 [zp f0_59, zp f1_60, zj f2_61]) ∧ (∃ r_64 : Int, ∃ w_62 : List zE, Zc sc 24 [zp f1_46, zj r_21] w_40 (some (zj r_64)) w_62 0 0 ∧ (∃ f0_66 : Nat, ∃ f1_67 : Nat, ∃ f2_68 : Int, ∃ f3_69 : Int, ∃ f4_70 : Int, ∃ f5_71 : Int, ∃ f6_72 : Int, ∃ f7_73 : Nat, ∃ f8_74 : Nat, ∃ f9_75 : Int, ∃ f10_76 : Int, ∃ f11_77 : Int, ∃ f12_78 : Int, w_62[a0]? = some (zob 2 [zp f0_66, zp f1_67, zj f2_68, zj f3_69, zj f4_70, zj f5_71, zj f6_72, zp f7_73, zp f8_74, zj f9_75, zj f10_76, zj f11_77, zj f12_78]) ∧ (∃ f0_80 : Nat, ∃ f1_81 : Nat, ∃ f2_82 : Int, w_62[f1_67]? = some (zob 3 [zp f0_80, zp f1_81, zj f2_82]) ∧ (∃ r_85 : Int, ∃ w_83 : List zE, Zc sc 26 [zp f1_67, zj r_21] w_62 (some (zj r_85)) w_83 0 0 ∧ ((zrg (r_64 + r_85) ∧ zrg (x1 + x2)) ∧ (((r_64 + r_85) ≤ (x1 + x2) → (ov = some (zj 0) ∧ w' = w_83 ∧ c = 0 ∧ s = 0)) ∧ (¬ ((r_64 + r_85) ≤ (x1 + x2)) → (ov = some (zj (0 + 1)) ∧ w' = w_83 ∧ c = 0 ∧ s = 0))))))))))) ∧ (¬ (x1 ≤ r_42) → (∃ f0_88 : Nat, ∃ f1_89 : Nat, ∃ f2_90 : Int, ∃ f3_91 : Int, ∃ f4_92 : Int, ∃ f5_93 : Int, ∃ f6_94 : Int, ∃ f7_95 : Nat, ∃ f8_96 : Nat, ∃ f9_97 : Int, ∃ f10_98 : Int, ∃ f11_99 : Int, ∃ f12_100 : Int, w_40[a0]? = some (zob 2 [zp f0_88, zp f1_89, zj f2_90, zj f3_91, zj f4_92, zj f5_93, zj f6_94, zp f7_95, zp f8_96, zj f9_97, zj f10_98, zj f11_99, zj f12_100]) ∧ (∃ f0_102 : Nat, ∃ f1_103 : Nat, ∃ f2_104 : Int, w_40[f1_89]? = some (zob 3 [zp f0_102, zp f1_103, zj f2_104]) ∧ (∃ r_107 : Int, ∃ w_105 : List zE, Zc sc 24 [zp f1_89, zj r_21] w_40 (some (zj r_107)) w_105 0 0 ∧ (∃ f0_109 : Nat, ∃ f1_110 : Nat, ∃ f2_111 : Int, ∃ f3_112 : Int, ∃ f4_113 : Int, ∃ f5_114 : Int, ∃ f6_115 : Int, ∃ f7_116 : Nat, ∃ f8_117 : Nat, ∃ f9_118 : Int, ∃ f10_119 : Int, ∃ f11_120 : Int, ∃ f12_121 : Int, w_105[a0]? = some (zob 2 [zp f0_109, zp f1_110, zj f2_111, zj f3_112, zj f4_113, zj f5_114, zj f6_115, zp f7_116, zp f8_117, zj f9_118, zj f10_119, zj f11_120, zj f12_121]) ∧ (∃ f0_123 : Nat, ∃ f1_124 : Nat, ∃ f2_125 : Int, w_105[f1_110]? = some (zob 3 [zp f0_123, zp f1_124, zj f2_125]) ∧ (∃ r_128 : Int, ∃ w_126 : List zE, Zc sc 26 [zp f1_110, zj r_21] w_105 (some (zj r_128)) w_126 0 0 ∧ ((zrg (r_107 + r_128) ∧ zrg (x1 + x2)) ∧ (((r_107 + r_128) ≤ (x1 + x2) → (ov = some (zj (0 + 1)) ∧ w' = w_126 ∧ c = 0 ∧ s = 0)) ∧ (¬ ((r_107 + r_128) ≤ (x1 + x2)) → (ov = some (zj ((0 + 1) + 1)) ∧ w' = w_126 ∧ c = 0 ∧ s = 0)))))))))))))))))))) : Zr sc 86 0 [zp a0, zj x1, zj x2, zmk, zmk] [] w ov w' c s := by
  refine Zr_st (q := (1, [zp a0, zj x1, zj x2, zmk, zmk], [zp a0])) rfl rfl rfl ?_
  show Zr sc 86 1 [zp a0, zj x1, zj x2, zmk, zmk] [zp a0] w ov w' c s
  obtain ⟨f0_2, f1_3, f2_4, f3_5, f4_6, f5_7, f6_8, f7_9, f8_10, f9_11, f10_12, f11_13, f12_14, hw_1, h⟩ := h
  refine rl_gf rfl hw_1 rfl rfl ?_
  show Zr sc 86 4 [zp a0, zj x1, zj x2, zmk, zmk] [zp f1_3] w ov w' c s
  refine Zr_st (q := (5, [zp a0, zj x1, zj x2, zmk, zmk], [zj x1, zp f1_3])) rfl rfl rfl ?_
  show Zr sc 86 5 [zp a0, zj x1, zj x2, zmk, zmk] [zj x1, zp f1_3] w ov w' c s
  obtain ⟨f0_16, f1_17, f2_18, hw_15, h⟩ := h
  obtain ⟨r_21, w_19, hk_20, h⟩ := h
  refine rn_cal0 (ins := .invokevirtual 44) (rest := []) rfl rfl rfl rfl (zinv_v (fs := _) hw_15 rfl rfl rfl rfl) rfl rfl hk_20 ?_
  show Zr sc 86 8 [zp a0, zj x1, zj x2, zmk, zmk] [zj r_21] w_19 ov w' c s
  refine Zr_st (q := (9, [zp a0, zj x1, zj x2, zj r_21, zmk], [])) rfl rfl rfl ?_
  show Zr sc 86 9 [zp a0, zj x1, zj x2, zj r_21, zmk] [] w_19 ov w' c s
  refine rl_ic rfl ?_
  show Zr sc 86 10 [zp a0, zj x1, zj x2, zj r_21, zmk] [zj 0] w_19 ov w' c s
  refine Zr_st (q := (12, [zp a0, zj x1, zj x2, zj r_21, zj 0], [])) rfl rfl rfl ?_
  show Zr sc 86 12 [zp a0, zj x1, zj x2, zj r_21, zj 0] [] w_19 ov w' c s
  refine Zr_st (q := (13, [zp a0, zj x1, zj x2, zj r_21, zj 0], [zp a0])) rfl rfl rfl ?_
  show Zr sc 86 13 [zp a0, zj x1, zj x2, zj r_21, zj 0] [zp a0] w_19 ov w' c s
  obtain ⟨f0_23, f1_24, f2_25, f3_26, f4_27, f5_28, f6_29, f7_30, f8_31, f9_32, f10_33, f11_34, f12_35, hw_22, h⟩ := h
  refine rl_gf rfl hw_22 rfl rfl ?_
  show Zr sc 86 16 [zp a0, zj x1, zj x2, zj r_21, zj 0] [zp f1_24] w_19 ov w' c s
  refine Zr_st (q := (17, [zp a0, zj x1, zj x2, zj r_21, zj 0], [zj r_21, zp f1_24])) rfl rfl rfl ?_
  show Zr sc 86 17 [zp a0, zj x1, zj x2, zj r_21, zj 0] [zj r_21, zp f1_24] w_19 ov w' c s
  obtain ⟨f0_37, f1_38, f2_39, hw_36, h⟩ := h
  obtain ⟨r_42, w_40, hk_41, h⟩ := h
  refine rn_cal0 (ins := .invokevirtual 63) (rest := []) rfl rfl rfl rfl (zinv_v (fs := _) hw_36 rfl rfl rfl rfl) rfl rfl hk_41 ?_
  show Zr sc 86 20 [zp a0, zj x1, zj x2, zj r_21, zj 0] [zj r_42] w_40 ov w' c s
  refine Zr_st (q := (21, [zp a0, zj x1, zj x2, zj r_21, zj 0], [zj x1, zj r_42])) rfl rfl rfl ?_
  show Zr sc 86 21 [zp a0, zj x1, zj x2, zj r_21, zj 0] [zj x1, zj r_42] w_40 ov w' c s
  obtain ⟨hr_43, h⟩ := h
  refine Zr_br (p := x1 ≤ r_42) rfl rfl (zcmp_j (cnd := .ge) hr_43.1 hr_43.2) (fun hp => ?_) (fun hp => ?_)
  · replace h := h.1 hp
    show Zr sc 86 27 [zp a0, zj x1, zj x2, zj r_21, zj 0] [] w_40 ov w' c s
    refine Zr_st (q := (28, [zp a0, zj x1, zj x2, zj r_21, zj 0], [zp a0])) rfl rfl rfl ?_
    show Zr sc 86 28 [zp a0, zj x1, zj x2, zj r_21, zj 0] [zp a0] w_40 ov w' c s
    obtain ⟨f0_45, f1_46, f2_47, f3_48, f4_49, f5_50, f6_51, f7_52, f8_53, f9_54, f10_55, f11_56, f12_57, hw_44, h⟩ := h
    refine rl_gf rfl hw_44 rfl rfl ?_
    show Zr sc 86 31 [zp a0, zj x1, zj x2, zj r_21, zj 0] [zp f1_46] w_40 ov w' c s
    refine Zr_st (q := (32, [zp a0, zj x1, zj x2, zj r_21, zj 0], [zj r_21, zp f1_46])) rfl rfl rfl ?_
    show Zr sc 86 32 [zp a0, zj x1, zj x2, zj r_21, zj 0] [zj r_21, zp f1_46] w_40 ov w' c s
    obtain ⟨f0_59, f1_60, f2_61, hw_58, h⟩ := h
    obtain ⟨r_64, w_62, hk_63, h⟩ := h
    refine rn_cal0 (ins := .invokevirtual 63) (rest := []) rfl rfl rfl rfl (zinv_v (fs := _) hw_58 rfl rfl rfl rfl) rfl rfl hk_63 ?_
    show Zr sc 86 35 [zp a0, zj x1, zj x2, zj r_21, zj 0] [zj r_64] w_62 ov w' c s
    refine Zr_st (q := (36, [zp a0, zj x1, zj x2, zj r_21, zj 0], [zp a0, zj r_64])) rfl rfl rfl ?_
    show Zr sc 86 36 [zp a0, zj x1, zj x2, zj r_21, zj 0] [zp a0, zj r_64] w_62 ov w' c s
    obtain ⟨f0_66, f1_67, f2_68, f3_69, f4_70, f5_71, f6_72, f7_73, f8_74, f9_75, f10_76, f11_77, f12_78, hw_65, h⟩ := h
    refine rl_gf rfl hw_65 rfl rfl ?_
    show Zr sc 86 39 [zp a0, zj x1, zj x2, zj r_21, zj 0] [zp f1_67, zj r_64] w_62 ov w' c s
    refine Zr_st (q := (40, [zp a0, zj x1, zj x2, zj r_21, zj 0], [zj r_21, zp f1_67, zj r_64])) rfl rfl rfl ?_
    show Zr sc 86 40 [zp a0, zj x1, zj x2, zj r_21, zj 0] [zj r_21, zp f1_67, zj r_64] w_62 ov w' c s
    obtain ⟨f0_80, f1_81, f2_82, hw_79, h⟩ := h
    obtain ⟨r_85, w_83, hk_84, h⟩ := h
    refine rn_cal0 (ins := .invokevirtual 66) (rest := [zj r_64]) rfl rfl rfl rfl (zinv_v (fs := _) hw_79 rfl rfl rfl rfl) rfl rfl hk_84 ?_
    show Zr sc 86 43 [zp a0, zj x1, zj x2, zj r_21, zj 0] [zj r_85, zj r_64] w_83 ov w' c s
    refine rl_add rfl ?_
    show Zr sc 86 44 [zp a0, zj x1, zj x2, zj r_21, zj 0] [zj (r_64 + r_85)] w_83 ov w' c s
    refine Zr_st (q := (45, [zp a0, zj x1, zj x2, zj r_21, zj 0], [zj x1, zj (r_64 + r_85)])) rfl rfl rfl ?_
    show Zr sc 86 45 [zp a0, zj x1, zj x2, zj r_21, zj 0] [zj x1, zj (r_64 + r_85)] w_83 ov w' c s
    refine Zr_st (q := (46, [zp a0, zj x1, zj x2, zj r_21, zj 0], [zj x2, zj x1, zj (r_64 + r_85)])) rfl rfl rfl ?_
    show Zr sc 86 46 [zp a0, zj x1, zj x2, zj r_21, zj 0] [zj x2, zj x1, zj (r_64 + r_85)] w_83 ov w' c s
    refine rl_add rfl ?_
    show Zr sc 86 47 [zp a0, zj x1, zj x2, zj r_21, zj 0] [zj (x1 + x2), zj (r_64 + r_85)] w_83 ov w' c s
    obtain ⟨hr_86, h⟩ := h
    refine Zr_br (p := (r_64 + r_85) ≤ (x1 + x2)) rfl rfl (zcmp_j (cnd := .le) hr_86.1 hr_86.2) (fun hp => ?_) (fun hp => ?_)
    · replace h := h.1 hp
      show Zr sc 86 53 [zp a0, zj x1, zj x2, zj r_21, zj 0] [] w_83 ov w' c s
      refine Zr_st (q := (55, [zp a0, zj x1, zj x2, zj r_21, zj 0], [zj 0])) rfl rfl rfl ?_
      show Zr sc 86 55 [zp a0, zj x1, zj x2, zj r_21, zj 0] [zj 0] w_83 ov w' c s
      obtain ⟨h1, h2, h3, h4⟩ := h
      subst h1; subst h2; subst h3; subst h4
      exact Zr_ret (ins := .ireturn) rfl rfl
    · replace h := h.2 hp
      show Zr sc 86 50 [zp a0, zj x1, zj x2, zj r_21, zj 0] [] w_83 ov w' c s
      refine rl_inc rfl rfl rfl rfl ?_
      show Zr sc 86 53 [zp a0, zj x1, zj x2, zj r_21, zj (0 + 1)] [] w_83 ov w' c s
      refine Zr_st (q := (55, [zp a0, zj x1, zj x2, zj r_21, zj (0 + 1)], [zj (0 + 1)])) rfl rfl rfl ?_
      show Zr sc 86 55 [zp a0, zj x1, zj x2, zj r_21, zj (0 + 1)] [zj (0 + 1)] w_83 ov w' c s
      obtain ⟨h1, h2, h3, h4⟩ := h
      subst h1; subst h2; subst h3; subst h4
      exact Zr_ret (ins := .ireturn) rfl rfl
  · replace h := h.2 hp
    show Zr sc 86 24 [zp a0, zj x1, zj x2, zj r_21, zj 0] [] w_40 ov w' c s
    refine rl_inc rfl rfl rfl rfl ?_
    show Zr sc 86 27 [zp a0, zj x1, zj x2, zj r_21, zj (0 + 1)] [] w_40 ov w' c s
    refine Zr_st (q := (28, [zp a0, zj x1, zj x2, zj r_21, zj (0 + 1)], [zp a0])) rfl rfl rfl ?_
    show Zr sc 86 28 [zp a0, zj x1, zj x2, zj r_21, zj (0 + 1)] [zp a0] w_40 ov w' c s
    obtain ⟨f0_88, f1_89, f2_90, f3_91, f4_92, f5_93, f6_94, f7_95, f8_96, f9_97, f10_98, f11_99, f12_100, hw_87, h⟩ := h
    refine rl_gf rfl hw_87 rfl rfl ?_
    show Zr sc 86 31 [zp a0, zj x1, zj x2, zj r_21, zj (0 + 1)] [zp f1_89] w_40 ov w' c s
    refine Zr_st (q := (32, [zp a0, zj x1, zj x2, zj r_21, zj (0 + 1)], [zj r_21, zp f1_89])) rfl rfl rfl ?_
    show Zr sc 86 32 [zp a0, zj x1, zj x2, zj r_21, zj (0 + 1)] [zj r_21, zp f1_89] w_40 ov w' c s
    obtain ⟨f0_102, f1_103, f2_104, hw_101, h⟩ := h
    obtain ⟨r_107, w_105, hk_106, h⟩ := h
    refine rn_cal0 (ins := .invokevirtual 63) (rest := []) rfl rfl rfl rfl (zinv_v (fs := _) hw_101 rfl rfl rfl rfl) rfl rfl hk_106 ?_
    show Zr sc 86 35 [zp a0, zj x1, zj x2, zj r_21, zj (0 + 1)] [zj r_107] w_105 ov w' c s
    refine Zr_st (q := (36, [zp a0, zj x1, zj x2, zj r_21, zj (0 + 1)], [zp a0, zj r_107])) rfl rfl rfl ?_
    show Zr sc 86 36 [zp a0, zj x1, zj x2, zj r_21, zj (0 + 1)] [zp a0, zj r_107] w_105 ov w' c s
    obtain ⟨f0_109, f1_110, f2_111, f3_112, f4_113, f5_114, f6_115, f7_116, f8_117, f9_118, f10_119, f11_120, f12_121, hw_108, h⟩ := h
    refine rl_gf rfl hw_108 rfl rfl ?_
    show Zr sc 86 39 [zp a0, zj x1, zj x2, zj r_21, zj (0 + 1)] [zp f1_110, zj r_107] w_105 ov w' c s
    refine Zr_st (q := (40, [zp a0, zj x1, zj x2, zj r_21, zj (0 + 1)], [zj r_21, zp f1_110, zj r_107])) rfl rfl rfl ?_
    show Zr sc 86 40 [zp a0, zj x1, zj x2, zj r_21, zj (0 + 1)] [zj r_21, zp f1_110, zj r_107] w_105 ov w' c s
    obtain ⟨f0_123, f1_124, f2_125, hw_122, h⟩ := h
    obtain ⟨r_128, w_126, hk_127, h⟩ := h
    refine rn_cal0 (ins := .invokevirtual 66) (rest := [zj r_107]) rfl rfl rfl rfl (zinv_v (fs := _) hw_122 rfl rfl rfl rfl) rfl rfl hk_127 ?_
    show Zr sc 86 43 [zp a0, zj x1, zj x2, zj r_21, zj (0 + 1)] [zj r_128, zj r_107] w_126 ov w' c s
    refine rl_add rfl ?_
    show Zr sc 86 44 [zp a0, zj x1, zj x2, zj r_21, zj (0 + 1)] [zj (r_107 + r_128)] w_126 ov w' c s
    refine Zr_st (q := (45, [zp a0, zj x1, zj x2, zj r_21, zj (0 + 1)], [zj x1, zj (r_107 + r_128)])) rfl rfl rfl ?_
    show Zr sc 86 45 [zp a0, zj x1, zj x2, zj r_21, zj (0 + 1)] [zj x1, zj (r_107 + r_128)] w_126 ov w' c s
    refine Zr_st (q := (46, [zp a0, zj x1, zj x2, zj r_21, zj (0 + 1)], [zj x2, zj x1, zj (r_107 + r_128)])) rfl rfl rfl ?_
    show Zr sc 86 46 [zp a0, zj x1, zj x2, zj r_21, zj (0 + 1)] [zj x2, zj x1, zj (r_107 + r_128)] w_126 ov w' c s
    refine rl_add rfl ?_
    show Zr sc 86 47 [zp a0, zj x1, zj x2, zj r_21, zj (0 + 1)] [zj (x1 + x2), zj (r_107 + r_128)] w_126 ov w' c s
    obtain ⟨hr_129, h⟩ := h
    refine Zr_br (p := (r_107 + r_128) ≤ (x1 + x2)) rfl rfl (zcmp_j (cnd := .le) hr_129.1 hr_129.2) (fun hp => ?_) (fun hp => ?_)
    · replace h := h.1 hp
      show Zr sc 86 53 [zp a0, zj x1, zj x2, zj r_21, zj (0 + 1)] [] w_126 ov w' c s
      refine Zr_st (q := (55, [zp a0, zj x1, zj x2, zj r_21, zj (0 + 1)], [zj (0 + 1)])) rfl rfl rfl ?_
      show Zr sc 86 55 [zp a0, zj x1, zj x2, zj r_21, zj (0 + 1)] [zj (0 + 1)] w_126 ov w' c s
      obtain ⟨h1, h2, h3, h4⟩ := h
      subst h1; subst h2; subst h3; subst h4
      exact Zr_ret (ins := .ireturn) rfl rfl
    · replace h := h.2 hp
      show Zr sc 86 50 [zp a0, zj x1, zj x2, zj r_21, zj (0 + 1)] [] w_126 ov w' c s
      refine rl_inc rfl rfl rfl rfl ?_
      show Zr sc 86 53 [zp a0, zj x1, zj x2, zj r_21, zj ((0 + 1) + 1)] [] w_126 ov w' c s
      refine Zr_st (q := (55, [zp a0, zj x1, zj x2, zj r_21, zj ((0 + 1) + 1)], [zj ((0 + 1) + 1)])) rfl rfl rfl ?_
      show Zr sc 86 55 [zp a0, zj x1, zj x2, zj r_21, zj ((0 + 1) + 1)] [zj ((0 + 1) + 1)] w_126 ov w' c s
      obtain ⟨h1, h2, h3, h4⟩ := h
      subst h1; subst h2; subst h3; subst h4
      exact Zr_ret (ins := .ireturn) rfl rfl

-- HeapwrightLab$Memory.joins(II)I
set_option maxRecDepth 100000 in
theorem V87_0_1 {sc : List Value} {w w' : List zE} {ov : Option Value} {c s : Nat} {a0 : Nat} {x1 : Int} {x2 : Int} (h : (∃ f0_2 : Nat, ∃ f1_3 : Nat, ∃ f2_4 : Int, ∃ f3_5 : Int, ∃ f4_6 : Int, ∃ f5_7 : Int, ∃ f6_8 : Int, ∃ f7_9 : Nat, ∃ f8_10 : Nat, ∃ f9_11 : Int, ∃ f10_12 : Int, ∃ f11_13 : Int, ∃ f12_14 : Int, w[a0]? = some (zob 1 [zp f0_2, zp f1_3, zj f2_4, zj f3_5, zj f4_6, zj f5_7, zj f6_8, zp f7_9, zp f8_10, zj f9_11, zj f10_12, zj f11_13, zj f12_14]) ∧ (∃ f0_16 : Nat, ∃ f1_17 : Nat, ∃ f2_18 : Int, w[f1_3]? = some (zob 3 [zp f0_16, zp f1_17, zj f2_18]) ∧ (∃ r_21 : Int, ∃ w_19 : List zE, Zc sc 47 [zp f1_3, zj x1] w (some (zj r_21)) w_19 0 0 ∧ (∃ f0_23 : Nat, ∃ f1_24 : Nat, ∃ f2_25 : Int, w_19[f1_3]? = some (zob 3 [zp f0_23, zp f1_24, zj f2_25]) ∧ (∃ r_28 : Int, ∃ w_26 : List zE, Zc sc 26 [zp f1_3, zj r_21] w_19 (some (zj r_28)) w_26 0 0 ∧ (∃ f0_30 : Nat, ∃ f1_31 : Nat, ∃ f2_32 : Int, ∃ f3_33 : Int, ∃ f4_34 : Int, ∃ f5_35 : Int, ∃ f6_36 : Int, ∃ f7_37 : Nat, ∃ f8_38 : Nat, ∃ f9_39 : Int, ∃ f10_40 : Int, ∃ f11_41 : Int, ∃ f12_42 : Int, w_26[a0]? = some (zob 1 [zp f0_30, zp f1_31, zj f2_32, zj f3_33, zj f4_34, zj f5_35, zj f6_36, zp f7_37, zp f8_38, zj f9_39, zj f10_40, zj f11_41, zj f12_42]) ∧ (∃ r_45 : Int, ∃ w_43 : List zE, Zc sc 65 [zp a0, zj r_28, zj x2] w_26 (some (zj r_45)) w_43 0 0 ∧ (ov = some (zj r_45) ∧ w' = w_43 ∧ c = 0 ∧ s = 0))))))))) : Zr sc 87 0 [zp a0, zj x1, zj x2] [] w ov w' c s := by
  refine Zr_st (q := (1, [zp a0, zj x1, zj x2], [zp a0])) rfl rfl rfl ?_
  show Zr sc 87 1 [zp a0, zj x1, zj x2] [zp a0] w ov w' c s
  refine Zr_st (q := (2, [zp a0, zj x1, zj x2], [zp a0, zp a0])) rfl rfl rfl ?_
  show Zr sc 87 2 [zp a0, zj x1, zj x2] [zp a0, zp a0] w ov w' c s
  obtain ⟨f0_2, f1_3, f2_4, f3_5, f4_6, f5_7, f6_8, f7_9, f8_10, f9_11, f10_12, f11_13, f12_14, hw_1, h⟩ := h
  refine rl_gf rfl hw_1 rfl rfl ?_
  show Zr sc 87 5 [zp a0, zj x1, zj x2] [zp f1_3, zp a0] w ov w' c s
  refine Zr_st (q := (6, [zp a0, zj x1, zj x2], [zp a0, zp f1_3, zp a0])) rfl rfl rfl ?_
  show Zr sc 87 6 [zp a0, zj x1, zj x2] [zp a0, zp f1_3, zp a0] w ov w' c s
  refine rl_gf rfl hw_1 rfl rfl ?_
  show Zr sc 87 9 [zp a0, zj x1, zj x2] [zp f1_3, zp f1_3, zp a0] w ov w' c s
  refine Zr_st (q := (10, [zp a0, zj x1, zj x2], [zj x1, zp f1_3, zp f1_3, zp a0])) rfl rfl rfl ?_
  show Zr sc 87 10 [zp a0, zj x1, zj x2] [zj x1, zp f1_3, zp f1_3, zp a0] w ov w' c s
  obtain ⟨f0_16, f1_17, f2_18, hw_15, h⟩ := h
  obtain ⟨r_21, w_19, hk_20, h⟩ := h
  refine rn_cal0 (ins := .invokevirtual 42) (rest := [zp f1_3, zp a0]) rfl rfl rfl rfl (zinv_v (fs := _) hw_15 rfl rfl rfl rfl) rfl rfl hk_20 ?_
  show Zr sc 87 13 [zp a0, zj x1, zj x2] [zj r_21, zp f1_3, zp a0] w_19 ov w' c s
  obtain ⟨f0_23, f1_24, f2_25, hw_22, h⟩ := h
  obtain ⟨r_28, w_26, hk_27, h⟩ := h
  refine rn_cal0 (ins := .invokevirtual 46) (rest := [zp a0]) rfl rfl rfl rfl (zinv_v (fs := _) hw_22 rfl rfl rfl rfl) rfl rfl hk_27 ?_
  show Zr sc 87 16 [zp a0, zj x1, zj x2] [zj r_28, zp a0] w_26 ov w' c s
  refine Zr_st (q := (17, [zp a0, zj x1, zj x2], [zj x2, zj r_28, zp a0])) rfl rfl rfl ?_
  show Zr sc 87 17 [zp a0, zj x1, zj x2] [zj x2, zj r_28, zp a0] w_26 ov w' c s
  obtain ⟨f0_30, f1_31, f2_32, f3_33, f4_34, f5_35, f6_36, f7_37, f8_38, f9_39, f10_40, f11_41, f12_42, hw_29, h⟩ := h
  obtain ⟨r_45, w_43, hk_44, h⟩ := h
  refine rn_cal0 (ins := .invokevirtual 49) (rest := []) rfl rfl rfl rfl (zinv_v (fs := _) hw_29 rfl rfl rfl rfl) rfl rfl hk_44 ?_
  show Zr sc 87 20 [zp a0, zj x1, zj x2] [zj r_45] w_43 ov w' c s
  obtain ⟨h1, h2, h3, h4⟩ := h
  subst h1; subst h2; subst h3; subst h4
  exact Zr_ret (ins := .ireturn) rfl rfl

-- HeapwrightLab$Memory.joins(II)I
set_option maxRecDepth 100000 in
theorem V87_0_4 {sc : List Value} {w w' : List zE} {ov : Option Value} {c s : Nat} {a0 : Nat} {x1 : Int} {x2 : Int} (h : (∃ f0_2 : Nat, ∃ f1_3 : Nat, ∃ f2_4 : Int, ∃ f3_5 : Int, ∃ f4_6 : Int, ∃ f5_7 : Int, ∃ f6_8 : Int, ∃ f7_9 : Nat, ∃ f8_10 : Nat, ∃ f9_11 : Int, ∃ f10_12 : Int, ∃ f11_13 : Int, ∃ f12_14 : Int, ∃ f13_15 : Nat, w[a0]? = some (zob 4 [zp f0_2, zp f1_3, zj f2_4, zj f3_5, zj f4_6, zj f5_7, zj f6_8, zp f7_9, zp f8_10, zj f9_11, zj f10_12, zj f11_13, zj f12_14, zp f13_15]) ∧ (∃ f0_17 : Nat, ∃ f1_18 : Nat, ∃ f2_19 : Int, w[f1_3]? = some (zob 3 [zp f0_17, zp f1_18, zj f2_19]) ∧ (∃ r_22 : Int, ∃ w_20 : List zE, Zc sc 47 [zp f1_3, zj x1] w (some (zj r_22)) w_20 0 0 ∧ (∃ f0_24 : Nat, ∃ f1_25 : Nat, ∃ f2_26 : Int, w_20[f1_3]? = some (zob 3 [zp f0_24, zp f1_25, zj f2_26]) ∧ (∃ r_29 : Int, ∃ w_27 : List zE, Zc sc 26 [zp f1_3, zj r_22] w_20 (some (zj r_29)) w_27 0 0 ∧ (∃ f0_31 : Nat, ∃ f1_32 : Nat, ∃ f2_33 : Int, ∃ f3_34 : Int, ∃ f4_35 : Int, ∃ f5_36 : Int, ∃ f6_37 : Int, ∃ f7_38 : Nat, ∃ f8_39 : Nat, ∃ f9_40 : Int, ∃ f10_41 : Int, ∃ f11_42 : Int, ∃ f12_43 : Int, ∃ f13_44 : Nat, w_27[a0]? = some (zob 4 [zp f0_31, zp f1_32, zj f2_33, zj f3_34, zj f4_35, zj f5_36, zj f6_37, zp f7_38, zp f8_39, zj f9_40, zj f10_41, zj f11_42, zj f12_43, zp f13_44]) ∧ (∃ r_47 : Int, ∃ w_45 : List zE, Zc sc 67 [zp a0, zj r_29, zj x2] w_27 (some (zj r_47)) w_45 0 0 ∧ (ov = some (zj r_47) ∧ w' = w_45 ∧ c = 0 ∧ s = 0))))))))) : Zr sc 87 0 [zp a0, zj x1, zj x2] [] w ov w' c s := by
  refine Zr_st (q := (1, [zp a0, zj x1, zj x2], [zp a0])) rfl rfl rfl ?_
  show Zr sc 87 1 [zp a0, zj x1, zj x2] [zp a0] w ov w' c s
  refine Zr_st (q := (2, [zp a0, zj x1, zj x2], [zp a0, zp a0])) rfl rfl rfl ?_
  show Zr sc 87 2 [zp a0, zj x1, zj x2] [zp a0, zp a0] w ov w' c s
  obtain ⟨f0_2, f1_3, f2_4, f3_5, f4_6, f5_7, f6_8, f7_9, f8_10, f9_11, f10_12, f11_13, f12_14, f13_15, hw_1, h⟩ := h
  refine rl_gf rfl hw_1 rfl rfl ?_
  show Zr sc 87 5 [zp a0, zj x1, zj x2] [zp f1_3, zp a0] w ov w' c s
  refine Zr_st (q := (6, [zp a0, zj x1, zj x2], [zp a0, zp f1_3, zp a0])) rfl rfl rfl ?_
  show Zr sc 87 6 [zp a0, zj x1, zj x2] [zp a0, zp f1_3, zp a0] w ov w' c s
  refine rl_gf rfl hw_1 rfl rfl ?_
  show Zr sc 87 9 [zp a0, zj x1, zj x2] [zp f1_3, zp f1_3, zp a0] w ov w' c s
  refine Zr_st (q := (10, [zp a0, zj x1, zj x2], [zj x1, zp f1_3, zp f1_3, zp a0])) rfl rfl rfl ?_
  show Zr sc 87 10 [zp a0, zj x1, zj x2] [zj x1, zp f1_3, zp f1_3, zp a0] w ov w' c s
  obtain ⟨f0_17, f1_18, f2_19, hw_16, h⟩ := h
  obtain ⟨r_22, w_20, hk_21, h⟩ := h
  refine rn_cal0 (ins := .invokevirtual 42) (rest := [zp f1_3, zp a0]) rfl rfl rfl rfl (zinv_v (fs := _) hw_16 rfl rfl rfl rfl) rfl rfl hk_21 ?_
  show Zr sc 87 13 [zp a0, zj x1, zj x2] [zj r_22, zp f1_3, zp a0] w_20 ov w' c s
  obtain ⟨f0_24, f1_25, f2_26, hw_23, h⟩ := h
  obtain ⟨r_29, w_27, hk_28, h⟩ := h
  refine rn_cal0 (ins := .invokevirtual 46) (rest := [zp a0]) rfl rfl rfl rfl (zinv_v (fs := _) hw_23 rfl rfl rfl rfl) rfl rfl hk_28 ?_
  show Zr sc 87 16 [zp a0, zj x1, zj x2] [zj r_29, zp a0] w_27 ov w' c s
  refine Zr_st (q := (17, [zp a0, zj x1, zj x2], [zj x2, zj r_29, zp a0])) rfl rfl rfl ?_
  show Zr sc 87 17 [zp a0, zj x1, zj x2] [zj x2, zj r_29, zp a0] w_27 ov w' c s
  obtain ⟨f0_31, f1_32, f2_33, f3_34, f4_35, f5_36, f6_37, f7_38, f8_39, f9_40, f10_41, f11_42, f12_43, f13_44, hw_30, h⟩ := h
  obtain ⟨r_47, w_45, hk_46, h⟩ := h
  refine rn_cal0 (ins := .invokevirtual 49) (rest := []) rfl rfl rfl rfl (zinv_v (fs := _) hw_30 rfl rfl rfl rfl) rfl rfl hk_46 ?_
  show Zr sc 87 20 [zp a0, zj x1, zj x2] [zj r_47] w_45 ov w' c s
  obtain ⟨h1, h2, h3, h4⟩ := h
  subst h1; subst h2; subst h3; subst h4
  exact Zr_ret (ins := .ireturn) rfl rfl

-- HeapwrightLab$Memory.resettle(II)V
set_option maxRecDepth 100000 in
theorem V88_0_1 {sc : List Value} {w w' : List zE} {ov : Option Value} {c s : Nat} {a0 : Nat} {x1 : Int} {x2 : Int} (h : (∃ f0_2 : Nat, ∃ f1_3 : Nat, ∃ f2_4 : Int, ∃ f3_5 : Int, ∃ f4_6 : Int, ∃ f5_7 : Int, ∃ f6_8 : Int, ∃ f7_9 : Nat, ∃ f8_10 : Nat, ∃ f9_11 : Int, ∃ f10_12 : Int, ∃ f11_13 : Int, ∃ f12_14 : Int, w[a0]? = some (zob 1 [zp f0_2, zp f1_3, zj f2_4, zj f3_5, zj f4_6, zj f5_7, zj f6_8, zp f7_9, zp f8_10, zj f9_11, zj f10_12, zj f11_13, zj f12_14]) ∧ (∃ f0_16 : Nat, ∃ f1_17 : Nat, ∃ f2_18 : Nat, ∃ f3_19 : Nat, ∃ f4_20 : Int, ∃ f5_21 : Int, w[f0_2]? = some (zob 0 [zp f0_16, zp f1_17, zp f2_18, zp f3_19, zj f4_20, zj f5_21]) ∧ (∃ r_24 : Int, ∃ w_22 : List zE, Zc sc 7 [zp f0_2, zj x1] w (some (zj r_24)) w_22 0 0 ∧ ((zrg r_24) ∧ ((r_24 ≠ 0 → (∃ f0_27 : Nat, ∃ f1_28 : Nat, ∃ f2_29 : Int, ∃ f3_30 : Int, ∃ f4_31 : Int, ∃ f5_32 : Int, ∃ f6_33 : Int, ∃ f7_34 : Nat, ∃ f8_35 : Nat, ∃ f9_36 : Int, ∃ f10_37 : Int, ∃ f11_38 : Int, ∃ f12_39 : Int, w_22[a0]? = some (zob 1 [zp f0_27, zp f1_28, zj f2_29, zj f3_30, zj f4_31, zj f5_32, zj f6_33, zp f7_34, zp f8_35, zj f9_36, zj f10_37, zj f11_38, zj f12_39]) ∧ (∃ r_42 : Int, ∃ w_40 : List zE, Zc sc 39 [zp a0, zj x2] w_22 (some (zj r_42)) w_40 0 0 ∧ (∃ f0_44 : Nat, ∃ f1_45 : Nat, ∃ f2_46 : Int, ∃ f3_47 : Int, ∃ f4_48 : Int, ∃ f5_49 : Int, ∃ f6_50 : Int, ∃ f7_51 : Nat, ∃ f8_52 : Nat, ∃ f9_53 : Int, ∃ f10_54 : Int, ∃ f11_55 : Int, ∃ f12_56 : Int, w_40[a0]? = some (zob 1 [zp f0_44, zp f1_45, zj f2_46, zj f3_47, zj f4_48, zj f5_49, zj f6_50, zp f7_51, zp f8_52, zj f9_53, zj f10_54, zj f11_55, zj f12_56]) ∧ (∃ f0_58 : Nat, ∃ f1_59 : Nat, ∃ f2_60 : Nat, ∃ f3_61 : Nat, ∃ f4_62 : Int, ∃ f5_63 : Int, w_40[f0_44]? = some (zob 0 [zp f0_58, zp f1_59, zp f2_60, zp f3_61, zj f4_62, zj f5_63]) ∧ (∃ r_66 : Int, ∃ w_64 : List zE, Zc sc 13 [zp f0_44, zj x1] w_40 (some (zj r_66)) w_64 0 0 ∧ ((zrg r_42 ∧ zrg r_66) ∧ ((r_42 = r_66 → (∃ f0_69 : Nat, ∃ f1_70 : Nat, ∃ f2_71 : Int, ∃ f3_72 : Int, ∃ f4_73 : Int, ∃ f5_74 : Int, ∃ f6_75 : Int, ∃ f7_76 : Nat, ∃ f8_77 : Nat, ∃ f9_78 : Int, ∃ f10_79 : Int, ∃ f11_80 : Int, ∃ f12_81 : Int, w_64[a0]? = some (zob 1 [zp f0_69, zp f1_70, zj f2_71, zj f3_72, zj f4_73, zj f5_74, zj f6_75, zp f7_76, zp f8_77, zj f9_78, zj f10_79, zj f11_80, zj f12_81]) ∧ (∃ f0_83 : Nat, ∃ f1_84 : Nat, ∃ f2_85 : Nat, ∃ f3_86 : Nat, ∃ f4_87 : Int, ∃ f5_88 : Int, w_64[f0_69]? = some (zob 0 [zp f0_83, zp f1_84, zp f2_85, zp f3_86, zj f4_87, zj f5_88]) ∧ (∃ w_89 : List zE, Zc sc 92 [zp f0_69, zj x1, zj x2] w_64 none w_89 0 0 ∧ (ov = none ∧ w' = w_89 ∧ c = 0 ∧ s = 0))))) ∧ (¬ (r_42 = r_66) → (∃ f0_92 : Nat, ∃ f1_93 : Nat, ∃ f2_94 : Int, ∃ f3_95 : Int, ∃ f4_96 : Int, ∃ f5_97 : Int, ∃ f6_98 : Int, ∃ f7_99 : Nat, ∃ f8_100 : Nat, ∃ f9_101 : Int, ∃ f10_102 : Int, ∃ f11_103 : Int, ∃ f12_104 : Int, w_64[a0]? = some (zob 1 [zp f0_92, zp f1_93, zj f2_94, zj f3_95, zj f4_96, zj f5_97, zj f6_98, zp f7_99, zp f8_100, zj f9_101, zj f10_102, zj f11_103, zj f12_104]) ∧ (∃ r_107 : Int, ∃ w_105 : List zE, Zc sc 91 [zp a0, zj x1, zj r_42] w_64 (some (zj r_107)) w_105 0 0 ∧ ((zrg r_107) ∧ ((r_107 = 0 → (∃ f0_110 : Nat, ∃ f1_111 : Nat, ∃ f2_112 : Int, ∃ f3_113 : Int, ∃ f4_114 : Int, ∃ f5_115 : Int, ∃ f6_116 : Int, ∃ f7_117 : Nat, ∃ f8_118 : Nat, ∃ f9_119 : Int, ∃ f10_120 : Int, ∃ f11_121 : Int, ∃ f12_122 : Int, w_105[a0]? = some (zob 1 [zp f0_110, zp f1_111, zj f2_112, zj f3_113, zj f4_114, zj f5_115, zj f6_116, zp f7_117, zp f8_118, zj f9_119, zj f10_120, zj f11_121, zj f12_122]) ∧ (∃ f0_124 : Nat, ∃ f1_125 : Nat, ∃ f2_126 : Nat, ∃ f3_127 : Nat, ∃ f4_128 : Int, ∃ f5_129 : Int, w_105[f0_110]? = some (zob 0 [zp f0_124, zp f1_125, zp f2_126, zp f3_127, zj f4_128, zj f5_129]) ∧ (∃ r_132 : Int, ∃ w_130 : List zE, Zc sc 11 [zp f0_110, zj x1] w_105 (some (zj r_132)) w_130 0 0 ∧ ((zrg x2 ∧ zrg r_132) ∧ (∃ f0_135 : Nat, ∃ f1_136 : Nat, ∃ f2_137 : Int, ∃ f3_138 : Int, ∃ f4_139 : Int, ∃ f5_140 : Int, ∃ f6_141 : Int, ∃ f7_142 : Nat, ∃ f8_143 : Nat, ∃ f9_144 : Int, ∃ f10_145 : Int, ∃ f11_146 : Int, ∃ f12_147 : Int, w_130[a0]? = some (zob 1 [zp f0_135, zp f1_136, zj f2_137, zj f3_138, zj f4_139, zj f5_140, zj f6_141, zp f7_142, zp f8_143, zj f9_144, zj f10_145, zj f11_146, zj f12_147]) ∧ (∃ r_150 : Int, ∃ w_148 : List zE, Zc sc 63 [zp a0, zj 80, zj x2, zj r_42] w_130 (some (zj r_150)) w_148 0 0 ∧ ((zrg r_150) ∧ ((r_150 = 0 → (ov = none ∧ w' = w_148 ∧ c = 0 ∧ s = 0)) ∧ (¬ (r_150 = 0) → (∃ f0_153 : Nat, ∃ f1_154 : Nat, ∃ f2_155 : Int, ∃ f3_156 : Int, ∃ f4_157 : Int, ∃ f5_158 : Int, ∃ f6_159 : Int, ∃ f7_160 : Nat, ∃ f8_161 : Nat, ∃ f9_162 : Int, ∃ f10_163 : Int, ∃ f11_164 : Int, ∃ f12_165 : Int, w_148[a0]? = some (zob 1 [zp f0_153, zp f1_154, zj f2_155, zj f3_156, zj f4_157, zj f5_158, zj f6_159, zp f7_160, zp f8_161, zj f9_162, zj f10_163, zj f11_164, zj f12_165]) ∧ (∃ w_166 : List zE, Zc sc 83 [zp a0, zj x1] w_148 none w_166 0 0 ∧ (∃ f0_169 : Nat, ∃ f1_170 : Nat, ∃ f2_171 : Int, ∃ f3_172 : Int, ∃ f4_173 : Int, ∃ f5_174 : Int, ∃ f6_175 : Int, ∃ f7_176 : Nat, ∃ f8_177 : Nat, ∃ f9_178 : Int, ∃ f10_179 : Int, ∃ f11_180 : Int, ∃ f12_181 : Int, w_166[a0]? = some (zob 1 [zp f0_169, zp f1_170, zj f2_171, zj f3_172, zj f4_173, zj f5_174, zj f6_175, zp f7_176, zp f8_177, zj f9_178, zj f10_179, zj f11_180, zj f12_181]) ∧ (∃ f0_183 : Nat, ∃ f1_184 : Nat, ∃ f2_185 : Nat, ∃ f3_186 : Nat, ∃ f4_187 : Int, ∃ f5_188 : Int, w_166[f0_169]? = some (zob 0 [zp f0_183, zp f1_184, zp f2_185, zp f3_186, zj f4_187, zj f5_188]) ∧ (∃ w_189 : List zE, Zc sc 93 [zp f0_169, zj 80, zj x1] w_166 none w_189 0 0 ∧ (∃ f0_192 : Nat, ∃ f1_193 : Nat, ∃ f2_194 : Int, ∃ f3_195 : Int, ∃ f4_196 : Int, ∃ f5_197 : Int, ∃ f6_198 : Int, ∃ f7_199 : Nat, ∃ f8_200 : Nat, ∃ f9_201 : Int, ∃ f10_202 : Int, ∃ f11_203 : Int, ∃ f12_204 : Int, w_189[a0]? = some (zob 1 [zp f0_192, zp f1_193, zj f2_194, zj f3_195, zj f4_196, zj f5_197, zj f6_198, zp f7_199, zp f8_200, zj f9_201, zj f10_202, zj f11_203, zj f12_204]) ∧ (∃ w_205 : List zE, Zc sc 64 [zp a0, zj 3, zj (min x2 r_132)] w_189 none w_205 0 0 ∧ (ov = none ∧ w' = w_205 ∧ c = 0 ∧ s = 0)))))))))))))))))) ∧ (¬ (r_107 = 0) → (∃ f0_208 : Nat, ∃ f1_209 : Nat, ∃ f2_210 : Int, ∃ f3_211 : Int, ∃ f4_212 : Int, ∃ f5_213 : Int, ∃ f6_214 : Int, ∃ f7_215 : Nat, ∃ f8_216 : Nat, ∃ f9_217 : Int, ∃ f10_218 : Int, ∃ f11_219 : Int, ∃ f12_220 : Int, w_105[a0]? = some (zob 1 [zp f0_208, zp f1_209, zj f2_210, zj f3_211, zj f4_212, zj f5_213, zj f6_214, zp f7_215, zp f8_216, zj f9_217, zj f10_218, zj f11_219, zj f12_220]) ∧ (∃ f0_222 : Nat, ∃ f1_223 : Nat, ∃ f2_224 : Nat, ∃ f3_225 : Nat, ∃ f4_226 : Int, ∃ f5_227 : Int, w_105[f0_208]? = some (zob 0 [zp f0_222, zp f1_223, zp f2_224, zp f3_225, zj f4_226, zj f5_227]) ∧ (∃ w_228 : List zE, Zc sc 92 [zp f0_208, zj x1, zj x2] w_105 none w_228 0 0 ∧ (ov = none ∧ w' = w_228 ∧ c = 0 ∧ s = 0)))))))))))))))))) ∧ (¬ (r_24 ≠ 0) → (ov = none ∧ w' = w_22 ∧ c = 0 ∧ s = 0)))))))) : Zr sc 88 0 [zp a0, zj x1, zj x2, zmk, zmk] [] w ov w' c s := by
  refine Zr_st (q := (1, [zp a0, zj x1, zj x2, zmk, zmk], [zp a0])) rfl rfl rfl ?_
  show Zr sc 88 1 [zp a0, zj x1, zj x2, zmk, zmk] [zp a0] w ov w' c s
  obtain ⟨f0_2, f1_3, f2_4, f3_5, f4_6, f5_7, f6_8, f7_9, f8_10, f9_11, f10_12, f11_13, f12_14, hw_1, h⟩ := h
  refine rl_gf rfl hw_1 rfl rfl ?_
  show Zr sc 88 4 [zp a0, zj x1, zj x2, zmk, zmk] [zp f0_2] w ov w' c s
  refine Zr_st (q := (5, [zp a0, zj x1, zj x2, zmk, zmk], [zj x1, zp f0_2])) rfl rfl rfl ?_
  show Zr sc 88 5 [zp a0, zj x1, zj x2, zmk, zmk] [zj x1, zp f0_2] w ov w' c s
  obtain ⟨f0_16, f1_17, f2_18, f3_19, f4_20, f5_21, hw_15, h⟩ := h
  obtain ⟨r_24, w_22, hk_23, h⟩ := h
  refine rn_cal0 (ins := .invokevirtual 175) (rest := []) rfl rfl rfl rfl (zinv_v (fs := _) hw_15 rfl rfl rfl rfl) rfl rfl hk_23 ?_
  show Zr sc 88 8 [zp a0, zj x1, zj x2, zmk, zmk] [zj r_24] w_22 ov w' c s
  obtain ⟨hr_25, h⟩ := h
  refine Zr_b0 (p := r_24 ≠ 0) rfl rfl (zcmp_0 (cnd := .ne) hr_25) (fun hp => ?_) (fun hp => ?_)
  · replace h := h.1 hp
    show Zr sc 88 12 [zp a0, zj x1, zj x2, zmk, zmk] [] w_22 ov w' c s
    refine Zr_st (q := (13, [zp a0, zj x1, zj x2, zmk, zmk], [zp a0])) rfl rfl rfl ?_
    show Zr sc 88 13 [zp a0, zj x1, zj x2, zmk, zmk] [zp a0] w_22 ov w' c s
    refine Zr_st (q := (14, [zp a0, zj x1, zj x2, zmk, zmk], [zj x2, zp a0])) rfl rfl rfl ?_
    show Zr sc 88 14 [zp a0, zj x1, zj x2, zmk, zmk] [zj x2, zp a0] w_22 ov w' c s
    obtain ⟨f0_27, f1_28, f2_29, f3_30, f4_31, f5_32, f6_33, f7_34, f8_35, f9_36, f10_37, f11_38, f12_39, hw_26, h⟩ := h
    obtain ⟨r_42, w_40, hk_41, h⟩ := h
    refine rn_cal0 (ins := .invokevirtual 124) (rest := []) rfl rfl rfl rfl (zinv_v (fs := _) hw_26 rfl rfl rfl rfl) rfl rfl hk_41 ?_
    show Zr sc 88 17 [zp a0, zj x1, zj x2, zmk, zmk] [zj r_42] w_40 ov w' c s
    refine Zr_st (q := (18, [zp a0, zj x1, zj x2, zj r_42, zmk], [])) rfl rfl rfl ?_
    show Zr sc 88 18 [zp a0, zj x1, zj x2, zj r_42, zmk] [] w_40 ov w' c s
    refine Zr_st (q := (19, [zp a0, zj x1, zj x2, zj r_42, zmk], [zj r_42])) rfl rfl rfl ?_
    show Zr sc 88 19 [zp a0, zj x1, zj x2, zj r_42, zmk] [zj r_42] w_40 ov w' c s
    refine Zr_st (q := (20, [zp a0, zj x1, zj x2, zj r_42, zmk], [zp a0, zj r_42])) rfl rfl rfl ?_
    show Zr sc 88 20 [zp a0, zj x1, zj x2, zj r_42, zmk] [zp a0, zj r_42] w_40 ov w' c s
    obtain ⟨f0_44, f1_45, f2_46, f3_47, f4_48, f5_49, f6_50, f7_51, f8_52, f9_53, f10_54, f11_55, f12_56, hw_43, h⟩ := h
    refine rl_gf rfl hw_43 rfl rfl ?_
    show Zr sc 88 23 [zp a0, zj x1, zj x2, zj r_42, zmk] [zp f0_44, zj r_42] w_40 ov w' c s
    refine Zr_st (q := (24, [zp a0, zj x1, zj x2, zj r_42, zmk], [zj x1, zp f0_44, zj r_42])) rfl rfl rfl ?_
    show Zr sc 88 24 [zp a0, zj x1, zj x2, zj r_42, zmk] [zj x1, zp f0_44, zj r_42] w_40 ov w' c s
    obtain ⟨f0_58, f1_59, f2_60, f3_61, f4_62, f5_63, hw_57, h⟩ := h
    obtain ⟨r_66, w_64, hk_65, h⟩ := h
    refine rn_cal0 (ins := .invokevirtual 138) (rest := [zj r_42]) rfl rfl rfl rfl (zinv_v (fs := _) hw_57 rfl rfl rfl rfl) rfl rfl hk_65 ?_
    show Zr sc 88 27 [zp a0, zj x1, zj x2, zj r_42, zmk] [zj r_66, zj r_42] w_64 ov w' c s
    obtain ⟨hr_67, h⟩ := h
    refine Zr_br (p := r_42 = r_66) rfl rfl (zcmp_j (cnd := .eq) hr_67.1 hr_67.2) (fun hp => ?_) (fun hp => ?_)
    · replace h := h.1 hp
      show Zr sc 88 39 [zp a0, zj x1, zj x2, zj r_42, zmk] [] w_64 ov w' c s
      refine Zr_st (q := (40, [zp a0, zj x1, zj x2, zj r_42, zmk], [zp a0])) rfl rfl rfl ?_
      show Zr sc 88 40 [zp a0, zj x1, zj x2, zj r_42, zmk] [zp a0] w_64 ov w' c s
      obtain ⟨f0_69, f1_70, f2_71, f3_72, f4_73, f5_74, f6_75, f7_76, f8_77, f9_78, f10_79, f11_80, f12_81, hw_68, h⟩ := h
      refine rl_gf rfl hw_68 rfl rfl ?_
      show Zr sc 88 43 [zp a0, zj x1, zj x2, zj r_42, zmk] [zp f0_69] w_64 ov w' c s
      refine Zr_st (q := (44, [zp a0, zj x1, zj x2, zj r_42, zmk], [zj x1, zp f0_69])) rfl rfl rfl ?_
      show Zr sc 88 44 [zp a0, zj x1, zj x2, zj r_42, zmk] [zj x1, zp f0_69] w_64 ov w' c s
      refine Zr_st (q := (45, [zp a0, zj x1, zj x2, zj r_42, zmk], [zj x2, zj x1, zp f0_69])) rfl rfl rfl ?_
      show Zr sc 88 45 [zp a0, zj x1, zj x2, zj r_42, zmk] [zj x2, zj x1, zp f0_69] w_64 ov w' c s
      obtain ⟨f0_83, f1_84, f2_85, f3_86, f4_87, f5_88, hw_82, h⟩ := h
      obtain ⟨w_89, hk_90, h⟩ := h
      refine rn_cal0 (ins := .invokevirtual 186) (rest := []) rfl rfl rfl rfl (zinv_v (fs := _) hw_82 rfl rfl rfl rfl) rfl rfl hk_90 ?_
      show Zr sc 88 48 [zp a0, zj x1, zj x2, zj r_42, zmk] [] w_89 ov w' c s
      obtain ⟨h1, h2, h3, h4⟩ := h
      subst h1; subst h2; subst h3; subst h4
      exact Zr_ret (ins := .return_) rfl rfl
    · replace h := h.2 hp
      show Zr sc 88 30 [zp a0, zj x1, zj x2, zj r_42, zmk] [] w_64 ov w' c s
      refine Zr_st (q := (31, [zp a0, zj x1, zj x2, zj r_42, zmk], [zp a0])) rfl rfl rfl ?_
      show Zr sc 88 31 [zp a0, zj x1, zj x2, zj r_42, zmk] [zp a0] w_64 ov w' c s
      refine Zr_st (q := (32, [zp a0, zj x1, zj x2, zj r_42, zmk], [zj x1, zp a0])) rfl rfl rfl ?_
      show Zr sc 88 32 [zp a0, zj x1, zj x2, zj r_42, zmk] [zj x1, zp a0] w_64 ov w' c s
      refine Zr_st (q := (33, [zp a0, zj x1, zj x2, zj r_42, zmk], [zj r_42, zj x1, zp a0])) rfl rfl rfl ?_
      show Zr sc 88 33 [zp a0, zj x1, zj x2, zj r_42, zmk] [zj r_42, zj x1, zp a0] w_64 ov w' c s
      obtain ⟨f0_92, f1_93, f2_94, f3_95, f4_96, f5_97, f6_98, f7_99, f8_100, f9_101, f10_102, f11_103, f12_104, hw_91, h⟩ := h
      obtain ⟨r_107, w_105, hk_106, h⟩ := h
      refine rn_cal0 (ins := .invokevirtual 182) (rest := []) rfl rfl rfl rfl (zinv_v (fs := _) hw_91 rfl rfl rfl rfl) rfl rfl hk_106 ?_
      show Zr sc 88 36 [zp a0, zj x1, zj x2, zj r_42, zmk] [zj r_107] w_105 ov w' c s
      obtain ⟨hr_108, h⟩ := h
      refine Zr_b0 (p := r_107 = 0) rfl rfl (zcmp_0 (cnd := .eq) hr_108) (fun hp => ?_) (fun hp => ?_)
      · replace h := h.1 hp
        show Zr sc 88 49 [zp a0, zj x1, zj x2, zj r_42, zmk] [] w_105 ov w' c s
        refine Zr_st (q := (50, [zp a0, zj x1, zj x2, zj r_42, zmk], [zj x2])) rfl rfl rfl ?_
        show Zr sc 88 50 [zp a0, zj x1, zj x2, zj r_42, zmk] [zj x2] w_105 ov w' c s
        refine Zr_st (q := (51, [zp a0, zj x1, zj x2, zj r_42, zmk], [zp a0, zj x2])) rfl rfl rfl ?_
        show Zr sc 88 51 [zp a0, zj x1, zj x2, zj r_42, zmk] [zp a0, zj x2] w_105 ov w' c s
        obtain ⟨f0_110, f1_111, f2_112, f3_113, f4_114, f5_115, f6_116, f7_117, f8_118, f9_119, f10_120, f11_121, f12_122, hw_109, h⟩ := h
        refine rl_gf rfl hw_109 rfl rfl ?_
        show Zr sc 88 54 [zp a0, zj x1, zj x2, zj r_42, zmk] [zp f0_110, zj x2] w_105 ov w' c s
        refine Zr_st (q := (55, [zp a0, zj x1, zj x2, zj r_42, zmk], [zj x1, zp f0_110, zj x2])) rfl rfl rfl ?_
        show Zr sc 88 55 [zp a0, zj x1, zj x2, zj r_42, zmk] [zj x1, zp f0_110, zj x2] w_105 ov w' c s
        obtain ⟨f0_124, f1_125, f2_126, f3_127, f4_128, f5_129, hw_123, h⟩ := h
        obtain ⟨r_132, w_130, hk_131, h⟩ := h
        refine rn_cal0 (ins := .invokevirtual 137) (rest := [zj x2]) rfl rfl rfl rfl (zinv_v (fs := _) hw_123 rfl rfl rfl rfl) rfl rfl hk_131 ?_
        show Zr sc 88 58 [zp a0, zj x1, zj x2, zj r_42, zmk] [zj r_132, zj x2] w_130 ov w' c s
        obtain ⟨hm_133, h⟩ := h
        refine Zr_mx (b := false) (ins := .invokestatic 189) (rest := []) rfl rfl rfl rfl (zinv_t2 (rest := []) rfl rfl rfl rfl rfl) rfl (zmx_j hm_133.1 hm_133.2) ?_
        show Zr sc 88 61 [zp a0, zj x1, zj x2, zj r_42, zmk] [zj (min x2 r_132)] w_130 ov w' c s
        refine Zr_st (q := (63, [zp a0, zj x1, zj x2, zj r_42, zj (min x2 r_132)], [])) rfl rfl rfl ?_
        show Zr sc 88 63 [zp a0, zj x1, zj x2, zj r_42, zj (min x2 r_132)] [] w_130 ov w' c s
        refine Zr_st (q := (64, [zp a0, zj x1, zj x2, zj r_42, zj (min x2 r_132)], [zp a0])) rfl rfl rfl ?_
        show Zr sc 88 64 [zp a0, zj x1, zj x2, zj r_42, zj (min x2 r_132)] [zp a0] w_130 ov w' c s
        refine rl_bi rfl (by decide) ?_
        show Zr sc 88 66 [zp a0, zj x1, zj x2, zj r_42, zj (min x2 r_132)] [zj 80, zp a0] w_130 ov w' c s
        refine Zr_st (q := (67, [zp a0, zj x1, zj x2, zj r_42, zj (min x2 r_132)], [zj x2, zj 80, zp a0])) rfl rfl rfl ?_
        show Zr sc 88 67 [zp a0, zj x1, zj x2, zj r_42, zj (min x2 r_132)] [zj x2, zj 80, zp a0] w_130 ov w' c s
        refine Zr_st (q := (68, [zp a0, zj x1, zj x2, zj r_42, zj (min x2 r_132)], [zj r_42, zj x2, zj 80, zp a0])) rfl rfl rfl ?_
        show Zr sc 88 68 [zp a0, zj x1, zj x2, zj r_42, zj (min x2 r_132)] [zj r_42, zj x2, zj 80, zp a0] w_130 ov w' c s
        obtain ⟨f0_135, f1_136, f2_137, f3_138, f4_139, f5_140, f6_141, f7_142, f8_143, f9_144, f10_145, f11_146, f12_147, hw_134, h⟩ := h
        obtain ⟨r_150, w_148, hk_149, h⟩ := h
        refine rn_cal0 (ins := .invokevirtual 162) (rest := []) rfl rfl rfl rfl (zinv_v (fs := _) hw_134 rfl rfl rfl rfl) rfl rfl hk_149 ?_
        show Zr sc 88 71 [zp a0, zj x1, zj x2, zj r_42, zj (min x2 r_132)] [zj r_150] w_148 ov w' c s
        obtain ⟨hr_151, h⟩ := h
        refine Zr_b0 (p := r_150 = 0) rfl rfl (zcmp_0 (cnd := .eq) hr_151) (fun hp => ?_) (fun hp => ?_)
        · replace h := h.1 hp
          show Zr sc 88 96 [zp a0, zj x1, zj x2, zj r_42, zj (min x2 r_132)] [] w_148 ov w' c s
          obtain ⟨h1, h2, h3, h4⟩ := h
          subst h1; subst h2; subst h3; subst h4
          exact Zr_ret (ins := .return_) rfl rfl
        · replace h := h.2 hp
          show Zr sc 88 74 [zp a0, zj x1, zj x2, zj r_42, zj (min x2 r_132)] [] w_148 ov w' c s
          refine Zr_st (q := (75, [zp a0, zj x1, zj x2, zj r_42, zj (min x2 r_132)], [zp a0])) rfl rfl rfl ?_
          show Zr sc 88 75 [zp a0, zj x1, zj x2, zj r_42, zj (min x2 r_132)] [zp a0] w_148 ov w' c s
          refine Zr_st (q := (76, [zp a0, zj x1, zj x2, zj r_42, zj (min x2 r_132)], [zj x1, zp a0])) rfl rfl rfl ?_
          show Zr sc 88 76 [zp a0, zj x1, zj x2, zj r_42, zj (min x2 r_132)] [zj x1, zp a0] w_148 ov w' c s
          obtain ⟨f0_153, f1_154, f2_155, f3_156, f4_157, f5_158, f6_159, f7_160, f8_161, f9_162, f10_163, f11_164, f12_165, hw_152, h⟩ := h
          obtain ⟨w_166, hk_167, h⟩ := h
          refine rn_cal0 (ins := .invokevirtual 97) (rest := []) rfl rfl rfl rfl (zinv_v (fs := _) hw_152 rfl rfl rfl rfl) rfl rfl hk_167 ?_
          show Zr sc 88 79 [zp a0, zj x1, zj x2, zj r_42, zj (min x2 r_132)] [] w_166 ov w' c s
          refine Zr_st (q := (80, [zp a0, zj x1, zj x2, zj r_42, zj (min x2 r_132)], [zp a0])) rfl rfl rfl ?_
          show Zr sc 88 80 [zp a0, zj x1, zj x2, zj r_42, zj (min x2 r_132)] [zp a0] w_166 ov w' c s
          obtain ⟨f0_169, f1_170, f2_171, f3_172, f4_173, f5_174, f6_175, f7_176, f8_177, f9_178, f10_179, f11_180, f12_181, hw_168, h⟩ := h
          refine rl_gf rfl hw_168 rfl rfl ?_
          show Zr sc 88 83 [zp a0, zj x1, zj x2, zj r_42, zj (min x2 r_132)] [zp f0_169] w_166 ov w' c s
          refine rl_bi rfl (by decide) ?_
          show Zr sc 88 85 [zp a0, zj x1, zj x2, zj r_42, zj (min x2 r_132)] [zj 80, zp f0_169] w_166 ov w' c s
          refine Zr_st (q := (86, [zp a0, zj x1, zj x2, zj r_42, zj (min x2 r_132)], [zj x1, zj 80, zp f0_169])) rfl rfl rfl ?_
          show Zr sc 88 86 [zp a0, zj x1, zj x2, zj r_42, zj (min x2 r_132)] [zj x1, zj 80, zp f0_169] w_166 ov w' c s
          obtain ⟨f0_183, f1_184, f2_185, f3_186, f4_187, f5_188, hw_182, h⟩ := h
          obtain ⟨w_189, hk_190, h⟩ := h
          refine rn_cal0 (ins := .invokevirtual 192) (rest := []) rfl rfl rfl rfl (zinv_v (fs := _) hw_182 rfl rfl rfl rfl) rfl rfl hk_190 ?_
          show Zr sc 88 89 [zp a0, zj x1, zj x2, zj r_42, zj (min x2 r_132)] [] w_189 ov w' c s
          refine Zr_st (q := (90, [zp a0, zj x1, zj x2, zj r_42, zj (min x2 r_132)], [zp a0])) rfl rfl rfl ?_
          show Zr sc 88 90 [zp a0, zj x1, zj x2, zj r_42, zj (min x2 r_132)] [zp a0] w_189 ov w' c s
          refine rl_ic rfl ?_
          show Zr sc 88 91 [zp a0, zj x1, zj x2, zj r_42, zj (min x2 r_132)] [zj 3, zp a0] w_189 ov w' c s
          refine Zr_st (q := (93, [zp a0, zj x1, zj x2, zj r_42, zj (min x2 r_132)], [zj (min x2 r_132), zj 3, zp a0])) rfl rfl rfl ?_
          show Zr sc 88 93 [zp a0, zj x1, zj x2, zj r_42, zj (min x2 r_132)] [zj (min x2 r_132), zj 3, zp a0] w_189 ov w' c s
          obtain ⟨f0_192, f1_193, f2_194, f3_195, f4_196, f5_197, f6_198, f7_199, f8_200, f9_201, f10_202, f11_203, f12_204, hw_191, h⟩ := h
          obtain ⟨w_205, hk_206, h⟩ := h
          refine rn_cal0 (ins := .invokevirtual 169) (rest := []) rfl rfl rfl rfl (zinv_v (fs := _) hw_191 rfl rfl rfl rfl) rfl rfl hk_206 ?_
          show Zr sc 88 96 [zp a0, zj x1, zj x2, zj r_42, zj (min x2 r_132)] [] w_205 ov w' c s
          obtain ⟨h1, h2, h3, h4⟩ := h
          subst h1; subst h2; subst h3; subst h4
          exact Zr_ret (ins := .return_) rfl rfl
      · replace h := h.2 hp
        show Zr sc 88 39 [zp a0, zj x1, zj x2, zj r_42, zmk] [] w_105 ov w' c s
        refine Zr_st (q := (40, [zp a0, zj x1, zj x2, zj r_42, zmk], [zp a0])) rfl rfl rfl ?_
        show Zr sc 88 40 [zp a0, zj x1, zj x2, zj r_42, zmk] [zp a0] w_105 ov w' c s
        obtain ⟨f0_208, f1_209, f2_210, f3_211, f4_212, f5_213, f6_214, f7_215, f8_216, f9_217, f10_218, f11_219, f12_220, hw_207, h⟩ := h
        refine rl_gf rfl hw_207 rfl rfl ?_
        show Zr sc 88 43 [zp a0, zj x1, zj x2, zj r_42, zmk] [zp f0_208] w_105 ov w' c s
        refine Zr_st (q := (44, [zp a0, zj x1, zj x2, zj r_42, zmk], [zj x1, zp f0_208])) rfl rfl rfl ?_
        show Zr sc 88 44 [zp a0, zj x1, zj x2, zj r_42, zmk] [zj x1, zp f0_208] w_105 ov w' c s
        refine Zr_st (q := (45, [zp a0, zj x1, zj x2, zj r_42, zmk], [zj x2, zj x1, zp f0_208])) rfl rfl rfl ?_
        show Zr sc 88 45 [zp a0, zj x1, zj x2, zj r_42, zmk] [zj x2, zj x1, zp f0_208] w_105 ov w' c s
        obtain ⟨f0_222, f1_223, f2_224, f3_225, f4_226, f5_227, hw_221, h⟩ := h
        obtain ⟨w_228, hk_229, h⟩ := h
        refine rn_cal0 (ins := .invokevirtual 186) (rest := []) rfl rfl rfl rfl (zinv_v (fs := _) hw_221 rfl rfl rfl rfl) rfl rfl hk_229 ?_
        show Zr sc 88 48 [zp a0, zj x1, zj x2, zj r_42, zmk] [] w_228 ov w' c s
        obtain ⟨h1, h2, h3, h4⟩ := h
        subst h1; subst h2; subst h3; subst h4
        exact Zr_ret (ins := .return_) rfl rfl
  · replace h := h.2 hp
    show Zr sc 88 11 [zp a0, zj x1, zj x2, zmk, zmk] [] w_22 ov w' c s
    obtain ⟨h1, h2, h3, h4⟩ := h
    subst h1; subst h2; subst h3; subst h4
    exact Zr_ret (ins := .return_) rfl rfl

-- HeapwrightLab$Memory.resettle(II)V
set_option maxRecDepth 100000 in
theorem V88_0_2 {sc : List Value} {w w' : List zE} {ov : Option Value} {c s : Nat} {a0 : Nat} {x1 : Int} {x2 : Int} (h : (∃ f0_2 : Nat, ∃ f1_3 : Nat, ∃ f2_4 : Int, ∃ f3_5 : Int, ∃ f4_6 : Int, ∃ f5_7 : Int, ∃ f6_8 : Int, ∃ f7_9 : Nat, ∃ f8_10 : Nat, ∃ f9_11 : Int, ∃ f10_12 : Int, ∃ f11_13 : Int, ∃ f12_14 : Int, w[a0]? = some (zob 2 [zp f0_2, zp f1_3, zj f2_4, zj f3_5, zj f4_6, zj f5_7, zj f6_8, zp f7_9, zp f8_10, zj f9_11, zj f10_12, zj f11_13, zj f12_14]) ∧ (∃ f0_16 : Nat, ∃ f1_17 : Nat, ∃ f2_18 : Nat, ∃ f3_19 : Nat, ∃ f4_20 : Int, ∃ f5_21 : Int, w[f0_2]? = some (zob 0 [zp f0_16, zp f1_17, zp f2_18, zp f3_19, zj f4_20, zj f5_21]) ∧ (∃ r_24 : Int, ∃ w_22 : List zE, Zc sc 7 [zp f0_2, zj x1] w (some (zj r_24)) w_22 0 0 ∧ ((zrg r_24) ∧ ((r_24 ≠ 0 → (∃ f0_27 : Nat, ∃ f1_28 : Nat, ∃ f2_29 : Int, ∃ f3_30 : Int, ∃ f4_31 : Int, ∃ f5_32 : Int, ∃ f6_33 : Int, ∃ f7_34 : Nat, ∃ f8_35 : Nat, ∃ f9_36 : Int, ∃ f10_37 : Int, ∃ f11_38 : Int, ∃ f12_39 : Int, w_22[a0]? = some (zob 2 [zp f0_27, zp f1_28, zj f2_29, zj f3_30, zj f4_31, zj f5_32, zj f6_33, zp f7_34, zp f8_35, zj f9_36, zj f10_37, zj f11_38, zj f12_39]) ∧ (∃ r_42 : Int, ∃ w_40 : List zE, Zc sc 40 [zp a0, zj x2] w_22 (some (zj r_42)) w_40 0 0 ∧ (∃ f0_44 : Nat, ∃ f1_45 : Nat, ∃ f2_46 : Int, ∃ f3_47 : Int, ∃ f4_48 : Int, ∃ f5_49 : Int, ∃ f6_50 : Int, ∃ f7_51 : Nat, ∃ f8_52 : Nat, ∃ f9_53 : Int, ∃ f10_54 : Int, ∃ f11_55 : Int, ∃ f12_56 : Int, w_40[a0]? = some (zob 2 [zp f0_44, zp f1_45, zj f2_46, zj f3_47, zj f4_48, zj f5_49, zj f6_50, zp f7_51, zp f8_52, zj f9_53, zj f10_54, zj f11_55, zj f12_56]) ∧ (∃ f0_58 : Nat, ∃ f1_59 : Nat, ∃ f2_60 : Nat, ∃ f3_61 : Nat, ∃ f4_62 : Int, ∃ f5_63 : Int, w_40[f0_44]? = some (zob 0 [zp f0_58, zp f1_59, zp f2_60, zp f3_61, zj f4_62, zj f5_63]) ∧ (∃ r_66 : Int, ∃ w_64 : List zE, Zc sc 13 [zp f0_44, zj x1] w_40 (some (zj r_66)) w_64 0 0 ∧ ((zrg r_42 ∧ zrg r_66) ∧ ((r_42 = r_66 → (∃ f0_69 : Nat, ∃ f1_70 : Nat, ∃ f2_71 : Int, ∃ f3_72 : Int, ∃ f4_73 : Int, ∃ f5_74 : Int, ∃ f6_75 : Int, ∃ f7_76 : Nat, ∃ f8_77 : Nat, ∃ f9_78 : Int, ∃ f10_79 : Int, ∃ f11_80 : Int, ∃ f12_81 : Int, w_64[a0]? = some (zob 2 [zp f0_69, zp f1_70, zj f2_71, zj f3_72, zj f4_73, zj f5_74, zj f6_75, zp f7_76, zp f8_77, zj f9_78, zj f10_79, zj f11_80, zj f12_81]) ∧ (∃ f0_83 : Nat, ∃ f1_84 : Nat, ∃ f2_85 : Nat, ∃ f3_86 : Nat, ∃ f4_87 : Int, ∃ f5_88 : Int, w_64[f0_69]? = some (zob 0 [zp f0_83, zp f1_84, zp f2_85, zp f3_86, zj f4_87, zj f5_88]) ∧ (∃ w_89 : List zE, Zc sc 92 [zp f0_69, zj x1, zj x2] w_64 none w_89 0 0 ∧ (ov = none ∧ w' = w_89 ∧ c = 0 ∧ s = 0))))) ∧ (¬ (r_42 = r_66) → (∃ f0_92 : Nat, ∃ f1_93 : Nat, ∃ f2_94 : Int, ∃ f3_95 : Int, ∃ f4_96 : Int, ∃ f5_97 : Int, ∃ f6_98 : Int, ∃ f7_99 : Nat, ∃ f8_100 : Nat, ∃ f9_101 : Int, ∃ f10_102 : Int, ∃ f11_103 : Int, ∃ f12_104 : Int, w_64[a0]? = some (zob 2 [zp f0_92, zp f1_93, zj f2_94, zj f3_95, zj f4_96, zj f5_97, zj f6_98, zp f7_99, zp f8_100, zj f9_101, zj f10_102, zj f11_103, zj f12_104]) ∧ (∃ r_107 : Int, ∃ w_105 : List zE, Zc sc 89 [zp a0, zj x1, zj r_42] w_64 (some (zj r_107)) w_105 0 0 ∧ ((zrg r_107) ∧ ((r_107 = 0 → (∃ f0_110 : Nat, ∃ f1_111 : Nat, ∃ f2_112 : Int, ∃ f3_113 : Int, ∃ f4_114 : Int, ∃ f5_115 : Int, ∃ f6_116 : Int, ∃ f7_117 : Nat, ∃ f8_118 : Nat, ∃ f9_119 : Int, ∃ f10_120 : Int, ∃ f11_121 : Int, ∃ f12_122 : Int, w_105[a0]? = some (zob 2 [zp f0_110, zp f1_111, zj f2_112, zj f3_113, zj f4_114, zj f5_115, zj f6_116, zp f7_117, zp f8_118, zj f9_119, zj f10_120, zj f11_121, zj f12_122]) ∧ (∃ f0_124 : Nat, ∃ f1_125 : Nat, ∃ f2_126 : Nat, ∃ f3_127 : Nat, ∃ f4_128 : Int, ∃ f5_129 : Int, w_105[f0_110]? = some (zob 0 [zp f0_124, zp f1_125, zp f2_126, zp f3_127, zj f4_128, zj f5_129]) ∧ (∃ r_132 : Int, ∃ w_130 : List zE, Zc sc 11 [zp f0_110, zj x1] w_105 (some (zj r_132)) w_130 0 0 ∧ ((zrg x2 ∧ zrg r_132) ∧ (∃ f0_135 : Nat, ∃ f1_136 : Nat, ∃ f2_137 : Int, ∃ f3_138 : Int, ∃ f4_139 : Int, ∃ f5_140 : Int, ∃ f6_141 : Int, ∃ f7_142 : Nat, ∃ f8_143 : Nat, ∃ f9_144 : Int, ∃ f10_145 : Int, ∃ f11_146 : Int, ∃ f12_147 : Int, w_130[a0]? = some (zob 2 [zp f0_135, zp f1_136, zj f2_137, zj f3_138, zj f4_139, zj f5_140, zj f6_141, zp f7_142, zp f8_143, zj f9_144, zj f10_145, zj f11_146, zj f12_147]) ∧ (∃ r_150 : Int, ∃ w_148 : List zE, Zc sc 63 [zp a0, zj 80, zj x2, zj r_42] w_130 (some (zj r_150)) w_148 0 0 ∧ ((zrg r_150) ∧ ((r_150 = 0 → (ov = none ∧ w' = w_148 ∧ c = 0 ∧ s = 0)) ∧ (¬ (r_150 = 0) → (∃ f0_153 : Nat, ∃ f1_154 : Nat, ∃ f2_155 : Int, ∃ f3_156 : Int, ∃ f4_157 : Int, ∃ f5_158 : Int, ∃ f6_159 : Int, ∃ f7_160 : Nat, ∃ f8_161 : Nat, ∃ f9_162 : Int, ∃ f10_163 : Int, ∃ f11_164 : Int, ∃ f12_165 : Int, w_148[a0]? = some (zob 2 [zp f0_153, zp f1_154, zj f2_155, zj f3_156, zj f4_157, zj f5_158, zj f6_159, zp f7_160, zp f8_161, zj f9_162, zj f10_163, zj f11_164, zj f12_165]) ∧ (∃ w_166 : List zE, Zc sc 83 [zp a0, zj x1] w_148 none w_166 0 0 ∧ (∃ f0_169 : Nat, ∃ f1_170 : Nat, ∃ f2_171 : Int, ∃ f3_172 : Int, ∃ f4_173 : Int, ∃ f5_174 : Int, ∃ f6_175 : Int, ∃ f7_176 : Nat, ∃ f8_177 : Nat, ∃ f9_178 : Int, ∃ f10_179 : Int, ∃ f11_180 : Int, ∃ f12_181 : Int, w_166[a0]? = some (zob 2 [zp f0_169, zp f1_170, zj f2_171, zj f3_172, zj f4_173, zj f5_174, zj f6_175, zp f7_176, zp f8_177, zj f9_178, zj f10_179, zj f11_180, zj f12_181]) ∧ (∃ f0_183 : Nat, ∃ f1_184 : Nat, ∃ f2_185 : Nat, ∃ f3_186 : Nat, ∃ f4_187 : Int, ∃ f5_188 : Int, w_166[f0_169]? = some (zob 0 [zp f0_183, zp f1_184, zp f2_185, zp f3_186, zj f4_187, zj f5_188]) ∧ (∃ w_189 : List zE, Zc sc 93 [zp f0_169, zj 80, zj x1] w_166 none w_189 0 0 ∧ (∃ f0_192 : Nat, ∃ f1_193 : Nat, ∃ f2_194 : Int, ∃ f3_195 : Int, ∃ f4_196 : Int, ∃ f5_197 : Int, ∃ f6_198 : Int, ∃ f7_199 : Nat, ∃ f8_200 : Nat, ∃ f9_201 : Int, ∃ f10_202 : Int, ∃ f11_203 : Int, ∃ f12_204 : Int, w_189[a0]? = some (zob 2 [zp f0_192, zp f1_193, zj f2_194, zj f3_195, zj f4_196, zj f5_197, zj f6_198, zp f7_199, zp f8_200, zj f9_201, zj f10_202, zj f11_203, zj f12_204]) ∧ (∃ w_205 : List zE, Zc sc 64 [zp a0, zj 3, zj (min x2 r_132)] w_189 none w_205 0 0 ∧ (ov = none ∧ w' = w_205 ∧ c = 0 ∧ s = 0)))))))))))))))))) ∧ (¬ (r_107 = 0) → (∃ f0_208 : Nat, ∃ f1_209 : Nat, ∃ f2_210 : Int, ∃ f3_211 : Int, ∃ f4_212 : Int, ∃ f5_213 : Int, ∃ f6_214 : Int, ∃ f7_215 : Nat, ∃ f8_216 : Nat, ∃ f9_217 : Int, ∃ f10_218 : Int, ∃ f11_219 : Int, ∃ f12_220 : Int, w_105[a0]? = some (zob 2 [zp f0_208, zp f1_209, zj f2_210, zj f3_211, zj f4_212, zj f5_213, zj f6_214, zp f7_215, zp f8_216, zj f9_217, zj f10_218, zj f11_219, zj f12_220]) ∧ (∃ f0_222 : Nat, ∃ f1_223 : Nat, ∃ f2_224 : Nat, ∃ f3_225 : Nat, ∃ f4_226 : Int, ∃ f5_227 : Int, w_105[f0_208]? = some (zob 0 [zp f0_222, zp f1_223, zp f2_224, zp f3_225, zj f4_226, zj f5_227]) ∧ (∃ w_228 : List zE, Zc sc 92 [zp f0_208, zj x1, zj x2] w_105 none w_228 0 0 ∧ (ov = none ∧ w' = w_228 ∧ c = 0 ∧ s = 0)))))))))))))))))) ∧ (¬ (r_24 ≠ 0) → (ov = none ∧ w' = w_22 ∧ c = 0 ∧ s = 0)))))))) : Zr sc 88 0 [zp a0, zj x1, zj x2, zmk, zmk] [] w ov w' c s := by
  refine Zr_st (q := (1, [zp a0, zj x1, zj x2, zmk, zmk], [zp a0])) rfl rfl rfl ?_
  show Zr sc 88 1 [zp a0, zj x1, zj x2, zmk, zmk] [zp a0] w ov w' c s
  obtain ⟨f0_2, f1_3, f2_4, f3_5, f4_6, f5_7, f6_8, f7_9, f8_10, f9_11, f10_12, f11_13, f12_14, hw_1, h⟩ := h
  refine rl_gf rfl hw_1 rfl rfl ?_
  show Zr sc 88 4 [zp a0, zj x1, zj x2, zmk, zmk] [zp f0_2] w ov w' c s
  refine Zr_st (q := (5, [zp a0, zj x1, zj x2, zmk, zmk], [zj x1, zp f0_2])) rfl rfl rfl ?_
  show Zr sc 88 5 [zp a0, zj x1, zj x2, zmk, zmk] [zj x1, zp f0_2] w ov w' c s
  obtain ⟨f0_16, f1_17, f2_18, f3_19, f4_20, f5_21, hw_15, h⟩ := h
  obtain ⟨r_24, w_22, hk_23, h⟩ := h
  refine rn_cal0 (ins := .invokevirtual 175) (rest := []) rfl rfl rfl rfl (zinv_v (fs := _) hw_15 rfl rfl rfl rfl) rfl rfl hk_23 ?_
  show Zr sc 88 8 [zp a0, zj x1, zj x2, zmk, zmk] [zj r_24] w_22 ov w' c s
  obtain ⟨hr_25, h⟩ := h
  refine Zr_b0 (p := r_24 ≠ 0) rfl rfl (zcmp_0 (cnd := .ne) hr_25) (fun hp => ?_) (fun hp => ?_)
  · replace h := h.1 hp
    show Zr sc 88 12 [zp a0, zj x1, zj x2, zmk, zmk] [] w_22 ov w' c s
    refine Zr_st (q := (13, [zp a0, zj x1, zj x2, zmk, zmk], [zp a0])) rfl rfl rfl ?_
    show Zr sc 88 13 [zp a0, zj x1, zj x2, zmk, zmk] [zp a0] w_22 ov w' c s
    refine Zr_st (q := (14, [zp a0, zj x1, zj x2, zmk, zmk], [zj x2, zp a0])) rfl rfl rfl ?_
    show Zr sc 88 14 [zp a0, zj x1, zj x2, zmk, zmk] [zj x2, zp a0] w_22 ov w' c s
    obtain ⟨f0_27, f1_28, f2_29, f3_30, f4_31, f5_32, f6_33, f7_34, f8_35, f9_36, f10_37, f11_38, f12_39, hw_26, h⟩ := h
    obtain ⟨r_42, w_40, hk_41, h⟩ := h
    refine rn_cal0 (ins := .invokevirtual 124) (rest := []) rfl rfl rfl rfl (zinv_v (fs := _) hw_26 rfl rfl rfl rfl) rfl rfl hk_41 ?_
    show Zr sc 88 17 [zp a0, zj x1, zj x2, zmk, zmk] [zj r_42] w_40 ov w' c s
    refine Zr_st (q := (18, [zp a0, zj x1, zj x2, zj r_42, zmk], [])) rfl rfl rfl ?_
    show Zr sc 88 18 [zp a0, zj x1, zj x2, zj r_42, zmk] [] w_40 ov w' c s
    refine Zr_st (q := (19, [zp a0, zj x1, zj x2, zj r_42, zmk], [zj r_42])) rfl rfl rfl ?_
    show Zr sc 88 19 [zp a0, zj x1, zj x2, zj r_42, zmk] [zj r_42] w_40 ov w' c s
    refine Zr_st (q := (20, [zp a0, zj x1, zj x2, zj r_42, zmk], [zp a0, zj r_42])) rfl rfl rfl ?_
    show Zr sc 88 20 [zp a0, zj x1, zj x2, zj r_42, zmk] [zp a0, zj r_42] w_40 ov w' c s
    obtain ⟨f0_44, f1_45, f2_46, f3_47, f4_48, f5_49, f6_50, f7_51, f8_52, f9_53, f10_54, f11_55, f12_56, hw_43, h⟩ := h
    refine rl_gf rfl hw_43 rfl rfl ?_
    show Zr sc 88 23 [zp a0, zj x1, zj x2, zj r_42, zmk] [zp f0_44, zj r_42] w_40 ov w' c s
    refine Zr_st (q := (24, [zp a0, zj x1, zj x2, zj r_42, zmk], [zj x1, zp f0_44, zj r_42])) rfl rfl rfl ?_
    show Zr sc 88 24 [zp a0, zj x1, zj x2, zj r_42, zmk] [zj x1, zp f0_44, zj r_42] w_40 ov w' c s
    obtain ⟨f0_58, f1_59, f2_60, f3_61, f4_62, f5_63, hw_57, h⟩ := h
    obtain ⟨r_66, w_64, hk_65, h⟩ := h
    refine rn_cal0 (ins := .invokevirtual 138) (rest := [zj r_42]) rfl rfl rfl rfl (zinv_v (fs := _) hw_57 rfl rfl rfl rfl) rfl rfl hk_65 ?_
    show Zr sc 88 27 [zp a0, zj x1, zj x2, zj r_42, zmk] [zj r_66, zj r_42] w_64 ov w' c s
    obtain ⟨hr_67, h⟩ := h
    refine Zr_br (p := r_42 = r_66) rfl rfl (zcmp_j (cnd := .eq) hr_67.1 hr_67.2) (fun hp => ?_) (fun hp => ?_)
    · replace h := h.1 hp
      show Zr sc 88 39 [zp a0, zj x1, zj x2, zj r_42, zmk] [] w_64 ov w' c s
      refine Zr_st (q := (40, [zp a0, zj x1, zj x2, zj r_42, zmk], [zp a0])) rfl rfl rfl ?_
      show Zr sc 88 40 [zp a0, zj x1, zj x2, zj r_42, zmk] [zp a0] w_64 ov w' c s
      obtain ⟨f0_69, f1_70, f2_71, f3_72, f4_73, f5_74, f6_75, f7_76, f8_77, f9_78, f10_79, f11_80, f12_81, hw_68, h⟩ := h
      refine rl_gf rfl hw_68 rfl rfl ?_
      show Zr sc 88 43 [zp a0, zj x1, zj x2, zj r_42, zmk] [zp f0_69] w_64 ov w' c s
      refine Zr_st (q := (44, [zp a0, zj x1, zj x2, zj r_42, zmk], [zj x1, zp f0_69])) rfl rfl rfl ?_
      show Zr sc 88 44 [zp a0, zj x1, zj x2, zj r_42, zmk] [zj x1, zp f0_69] w_64 ov w' c s
      refine Zr_st (q := (45, [zp a0, zj x1, zj x2, zj r_42, zmk], [zj x2, zj x1, zp f0_69])) rfl rfl rfl ?_
      show Zr sc 88 45 [zp a0, zj x1, zj x2, zj r_42, zmk] [zj x2, zj x1, zp f0_69] w_64 ov w' c s
      obtain ⟨f0_83, f1_84, f2_85, f3_86, f4_87, f5_88, hw_82, h⟩ := h
      obtain ⟨w_89, hk_90, h⟩ := h
      refine rn_cal0 (ins := .invokevirtual 186) (rest := []) rfl rfl rfl rfl (zinv_v (fs := _) hw_82 rfl rfl rfl rfl) rfl rfl hk_90 ?_
      show Zr sc 88 48 [zp a0, zj x1, zj x2, zj r_42, zmk] [] w_89 ov w' c s
      obtain ⟨h1, h2, h3, h4⟩ := h
      subst h1; subst h2; subst h3; subst h4
      exact Zr_ret (ins := .return_) rfl rfl
    · replace h := h.2 hp
      show Zr sc 88 30 [zp a0, zj x1, zj x2, zj r_42, zmk] [] w_64 ov w' c s
      refine Zr_st (q := (31, [zp a0, zj x1, zj x2, zj r_42, zmk], [zp a0])) rfl rfl rfl ?_
      show Zr sc 88 31 [zp a0, zj x1, zj x2, zj r_42, zmk] [zp a0] w_64 ov w' c s
      refine Zr_st (q := (32, [zp a0, zj x1, zj x2, zj r_42, zmk], [zj x1, zp a0])) rfl rfl rfl ?_
      show Zr sc 88 32 [zp a0, zj x1, zj x2, zj r_42, zmk] [zj x1, zp a0] w_64 ov w' c s
      refine Zr_st (q := (33, [zp a0, zj x1, zj x2, zj r_42, zmk], [zj r_42, zj x1, zp a0])) rfl rfl rfl ?_
      show Zr sc 88 33 [zp a0, zj x1, zj x2, zj r_42, zmk] [zj r_42, zj x1, zp a0] w_64 ov w' c s
      obtain ⟨f0_92, f1_93, f2_94, f3_95, f4_96, f5_97, f6_98, f7_99, f8_100, f9_101, f10_102, f11_103, f12_104, hw_91, h⟩ := h
      obtain ⟨r_107, w_105, hk_106, h⟩ := h
      refine rn_cal0 (ins := .invokevirtual 182) (rest := []) rfl rfl rfl rfl (zinv_v (fs := _) hw_91 rfl rfl rfl rfl) rfl rfl hk_106 ?_
      show Zr sc 88 36 [zp a0, zj x1, zj x2, zj r_42, zmk] [zj r_107] w_105 ov w' c s
      obtain ⟨hr_108, h⟩ := h
      refine Zr_b0 (p := r_107 = 0) rfl rfl (zcmp_0 (cnd := .eq) hr_108) (fun hp => ?_) (fun hp => ?_)
      · replace h := h.1 hp
        show Zr sc 88 49 [zp a0, zj x1, zj x2, zj r_42, zmk] [] w_105 ov w' c s
        refine Zr_st (q := (50, [zp a0, zj x1, zj x2, zj r_42, zmk], [zj x2])) rfl rfl rfl ?_
        show Zr sc 88 50 [zp a0, zj x1, zj x2, zj r_42, zmk] [zj x2] w_105 ov w' c s
        refine Zr_st (q := (51, [zp a0, zj x1, zj x2, zj r_42, zmk], [zp a0, zj x2])) rfl rfl rfl ?_
        show Zr sc 88 51 [zp a0, zj x1, zj x2, zj r_42, zmk] [zp a0, zj x2] w_105 ov w' c s
        obtain ⟨f0_110, f1_111, f2_112, f3_113, f4_114, f5_115, f6_116, f7_117, f8_118, f9_119, f10_120, f11_121, f12_122, hw_109, h⟩ := h
        refine rl_gf rfl hw_109 rfl rfl ?_
        show Zr sc 88 54 [zp a0, zj x1, zj x2, zj r_42, zmk] [zp f0_110, zj x2] w_105 ov w' c s
        refine Zr_st (q := (55, [zp a0, zj x1, zj x2, zj r_42, zmk], [zj x1, zp f0_110, zj x2])) rfl rfl rfl ?_
        show Zr sc 88 55 [zp a0, zj x1, zj x2, zj r_42, zmk] [zj x1, zp f0_110, zj x2] w_105 ov w' c s
        obtain ⟨f0_124, f1_125, f2_126, f3_127, f4_128, f5_129, hw_123, h⟩ := h
        obtain ⟨r_132, w_130, hk_131, h⟩ := h
        refine rn_cal0 (ins := .invokevirtual 137) (rest := [zj x2]) rfl rfl rfl rfl (zinv_v (fs := _) hw_123 rfl rfl rfl rfl) rfl rfl hk_131 ?_
        show Zr sc 88 58 [zp a0, zj x1, zj x2, zj r_42, zmk] [zj r_132, zj x2] w_130 ov w' c s
        obtain ⟨hm_133, h⟩ := h
        refine Zr_mx (b := false) (ins := .invokestatic 189) (rest := []) rfl rfl rfl rfl (zinv_t2 (rest := []) rfl rfl rfl rfl rfl) rfl (zmx_j hm_133.1 hm_133.2) ?_
        show Zr sc 88 61 [zp a0, zj x1, zj x2, zj r_42, zmk] [zj (min x2 r_132)] w_130 ov w' c s
        refine Zr_st (q := (63, [zp a0, zj x1, zj x2, zj r_42, zj (min x2 r_132)], [])) rfl rfl rfl ?_
        show Zr sc 88 63 [zp a0, zj x1, zj x2, zj r_42, zj (min x2 r_132)] [] w_130 ov w' c s
        refine Zr_st (q := (64, [zp a0, zj x1, zj x2, zj r_42, zj (min x2 r_132)], [zp a0])) rfl rfl rfl ?_
        show Zr sc 88 64 [zp a0, zj x1, zj x2, zj r_42, zj (min x2 r_132)] [zp a0] w_130 ov w' c s
        refine rl_bi rfl (by decide) ?_
        show Zr sc 88 66 [zp a0, zj x1, zj x2, zj r_42, zj (min x2 r_132)] [zj 80, zp a0] w_130 ov w' c s
        refine Zr_st (q := (67, [zp a0, zj x1, zj x2, zj r_42, zj (min x2 r_132)], [zj x2, zj 80, zp a0])) rfl rfl rfl ?_
        show Zr sc 88 67 [zp a0, zj x1, zj x2, zj r_42, zj (min x2 r_132)] [zj x2, zj 80, zp a0] w_130 ov w' c s
        refine Zr_st (q := (68, [zp a0, zj x1, zj x2, zj r_42, zj (min x2 r_132)], [zj r_42, zj x2, zj 80, zp a0])) rfl rfl rfl ?_
        show Zr sc 88 68 [zp a0, zj x1, zj x2, zj r_42, zj (min x2 r_132)] [zj r_42, zj x2, zj 80, zp a0] w_130 ov w' c s
        obtain ⟨f0_135, f1_136, f2_137, f3_138, f4_139, f5_140, f6_141, f7_142, f8_143, f9_144, f10_145, f11_146, f12_147, hw_134, h⟩ := h
        obtain ⟨r_150, w_148, hk_149, h⟩ := h
        refine rn_cal0 (ins := .invokevirtual 162) (rest := []) rfl rfl rfl rfl (zinv_v (fs := _) hw_134 rfl rfl rfl rfl) rfl rfl hk_149 ?_
        show Zr sc 88 71 [zp a0, zj x1, zj x2, zj r_42, zj (min x2 r_132)] [zj r_150] w_148 ov w' c s
        obtain ⟨hr_151, h⟩ := h
        refine Zr_b0 (p := r_150 = 0) rfl rfl (zcmp_0 (cnd := .eq) hr_151) (fun hp => ?_) (fun hp => ?_)
        · replace h := h.1 hp
          show Zr sc 88 96 [zp a0, zj x1, zj x2, zj r_42, zj (min x2 r_132)] [] w_148 ov w' c s
          obtain ⟨h1, h2, h3, h4⟩ := h
          subst h1; subst h2; subst h3; subst h4
          exact Zr_ret (ins := .return_) rfl rfl
        · replace h := h.2 hp
          show Zr sc 88 74 [zp a0, zj x1, zj x2, zj r_42, zj (min x2 r_132)] [] w_148 ov w' c s
          refine Zr_st (q := (75, [zp a0, zj x1, zj x2, zj r_42, zj (min x2 r_132)], [zp a0])) rfl rfl rfl ?_
          show Zr sc 88 75 [zp a0, zj x1, zj x2, zj r_42, zj (min x2 r_132)] [zp a0] w_148 ov w' c s
          refine Zr_st (q := (76, [zp a0, zj x1, zj x2, zj r_42, zj (min x2 r_132)], [zj x1, zp a0])) rfl rfl rfl ?_
          show Zr sc 88 76 [zp a0, zj x1, zj x2, zj r_42, zj (min x2 r_132)] [zj x1, zp a0] w_148 ov w' c s
          obtain ⟨f0_153, f1_154, f2_155, f3_156, f4_157, f5_158, f6_159, f7_160, f8_161, f9_162, f10_163, f11_164, f12_165, hw_152, h⟩ := h
          obtain ⟨w_166, hk_167, h⟩ := h
          refine rn_cal0 (ins := .invokevirtual 97) (rest := []) rfl rfl rfl rfl (zinv_v (fs := _) hw_152 rfl rfl rfl rfl) rfl rfl hk_167 ?_
          show Zr sc 88 79 [zp a0, zj x1, zj x2, zj r_42, zj (min x2 r_132)] [] w_166 ov w' c s
          refine Zr_st (q := (80, [zp a0, zj x1, zj x2, zj r_42, zj (min x2 r_132)], [zp a0])) rfl rfl rfl ?_
          show Zr sc 88 80 [zp a0, zj x1, zj x2, zj r_42, zj (min x2 r_132)] [zp a0] w_166 ov w' c s
          obtain ⟨f0_169, f1_170, f2_171, f3_172, f4_173, f5_174, f6_175, f7_176, f8_177, f9_178, f10_179, f11_180, f12_181, hw_168, h⟩ := h
          refine rl_gf rfl hw_168 rfl rfl ?_
          show Zr sc 88 83 [zp a0, zj x1, zj x2, zj r_42, zj (min x2 r_132)] [zp f0_169] w_166 ov w' c s
          refine rl_bi rfl (by decide) ?_
          show Zr sc 88 85 [zp a0, zj x1, zj x2, zj r_42, zj (min x2 r_132)] [zj 80, zp f0_169] w_166 ov w' c s
          refine Zr_st (q := (86, [zp a0, zj x1, zj x2, zj r_42, zj (min x2 r_132)], [zj x1, zj 80, zp f0_169])) rfl rfl rfl ?_
          show Zr sc 88 86 [zp a0, zj x1, zj x2, zj r_42, zj (min x2 r_132)] [zj x1, zj 80, zp f0_169] w_166 ov w' c s
          obtain ⟨f0_183, f1_184, f2_185, f3_186, f4_187, f5_188, hw_182, h⟩ := h
          obtain ⟨w_189, hk_190, h⟩ := h
          refine rn_cal0 (ins := .invokevirtual 192) (rest := []) rfl rfl rfl rfl (zinv_v (fs := _) hw_182 rfl rfl rfl rfl) rfl rfl hk_190 ?_
          show Zr sc 88 89 [zp a0, zj x1, zj x2, zj r_42, zj (min x2 r_132)] [] w_189 ov w' c s
          refine Zr_st (q := (90, [zp a0, zj x1, zj x2, zj r_42, zj (min x2 r_132)], [zp a0])) rfl rfl rfl ?_
          show Zr sc 88 90 [zp a0, zj x1, zj x2, zj r_42, zj (min x2 r_132)] [zp a0] w_189 ov w' c s
          refine rl_ic rfl ?_
          show Zr sc 88 91 [zp a0, zj x1, zj x2, zj r_42, zj (min x2 r_132)] [zj 3, zp a0] w_189 ov w' c s
          refine Zr_st (q := (93, [zp a0, zj x1, zj x2, zj r_42, zj (min x2 r_132)], [zj (min x2 r_132), zj 3, zp a0])) rfl rfl rfl ?_
          show Zr sc 88 93 [zp a0, zj x1, zj x2, zj r_42, zj (min x2 r_132)] [zj (min x2 r_132), zj 3, zp a0] w_189 ov w' c s
          obtain ⟨f0_192, f1_193, f2_194, f3_195, f4_196, f5_197, f6_198, f7_199, f8_200, f9_201, f10_202, f11_203, f12_204, hw_191, h⟩ := h
          obtain ⟨w_205, hk_206, h⟩ := h
          refine rn_cal0 (ins := .invokevirtual 169) (rest := []) rfl rfl rfl rfl (zinv_v (fs := _) hw_191 rfl rfl rfl rfl) rfl rfl hk_206 ?_
          show Zr sc 88 96 [zp a0, zj x1, zj x2, zj r_42, zj (min x2 r_132)] [] w_205 ov w' c s
          obtain ⟨h1, h2, h3, h4⟩ := h
          subst h1; subst h2; subst h3; subst h4
          exact Zr_ret (ins := .return_) rfl rfl
      · replace h := h.2 hp
        show Zr sc 88 39 [zp a0, zj x1, zj x2, zj r_42, zmk] [] w_105 ov w' c s
        refine Zr_st (q := (40, [zp a0, zj x1, zj x2, zj r_42, zmk], [zp a0])) rfl rfl rfl ?_
        show Zr sc 88 40 [zp a0, zj x1, zj x2, zj r_42, zmk] [zp a0] w_105 ov w' c s
        obtain ⟨f0_208, f1_209, f2_210, f3_211, f4_212, f5_213, f6_214, f7_215, f8_216, f9_217, f10_218, f11_219, f12_220, hw_207, h⟩ := h
        refine rl_gf rfl hw_207 rfl rfl ?_
        show Zr sc 88 43 [zp a0, zj x1, zj x2, zj r_42, zmk] [zp f0_208] w_105 ov w' c s
        refine Zr_st (q := (44, [zp a0, zj x1, zj x2, zj r_42, zmk], [zj x1, zp f0_208])) rfl rfl rfl ?_
        show Zr sc 88 44 [zp a0, zj x1, zj x2, zj r_42, zmk] [zj x1, zp f0_208] w_105 ov w' c s
        refine Zr_st (q := (45, [zp a0, zj x1, zj x2, zj r_42, zmk], [zj x2, zj x1, zp f0_208])) rfl rfl rfl ?_
        show Zr sc 88 45 [zp a0, zj x1, zj x2, zj r_42, zmk] [zj x2, zj x1, zp f0_208] w_105 ov w' c s
        obtain ⟨f0_222, f1_223, f2_224, f3_225, f4_226, f5_227, hw_221, h⟩ := h
        obtain ⟨w_228, hk_229, h⟩ := h
        refine rn_cal0 (ins := .invokevirtual 186) (rest := []) rfl rfl rfl rfl (zinv_v (fs := _) hw_221 rfl rfl rfl rfl) rfl rfl hk_229 ?_
        show Zr sc 88 48 [zp a0, zj x1, zj x2, zj r_42, zmk] [] w_228 ov w' c s
        obtain ⟨h1, h2, h3, h4⟩ := h
        subst h1; subst h2; subst h3; subst h4
        exact Zr_ret (ins := .return_) rfl rfl
  · replace h := h.2 hp
    show Zr sc 88 11 [zp a0, zj x1, zj x2, zmk, zmk] [] w_22 ov w' c s
    obtain ⟨h1, h2, h3, h4⟩ := h
    subst h1; subst h2; subst h3; subst h4
    exact Zr_ret (ins := .return_) rfl rfl

-- HeapwrightLab$Memory.resettle(II)V
set_option maxRecDepth 100000 in
theorem V88_0_4 {sc : List Value} {w w' : List zE} {ov : Option Value} {c s : Nat} {a0 : Nat} {x1 : Int} {x2 : Int} (h : (∃ f0_2 : Nat, ∃ f1_3 : Nat, ∃ f2_4 : Int, ∃ f3_5 : Int, ∃ f4_6 : Int, ∃ f5_7 : Int, ∃ f6_8 : Int, ∃ f7_9 : Nat, ∃ f8_10 : Nat, ∃ f9_11 : Int, ∃ f10_12 : Int, ∃ f11_13 : Int, ∃ f12_14 : Int, ∃ f13_15 : Nat, w[a0]? = some (zob 4 [zp f0_2, zp f1_3, zj f2_4, zj f3_5, zj f4_6, zj f5_7, zj f6_8, zp f7_9, zp f8_10, zj f9_11, zj f10_12, zj f11_13, zj f12_14, zp f13_15]) ∧ (∃ f0_17 : Nat, ∃ f1_18 : Nat, ∃ f2_19 : Nat, ∃ f3_20 : Nat, ∃ f4_21 : Int, ∃ f5_22 : Int, w[f0_2]? = some (zob 0 [zp f0_17, zp f1_18, zp f2_19, zp f3_20, zj f4_21, zj f5_22]) ∧ (∃ r_25 : Int, ∃ w_23 : List zE, Zc sc 7 [zp f0_2, zj x1] w (some (zj r_25)) w_23 0 0 ∧ ((zrg r_25) ∧ ((r_25 ≠ 0 → (∃ f0_28 : Nat, ∃ f1_29 : Nat, ∃ f2_30 : Int, ∃ f3_31 : Int, ∃ f4_32 : Int, ∃ f5_33 : Int, ∃ f6_34 : Int, ∃ f7_35 : Nat, ∃ f8_36 : Nat, ∃ f9_37 : Int, ∃ f10_38 : Int, ∃ f11_39 : Int, ∃ f12_40 : Int, ∃ f13_41 : Nat, w_23[a0]? = some (zob 4 [zp f0_28, zp f1_29, zj f2_30, zj f3_31, zj f4_32, zj f5_33, zj f6_34, zp f7_35, zp f8_36, zj f9_37, zj f10_38, zj f11_39, zj f12_40, zp f13_41]) ∧ (∃ r_44 : Int, ∃ w_42 : List zE, Zc sc 42 [zp a0, zj x2] w_23 (some (zj r_44)) w_42 0 0 ∧ (∃ f0_46 : Nat, ∃ f1_47 : Nat, ∃ f2_48 : Int, ∃ f3_49 : Int, ∃ f4_50 : Int, ∃ f5_51 : Int, ∃ f6_52 : Int, ∃ f7_53 : Nat, ∃ f8_54 : Nat, ∃ f9_55 : Int, ∃ f10_56 : Int, ∃ f11_57 : Int, ∃ f12_58 : Int, ∃ f13_59 : Nat, w_42[a0]? = some (zob 4 [zp f0_46, zp f1_47, zj f2_48, zj f3_49, zj f4_50, zj f5_51, zj f6_52, zp f7_53, zp f8_54, zj f9_55, zj f10_56, zj f11_57, zj f12_58, zp f13_59]) ∧ (∃ f0_61 : Nat, ∃ f1_62 : Nat, ∃ f2_63 : Nat, ∃ f3_64 : Nat, ∃ f4_65 : Int, ∃ f5_66 : Int, w_42[f0_46]? = some (zob 0 [zp f0_61, zp f1_62, zp f2_63, zp f3_64, zj f4_65, zj f5_66]) ∧ (∃ r_69 : Int, ∃ w_67 : List zE, Zc sc 13 [zp f0_46, zj x1] w_42 (some (zj r_69)) w_67 0 0 ∧ ((zrg r_44 ∧ zrg r_69) ∧ ((r_44 = r_69 → (∃ f0_72 : Nat, ∃ f1_73 : Nat, ∃ f2_74 : Int, ∃ f3_75 : Int, ∃ f4_76 : Int, ∃ f5_77 : Int, ∃ f6_78 : Int, ∃ f7_79 : Nat, ∃ f8_80 : Nat, ∃ f9_81 : Int, ∃ f10_82 : Int, ∃ f11_83 : Int, ∃ f12_84 : Int, ∃ f13_85 : Nat, w_67[a0]? = some (zob 4 [zp f0_72, zp f1_73, zj f2_74, zj f3_75, zj f4_76, zj f5_77, zj f6_78, zp f7_79, zp f8_80, zj f9_81, zj f10_82, zj f11_83, zj f12_84, zp f13_85]) ∧ (∃ f0_87 : Nat, ∃ f1_88 : Nat, ∃ f2_89 : Nat, ∃ f3_90 : Nat, ∃ f4_91 : Int, ∃ f5_92 : Int, w_67[f0_72]? = some (zob 0 [zp f0_87, zp f1_88, zp f2_89, zp f3_90, zj f4_91, zj f5_92]) ∧ (∃ w_93 : List zE, Zc sc 92 [zp f0_72, zj x1, zj x2] w_67 none w_93 0 0 ∧ (ov = none ∧ w' = w_93 ∧ c = 0 ∧ s = 0))))) ∧ (¬ (r_44 = r_69) → (∃ f0_96 : Nat, ∃ f1_97 : Nat, ∃ f2_98 : Int, ∃ f3_99 : Int, ∃ f4_100 : Int, ∃ f5_101 : Int, ∃ f6_102 : Int, ∃ f7_103 : Nat, ∃ f8_104 : Nat, ∃ f9_105 : Int, ∃ f10_106 : Int, ∃ f11_107 : Int, ∃ f12_108 : Int, ∃ f13_109 : Nat, w_67[a0]? = some (zob 4 [zp f0_96, zp f1_97, zj f2_98, zj f3_99, zj f4_100, zj f5_101, zj f6_102, zp f7_103, zp f8_104, zj f9_105, zj f10_106, zj f11_107, zj f12_108, zp f13_109]) ∧ (∃ r_112 : Int, ∃ w_110 : List zE, Zc sc 91 [zp a0, zj x1, zj r_44] w_67 (some (zj r_112)) w_110 0 0 ∧ ((zrg r_112) ∧ ((r_112 = 0 → (∃ f0_115 : Nat, ∃ f1_116 : Nat, ∃ f2_117 : Int, ∃ f3_118 : Int, ∃ f4_119 : Int, ∃ f5_120 : Int, ∃ f6_121 : Int, ∃ f7_122 : Nat, ∃ f8_123 : Nat, ∃ f9_124 : Int, ∃ f10_125 : Int, ∃ f11_126 : Int, ∃ f12_127 : Int, ∃ f13_128 : Nat, w_110[a0]? = some (zob 4 [zp f0_115, zp f1_116, zj f2_117, zj f3_118, zj f4_119, zj f5_120, zj f6_121, zp f7_122, zp f8_123, zj f9_124, zj f10_125, zj f11_126, zj f12_127, zp f13_128]) ∧ (∃ f0_130 : Nat, ∃ f1_131 : Nat, ∃ f2_132 : Nat, ∃ f3_133 : Nat, ∃ f4_134 : Int, ∃ f5_135 : Int, w_110[f0_115]? = some (zob 0 [zp f0_130, zp f1_131, zp f2_132, zp f3_133, zj f4_134, zj f5_135]) ∧ (∃ r_138 : Int, ∃ w_136 : List zE, Zc sc 11 [zp f0_115, zj x1] w_110 (some (zj r_138)) w_136 0 0 ∧ ((zrg x2 ∧ zrg r_138) ∧ (∃ f0_141 : Nat, ∃ f1_142 : Nat, ∃ f2_143 : Int, ∃ f3_144 : Int, ∃ f4_145 : Int, ∃ f5_146 : Int, ∃ f6_147 : Int, ∃ f7_148 : Nat, ∃ f8_149 : Nat, ∃ f9_150 : Int, ∃ f10_151 : Int, ∃ f11_152 : Int, ∃ f12_153 : Int, ∃ f13_154 : Nat, w_136[a0]? = some (zob 4 [zp f0_141, zp f1_142, zj f2_143, zj f3_144, zj f4_145, zj f5_146, zj f6_147, zp f7_148, zp f8_149, zj f9_150, zj f10_151, zj f11_152, zj f12_153, zp f13_154]) ∧ (∃ r_157 : Int, ∃ w_155 : List zE, Zc sc 63 [zp a0, zj 80, zj x2, zj r_44] w_136 (some (zj r_157)) w_155 0 0 ∧ ((zrg r_157) ∧ ((r_157 = 0 → (ov = none ∧ w' = w_155 ∧ c = 0 ∧ s = 0)) ∧ (¬ (r_157 = 0) → (∃ f0_160 : Nat, ∃ f1_161 : Nat, ∃ f2_162 : Int, ∃ f3_163 : Int, ∃ f4_164 : Int, ∃ f5_165 : Int, ∃ f6_166 : Int, ∃ f7_167 : Nat, ∃ f8_168 : Nat, ∃ f9_169 : Int, ∃ f10_170 : Int, ∃ f11_171 : Int, ∃ f12_172 : Int, ∃ f13_173 : Nat, w_155[a0]? = some (zob 4 [zp f0_160, zp f1_161, zj f2_162, zj f3_163, zj f4_164, zj f5_165, zj f6_166, zp f7_167, zp f8_168, zj f9_169, zj f10_170, zj f11_171, zj f12_172, zp f13_173]) ∧ (∃ w_174 : List zE, Zc sc 83 [zp a0, zj x1] w_155 none w_174 0 0 ∧ (∃ f0_177 : Nat, ∃ f1_178 : Nat, ∃ f2_179 : Int, ∃ f3_180 : Int, ∃ f4_181 : Int, ∃ f5_182 : Int, ∃ f6_183 : Int, ∃ f7_184 : Nat, ∃ f8_185 : Nat, ∃ f9_186 : Int, ∃ f10_187 : Int, ∃ f11_188 : Int, ∃ f12_189 : Int, ∃ f13_190 : Nat, w_174[a0]? = some (zob 4 [zp f0_177, zp f1_178, zj f2_179, zj f3_180, zj f4_181, zj f5_182, zj f6_183, zp f7_184, zp f8_185, zj f9_186, zj f10_187, zj f11_188, zj f12_189, zp f13_190]) ∧ (∃ f0_192 : Nat, ∃ f1_193 : Nat, ∃ f2_194 : Nat, ∃ f3_195 : Nat, ∃ f4_196 : Int, ∃ f5_197 : Int, w_174[f0_177]? = some (zob 0 [zp f0_192, zp f1_193, zp f2_194, zp f3_195, zj f4_196, zj f5_197]) ∧ (∃ w_198 : List zE, Zc sc 93 [zp f0_177, zj 80, zj x1] w_174 none w_198 0 0 ∧ (∃ f0_201 : Nat, ∃ f1_202 : Nat, ∃ f2_203 : Int, ∃ f3_204 : Int, ∃ f4_205 : Int, ∃ f5_206 : Int, ∃ f6_207 : Int, ∃ f7_208 : Nat, ∃ f8_209 : Nat, ∃ f9_210 : Int, ∃ f10_211 : Int, ∃ f11_212 : Int, ∃ f12_213 : Int, ∃ f13_214 : Nat, w_198[a0]? = some (zob 4 [zp f0_201, zp f1_202, zj f2_203, zj f3_204, zj f4_205, zj f5_206, zj f6_207, zp f7_208, zp f8_209, zj f9_210, zj f10_211, zj f11_212, zj f12_213, zp f13_214]) ∧ (∃ w_215 : List zE, Zc sc 64 [zp a0, zj 3, zj (min x2 r_138)] w_198 none w_215 0 0 ∧ (ov = none ∧ w' = w_215 ∧ c = 0 ∧ s = 0)))))))))))))))))) ∧ (¬ (r_112 = 0) → (∃ f0_218 : Nat, ∃ f1_219 : Nat, ∃ f2_220 : Int, ∃ f3_221 : Int, ∃ f4_222 : Int, ∃ f5_223 : Int, ∃ f6_224 : Int, ∃ f7_225 : Nat, ∃ f8_226 : Nat, ∃ f9_227 : Int, ∃ f10_228 : Int, ∃ f11_229 : Int, ∃ f12_230 : Int, ∃ f13_231 : Nat, w_110[a0]? = some (zob 4 [zp f0_218, zp f1_219, zj f2_220, zj f3_221, zj f4_222, zj f5_223, zj f6_224, zp f7_225, zp f8_226, zj f9_227, zj f10_228, zj f11_229, zj f12_230, zp f13_231]) ∧ (∃ f0_233 : Nat, ∃ f1_234 : Nat, ∃ f2_235 : Nat, ∃ f3_236 : Nat, ∃ f4_237 : Int, ∃ f5_238 : Int, w_110[f0_218]? = some (zob 0 [zp f0_233, zp f1_234, zp f2_235, zp f3_236, zj f4_237, zj f5_238]) ∧ (∃ w_239 : List zE, Zc sc 92 [zp f0_218, zj x1, zj x2] w_110 none w_239 0 0 ∧ (ov = none ∧ w' = w_239 ∧ c = 0 ∧ s = 0)))))))))))))))))) ∧ (¬ (r_25 ≠ 0) → (ov = none ∧ w' = w_23 ∧ c = 0 ∧ s = 0)))))))) : Zr sc 88 0 [zp a0, zj x1, zj x2, zmk, zmk] [] w ov w' c s := by
  refine Zr_st (q := (1, [zp a0, zj x1, zj x2, zmk, zmk], [zp a0])) rfl rfl rfl ?_
  show Zr sc 88 1 [zp a0, zj x1, zj x2, zmk, zmk] [zp a0] w ov w' c s
  obtain ⟨f0_2, f1_3, f2_4, f3_5, f4_6, f5_7, f6_8, f7_9, f8_10, f9_11, f10_12, f11_13, f12_14, f13_15, hw_1, h⟩ := h
  refine rl_gf rfl hw_1 rfl rfl ?_
  show Zr sc 88 4 [zp a0, zj x1, zj x2, zmk, zmk] [zp f0_2] w ov w' c s
  refine Zr_st (q := (5, [zp a0, zj x1, zj x2, zmk, zmk], [zj x1, zp f0_2])) rfl rfl rfl ?_
  show Zr sc 88 5 [zp a0, zj x1, zj x2, zmk, zmk] [zj x1, zp f0_2] w ov w' c s
  obtain ⟨f0_17, f1_18, f2_19, f3_20, f4_21, f5_22, hw_16, h⟩ := h
  obtain ⟨r_25, w_23, hk_24, h⟩ := h
  refine rn_cal0 (ins := .invokevirtual 175) (rest := []) rfl rfl rfl rfl (zinv_v (fs := _) hw_16 rfl rfl rfl rfl) rfl rfl hk_24 ?_
  show Zr sc 88 8 [zp a0, zj x1, zj x2, zmk, zmk] [zj r_25] w_23 ov w' c s
  obtain ⟨hr_26, h⟩ := h
  refine Zr_b0 (p := r_25 ≠ 0) rfl rfl (zcmp_0 (cnd := .ne) hr_26) (fun hp => ?_) (fun hp => ?_)
  · replace h := h.1 hp
    show Zr sc 88 12 [zp a0, zj x1, zj x2, zmk, zmk] [] w_23 ov w' c s
    refine Zr_st (q := (13, [zp a0, zj x1, zj x2, zmk, zmk], [zp a0])) rfl rfl rfl ?_
    show Zr sc 88 13 [zp a0, zj x1, zj x2, zmk, zmk] [zp a0] w_23 ov w' c s
    refine Zr_st (q := (14, [zp a0, zj x1, zj x2, zmk, zmk], [zj x2, zp a0])) rfl rfl rfl ?_
    show Zr sc 88 14 [zp a0, zj x1, zj x2, zmk, zmk] [zj x2, zp a0] w_23 ov w' c s
    obtain ⟨f0_28, f1_29, f2_30, f3_31, f4_32, f5_33, f6_34, f7_35, f8_36, f9_37, f10_38, f11_39, f12_40, f13_41, hw_27, h⟩ := h
    obtain ⟨r_44, w_42, hk_43, h⟩ := h
    refine rn_cal0 (ins := .invokevirtual 124) (rest := []) rfl rfl rfl rfl (zinv_v (fs := _) hw_27 rfl rfl rfl rfl) rfl rfl hk_43 ?_
    show Zr sc 88 17 [zp a0, zj x1, zj x2, zmk, zmk] [zj r_44] w_42 ov w' c s
    refine Zr_st (q := (18, [zp a0, zj x1, zj x2, zj r_44, zmk], [])) rfl rfl rfl ?_
    show Zr sc 88 18 [zp a0, zj x1, zj x2, zj r_44, zmk] [] w_42 ov w' c s
    refine Zr_st (q := (19, [zp a0, zj x1, zj x2, zj r_44, zmk], [zj r_44])) rfl rfl rfl ?_
    show Zr sc 88 19 [zp a0, zj x1, zj x2, zj r_44, zmk] [zj r_44] w_42 ov w' c s
    refine Zr_st (q := (20, [zp a0, zj x1, zj x2, zj r_44, zmk], [zp a0, zj r_44])) rfl rfl rfl ?_
    show Zr sc 88 20 [zp a0, zj x1, zj x2, zj r_44, zmk] [zp a0, zj r_44] w_42 ov w' c s
    obtain ⟨f0_46, f1_47, f2_48, f3_49, f4_50, f5_51, f6_52, f7_53, f8_54, f9_55, f10_56, f11_57, f12_58, f13_59, hw_45, h⟩ := h
    refine rl_gf rfl hw_45 rfl rfl ?_
    show Zr sc 88 23 [zp a0, zj x1, zj x2, zj r_44, zmk] [zp f0_46, zj r_44] w_42 ov w' c s
    refine Zr_st (q := (24, [zp a0, zj x1, zj x2, zj r_44, zmk], [zj x1, zp f0_46, zj r_44])) rfl rfl rfl ?_
    show Zr sc 88 24 [zp a0, zj x1, zj x2, zj r_44, zmk] [zj x1, zp f0_46, zj r_44] w_42 ov w' c s
    obtain ⟨f0_61, f1_62, f2_63, f3_64, f4_65, f5_66, hw_60, h⟩ := h
    obtain ⟨r_69, w_67, hk_68, h⟩ := h
    refine rn_cal0 (ins := .invokevirtual 138) (rest := [zj r_44]) rfl rfl rfl rfl (zinv_v (fs := _) hw_60 rfl rfl rfl rfl) rfl rfl hk_68 ?_
    show Zr sc 88 27 [zp a0, zj x1, zj x2, zj r_44, zmk] [zj r_69, zj r_44] w_67 ov w' c s
    obtain ⟨hr_70, h⟩ := h
    refine Zr_br (p := r_44 = r_69) rfl rfl (zcmp_j (cnd := .eq) hr_70.1 hr_70.2) (fun hp => ?_) (fun hp => ?_)
    · replace h := h.1 hp
      show Zr sc 88 39 [zp a0, zj x1, zj x2, zj r_44, zmk] [] w_67 ov w' c s
      refine Zr_st (q := (40, [zp a0, zj x1, zj x2, zj r_44, zmk], [zp a0])) rfl rfl rfl ?_
      show Zr sc 88 40 [zp a0, zj x1, zj x2, zj r_44, zmk] [zp a0] w_67 ov w' c s
      obtain ⟨f0_72, f1_73, f2_74, f3_75, f4_76, f5_77, f6_78, f7_79, f8_80, f9_81, f10_82, f11_83, f12_84, f13_85, hw_71, h⟩ := h
      refine rl_gf rfl hw_71 rfl rfl ?_
      show Zr sc 88 43 [zp a0, zj x1, zj x2, zj r_44, zmk] [zp f0_72] w_67 ov w' c s
      refine Zr_st (q := (44, [zp a0, zj x1, zj x2, zj r_44, zmk], [zj x1, zp f0_72])) rfl rfl rfl ?_
      show Zr sc 88 44 [zp a0, zj x1, zj x2, zj r_44, zmk] [zj x1, zp f0_72] w_67 ov w' c s
      refine Zr_st (q := (45, [zp a0, zj x1, zj x2, zj r_44, zmk], [zj x2, zj x1, zp f0_72])) rfl rfl rfl ?_
      show Zr sc 88 45 [zp a0, zj x1, zj x2, zj r_44, zmk] [zj x2, zj x1, zp f0_72] w_67 ov w' c s
      obtain ⟨f0_87, f1_88, f2_89, f3_90, f4_91, f5_92, hw_86, h⟩ := h
      obtain ⟨w_93, hk_94, h⟩ := h
      refine rn_cal0 (ins := .invokevirtual 186) (rest := []) rfl rfl rfl rfl (zinv_v (fs := _) hw_86 rfl rfl rfl rfl) rfl rfl hk_94 ?_
      show Zr sc 88 48 [zp a0, zj x1, zj x2, zj r_44, zmk] [] w_93 ov w' c s
      obtain ⟨h1, h2, h3, h4⟩ := h
      subst h1; subst h2; subst h3; subst h4
      exact Zr_ret (ins := .return_) rfl rfl
    · replace h := h.2 hp
      show Zr sc 88 30 [zp a0, zj x1, zj x2, zj r_44, zmk] [] w_67 ov w' c s
      refine Zr_st (q := (31, [zp a0, zj x1, zj x2, zj r_44, zmk], [zp a0])) rfl rfl rfl ?_
      show Zr sc 88 31 [zp a0, zj x1, zj x2, zj r_44, zmk] [zp a0] w_67 ov w' c s
      refine Zr_st (q := (32, [zp a0, zj x1, zj x2, zj r_44, zmk], [zj x1, zp a0])) rfl rfl rfl ?_
      show Zr sc 88 32 [zp a0, zj x1, zj x2, zj r_44, zmk] [zj x1, zp a0] w_67 ov w' c s
      refine Zr_st (q := (33, [zp a0, zj x1, zj x2, zj r_44, zmk], [zj r_44, zj x1, zp a0])) rfl rfl rfl ?_
      show Zr sc 88 33 [zp a0, zj x1, zj x2, zj r_44, zmk] [zj r_44, zj x1, zp a0] w_67 ov w' c s
      obtain ⟨f0_96, f1_97, f2_98, f3_99, f4_100, f5_101, f6_102, f7_103, f8_104, f9_105, f10_106, f11_107, f12_108, f13_109, hw_95, h⟩ := h
      obtain ⟨r_112, w_110, hk_111, h⟩ := h
      refine rn_cal0 (ins := .invokevirtual 182) (rest := []) rfl rfl rfl rfl (zinv_v (fs := _) hw_95 rfl rfl rfl rfl) rfl rfl hk_111 ?_
      show Zr sc 88 36 [zp a0, zj x1, zj x2, zj r_44, zmk] [zj r_112] w_110 ov w' c s
      obtain ⟨hr_113, h⟩ := h
      refine Zr_b0 (p := r_112 = 0) rfl rfl (zcmp_0 (cnd := .eq) hr_113) (fun hp => ?_) (fun hp => ?_)
      · replace h := h.1 hp
        show Zr sc 88 49 [zp a0, zj x1, zj x2, zj r_44, zmk] [] w_110 ov w' c s
        refine Zr_st (q := (50, [zp a0, zj x1, zj x2, zj r_44, zmk], [zj x2])) rfl rfl rfl ?_
        show Zr sc 88 50 [zp a0, zj x1, zj x2, zj r_44, zmk] [zj x2] w_110 ov w' c s
        refine Zr_st (q := (51, [zp a0, zj x1, zj x2, zj r_44, zmk], [zp a0, zj x2])) rfl rfl rfl ?_
        show Zr sc 88 51 [zp a0, zj x1, zj x2, zj r_44, zmk] [zp a0, zj x2] w_110 ov w' c s
        obtain ⟨f0_115, f1_116, f2_117, f3_118, f4_119, f5_120, f6_121, f7_122, f8_123, f9_124, f10_125, f11_126, f12_127, f13_128, hw_114, h⟩ := h
        refine rl_gf rfl hw_114 rfl rfl ?_
        show Zr sc 88 54 [zp a0, zj x1, zj x2, zj r_44, zmk] [zp f0_115, zj x2] w_110 ov w' c s
        refine Zr_st (q := (55, [zp a0, zj x1, zj x2, zj r_44, zmk], [zj x1, zp f0_115, zj x2])) rfl rfl rfl ?_
        show Zr sc 88 55 [zp a0, zj x1, zj x2, zj r_44, zmk] [zj x1, zp f0_115, zj x2] w_110 ov w' c s
        obtain ⟨f0_130, f1_131, f2_132, f3_133, f4_134, f5_135, hw_129, h⟩ := h
        obtain ⟨r_138, w_136, hk_137, h⟩ := h
        refine rn_cal0 (ins := .invokevirtual 137) (rest := [zj x2]) rfl rfl rfl rfl (zinv_v (fs := _) hw_129 rfl rfl rfl rfl) rfl rfl hk_137 ?_
        show Zr sc 88 58 [zp a0, zj x1, zj x2, zj r_44, zmk] [zj r_138, zj x2] w_136 ov w' c s
        obtain ⟨hm_139, h⟩ := h
        refine Zr_mx (b := false) (ins := .invokestatic 189) (rest := []) rfl rfl rfl rfl (zinv_t2 (rest := []) rfl rfl rfl rfl rfl) rfl (zmx_j hm_139.1 hm_139.2) ?_
        show Zr sc 88 61 [zp a0, zj x1, zj x2, zj r_44, zmk] [zj (min x2 r_138)] w_136 ov w' c s
        refine Zr_st (q := (63, [zp a0, zj x1, zj x2, zj r_44, zj (min x2 r_138)], [])) rfl rfl rfl ?_
        show Zr sc 88 63 [zp a0, zj x1, zj x2, zj r_44, zj (min x2 r_138)] [] w_136 ov w' c s
        refine Zr_st (q := (64, [zp a0, zj x1, zj x2, zj r_44, zj (min x2 r_138)], [zp a0])) rfl rfl rfl ?_
        show Zr sc 88 64 [zp a0, zj x1, zj x2, zj r_44, zj (min x2 r_138)] [zp a0] w_136 ov w' c s
        refine rl_bi rfl (by decide) ?_
        show Zr sc 88 66 [zp a0, zj x1, zj x2, zj r_44, zj (min x2 r_138)] [zj 80, zp a0] w_136 ov w' c s
        refine Zr_st (q := (67, [zp a0, zj x1, zj x2, zj r_44, zj (min x2 r_138)], [zj x2, zj 80, zp a0])) rfl rfl rfl ?_
        show Zr sc 88 67 [zp a0, zj x1, zj x2, zj r_44, zj (min x2 r_138)] [zj x2, zj 80, zp a0] w_136 ov w' c s
        refine Zr_st (q := (68, [zp a0, zj x1, zj x2, zj r_44, zj (min x2 r_138)], [zj r_44, zj x2, zj 80, zp a0])) rfl rfl rfl ?_
        show Zr sc 88 68 [zp a0, zj x1, zj x2, zj r_44, zj (min x2 r_138)] [zj r_44, zj x2, zj 80, zp a0] w_136 ov w' c s
        obtain ⟨f0_141, f1_142, f2_143, f3_144, f4_145, f5_146, f6_147, f7_148, f8_149, f9_150, f10_151, f11_152, f12_153, f13_154, hw_140, h⟩ := h
        obtain ⟨r_157, w_155, hk_156, h⟩ := h
        refine rn_cal0 (ins := .invokevirtual 162) (rest := []) rfl rfl rfl rfl (zinv_v (fs := _) hw_140 rfl rfl rfl rfl) rfl rfl hk_156 ?_
        show Zr sc 88 71 [zp a0, zj x1, zj x2, zj r_44, zj (min x2 r_138)] [zj r_157] w_155 ov w' c s
        obtain ⟨hr_158, h⟩ := h
        refine Zr_b0 (p := r_157 = 0) rfl rfl (zcmp_0 (cnd := .eq) hr_158) (fun hp => ?_) (fun hp => ?_)
        · replace h := h.1 hp
          show Zr sc 88 96 [zp a0, zj x1, zj x2, zj r_44, zj (min x2 r_138)] [] w_155 ov w' c s
          obtain ⟨h1, h2, h3, h4⟩ := h
          subst h1; subst h2; subst h3; subst h4
          exact Zr_ret (ins := .return_) rfl rfl
        · replace h := h.2 hp
          show Zr sc 88 74 [zp a0, zj x1, zj x2, zj r_44, zj (min x2 r_138)] [] w_155 ov w' c s
          refine Zr_st (q := (75, [zp a0, zj x1, zj x2, zj r_44, zj (min x2 r_138)], [zp a0])) rfl rfl rfl ?_
          show Zr sc 88 75 [zp a0, zj x1, zj x2, zj r_44, zj (min x2 r_138)] [zp a0] w_155 ov w' c s
          refine Zr_st (q := (76, [zp a0, zj x1, zj x2, zj r_44, zj (min x2 r_138)], [zj x1, zp a0])) rfl rfl rfl ?_
          show Zr sc 88 76 [zp a0, zj x1, zj x2, zj r_44, zj (min x2 r_138)] [zj x1, zp a0] w_155 ov w' c s
          obtain ⟨f0_160, f1_161, f2_162, f3_163, f4_164, f5_165, f6_166, f7_167, f8_168, f9_169, f10_170, f11_171, f12_172, f13_173, hw_159, h⟩ := h
          obtain ⟨w_174, hk_175, h⟩ := h
          refine rn_cal0 (ins := .invokevirtual 97) (rest := []) rfl rfl rfl rfl (zinv_v (fs := _) hw_159 rfl rfl rfl rfl) rfl rfl hk_175 ?_
          show Zr sc 88 79 [zp a0, zj x1, zj x2, zj r_44, zj (min x2 r_138)] [] w_174 ov w' c s
          refine Zr_st (q := (80, [zp a0, zj x1, zj x2, zj r_44, zj (min x2 r_138)], [zp a0])) rfl rfl rfl ?_
          show Zr sc 88 80 [zp a0, zj x1, zj x2, zj r_44, zj (min x2 r_138)] [zp a0] w_174 ov w' c s
          obtain ⟨f0_177, f1_178, f2_179, f3_180, f4_181, f5_182, f6_183, f7_184, f8_185, f9_186, f10_187, f11_188, f12_189, f13_190, hw_176, h⟩ := h
          refine rl_gf rfl hw_176 rfl rfl ?_
          show Zr sc 88 83 [zp a0, zj x1, zj x2, zj r_44, zj (min x2 r_138)] [zp f0_177] w_174 ov w' c s
          refine rl_bi rfl (by decide) ?_
          show Zr sc 88 85 [zp a0, zj x1, zj x2, zj r_44, zj (min x2 r_138)] [zj 80, zp f0_177] w_174 ov w' c s
          refine Zr_st (q := (86, [zp a0, zj x1, zj x2, zj r_44, zj (min x2 r_138)], [zj x1, zj 80, zp f0_177])) rfl rfl rfl ?_
          show Zr sc 88 86 [zp a0, zj x1, zj x2, zj r_44, zj (min x2 r_138)] [zj x1, zj 80, zp f0_177] w_174 ov w' c s
          obtain ⟨f0_192, f1_193, f2_194, f3_195, f4_196, f5_197, hw_191, h⟩ := h
          obtain ⟨w_198, hk_199, h⟩ := h
          refine rn_cal0 (ins := .invokevirtual 192) (rest := []) rfl rfl rfl rfl (zinv_v (fs := _) hw_191 rfl rfl rfl rfl) rfl rfl hk_199 ?_
          show Zr sc 88 89 [zp a0, zj x1, zj x2, zj r_44, zj (min x2 r_138)] [] w_198 ov w' c s
          refine Zr_st (q := (90, [zp a0, zj x1, zj x2, zj r_44, zj (min x2 r_138)], [zp a0])) rfl rfl rfl ?_
          show Zr sc 88 90 [zp a0, zj x1, zj x2, zj r_44, zj (min x2 r_138)] [zp a0] w_198 ov w' c s
          refine rl_ic rfl ?_
          show Zr sc 88 91 [zp a0, zj x1, zj x2, zj r_44, zj (min x2 r_138)] [zj 3, zp a0] w_198 ov w' c s
          refine Zr_st (q := (93, [zp a0, zj x1, zj x2, zj r_44, zj (min x2 r_138)], [zj (min x2 r_138), zj 3, zp a0])) rfl rfl rfl ?_
          show Zr sc 88 93 [zp a0, zj x1, zj x2, zj r_44, zj (min x2 r_138)] [zj (min x2 r_138), zj 3, zp a0] w_198 ov w' c s
          obtain ⟨f0_201, f1_202, f2_203, f3_204, f4_205, f5_206, f6_207, f7_208, f8_209, f9_210, f10_211, f11_212, f12_213, f13_214, hw_200, h⟩ := h
          obtain ⟨w_215, hk_216, h⟩ := h
          refine rn_cal0 (ins := .invokevirtual 169) (rest := []) rfl rfl rfl rfl (zinv_v (fs := _) hw_200 rfl rfl rfl rfl) rfl rfl hk_216 ?_
          show Zr sc 88 96 [zp a0, zj x1, zj x2, zj r_44, zj (min x2 r_138)] [] w_215 ov w' c s
          obtain ⟨h1, h2, h3, h4⟩ := h
          subst h1; subst h2; subst h3; subst h4
          exact Zr_ret (ins := .return_) rfl rfl
      · replace h := h.2 hp
        show Zr sc 88 39 [zp a0, zj x1, zj x2, zj r_44, zmk] [] w_110 ov w' c s
        refine Zr_st (q := (40, [zp a0, zj x1, zj x2, zj r_44, zmk], [zp a0])) rfl rfl rfl ?_
        show Zr sc 88 40 [zp a0, zj x1, zj x2, zj r_44, zmk] [zp a0] w_110 ov w' c s
        obtain ⟨f0_218, f1_219, f2_220, f3_221, f4_222, f5_223, f6_224, f7_225, f8_226, f9_227, f10_228, f11_229, f12_230, f13_231, hw_217, h⟩ := h
        refine rl_gf rfl hw_217 rfl rfl ?_
        show Zr sc 88 43 [zp a0, zj x1, zj x2, zj r_44, zmk] [zp f0_218] w_110 ov w' c s
        refine Zr_st (q := (44, [zp a0, zj x1, zj x2, zj r_44, zmk], [zj x1, zp f0_218])) rfl rfl rfl ?_
        show Zr sc 88 44 [zp a0, zj x1, zj x2, zj r_44, zmk] [zj x1, zp f0_218] w_110 ov w' c s
        refine Zr_st (q := (45, [zp a0, zj x1, zj x2, zj r_44, zmk], [zj x2, zj x1, zp f0_218])) rfl rfl rfl ?_
        show Zr sc 88 45 [zp a0, zj x1, zj x2, zj r_44, zmk] [zj x2, zj x1, zp f0_218] w_110 ov w' c s
        obtain ⟨f0_233, f1_234, f2_235, f3_236, f4_237, f5_238, hw_232, h⟩ := h
        obtain ⟨w_239, hk_240, h⟩ := h
        refine rn_cal0 (ins := .invokevirtual 186) (rest := []) rfl rfl rfl rfl (zinv_v (fs := _) hw_232 rfl rfl rfl rfl) rfl rfl hk_240 ?_
        show Zr sc 88 48 [zp a0, zj x1, zj x2, zj r_44, zmk] [] w_239 ov w' c s
        obtain ⟨h1, h2, h3, h4⟩ := h
        subst h1; subst h2; subst h3; subst h4
        exact Zr_ret (ins := .return_) rfl rfl
  · replace h := h.2 hp
    show Zr sc 88 11 [zp a0, zj x1, zj x2, zmk, zmk] [] w_23 ov w' c s
    obtain ⟨h1, h2, h3, h4⟩ := h
    subst h1; subst h2; subst h3; subst h4
    exact Zr_ret (ins := .return_) rfl rfl

-- HeapwrightLab$Fits.stretches(II)Z
set_option maxRecDepth 100000 in
theorem V89_0 {sc : List Value} {w w' : List zE} {ov : Option Value} {c s : Nat} {a0 : Nat} {x1 : Int} {x2 : Int} (h : (∃ f0_2 : Nat, ∃ f1_3 : Nat, ∃ f2_4 : Int, ∃ f3_5 : Int, ∃ f4_6 : Int, ∃ f5_7 : Int, ∃ f6_8 : Int, ∃ f7_9 : Nat, ∃ f8_10 : Nat, ∃ f9_11 : Int, ∃ f10_12 : Int, ∃ f11_13 : Int, ∃ f12_14 : Int, w[a0]? = some (zob 2 [zp f0_2, zp f1_3, zj f2_4, zj f3_5, zj f4_6, zj f5_7, zj f6_8, zp f7_9, zp f8_10, zj f9_11, zj f10_12, zj f11_13, zj f12_14]) ∧ (∃ f0_16 : Nat, ∃ f1_17 : Nat, ∃ f2_18 : Nat, ∃ f3_19 : Nat, ∃ f4_20 : Int, ∃ f5_21 : Int, w[f0_2]? = some (zob 0 [zp f0_16, zp f1_17, zp f2_18, zp f3_19, zj f4_20, zj f5_21]) ∧ (∃ r_24 : Int, ∃ w_22 : List zE, Zc sc 16 [zp f0_2, zj x1] w (some (zj r_24)) w_22 0 0 ∧ (∃ f0_26 : Nat, ∃ f1_27 : Nat, ∃ f2_28 : Int, ∃ f3_29 : Int, ∃ f4_30 : Int, ∃ f5_31 : Int, ∃ f6_32 : Int, ∃ f7_33 : Nat, ∃ f8_34 : Nat, ∃ f9_35 : Int, ∃ f10_36 : Int, ∃ f11_37 : Int, ∃ f12_38 : Int, w_22[a0]? = some (zob 2 [zp f0_26, zp f1_27, zj f2_28, zj f3_29, zj f4_30, zj f5_31, zj f6_32, zp f7_33, zp f8_34, zj f9_35, zj f10_36, zj f11_37, zj f12_38]) ∧ (∃ f0_40 : Nat, ∃ f1_41 : Nat, ∃ f2_42 : Nat, ∃ f3_43 : Nat, ∃ f4_44 : Int, ∃ f5_45 : Int, w_22[f0_26]? = some (zob 0 [zp f0_40, zp f1_41, zp f2_42, zp f3_43, zj f4_44, zj f5_45]) ∧ (∃ r_48 : Int, ∃ w_46 : List zE, Zc sc 13 [zp f0_26, zj x1] w_22 (some (zj r_48)) w_46 0 0 ∧ ((zrg (x2 - r_48)) ∧ ((0 ≤ (x2 - r_48) → (∃ f0_51 : Nat, ∃ f1_52 : Nat, ∃ f2_53 : Int, ∃ f3_54 : Int, ∃ f4_55 : Int, ∃ f5_56 : Int, ∃ f6_57 : Int, ∃ f7_58 : Nat, ∃ f8_59 : Nat, ∃ f9_60 : Int, ∃ f10_61 : Int, ∃ f11_62 : Int, ∃ f12_63 : Int, w_46[a0]? = some (zob 2 [zp f0_51, zp f1_52, zj f2_53, zj f3_54, zj f4_55, zj f5_56, zj f6_57, zp f7_58, zp f8_59, zj f9_60, zj f10_61, zj f11_62, zj f12_63]) ∧ (∃ f0_65 : Nat, ∃ f1_66 : Nat, ∃ f2_67 : Int, w_46[f1_52]? = some (zob 3 [zp f0_65, zp f1_66, zj f2_67]) ∧ (∃ r_70 : Int, ∃ w_68 : List zE, Zc sc 47 [zp f1_52, zj r_24] w_46 (some (zj r_70)) w_68 0 0 ∧ (∃ f0_72 : Nat, ∃ f1_73 : Nat, ∃ f2_74 : Int, ∃ f3_75 : Int, ∃ f4_76 : Int, ∃ f5_77 : Int, ∃ f6_78 : Int, ∃ f7_79 : Nat, ∃ f8_80 : Nat, ∃ f9_81 : Int, ∃ f10_82 : Int, ∃ f11_83 : Int, ∃ f12_84 : Int, w_68[a0]? = some (zob 2 [zp f0_72, zp f1_73, zj f2_74, zj f3_75, zj f4_76, zj f5_77, zj f6_78, zp f7_79, zp f8_80, zj f9_81, zj f10_82, zj f11_83, zj f12_84]) ∧ (∃ f0_86 : Nat, ∃ f1_87 : Nat, ∃ f2_88 : Int, w_68[f1_73]? = some (zob 3 [zp f0_86, zp f1_87, zj f2_88]) ∧ (∃ r_91 : Int, ∃ w_89 : List zE, Zc sc 24 [zp f1_73, zj r_70] w_68 (some (zj r_91)) w_89 0 0 ∧ ((zrg r_91 ∧ zrg r_24) ∧ ((r_91 ≠ r_24 → (ov = some (zj 0) ∧ w' = w_89 ∧ c = 0 ∧ s = 0)) ∧ (¬ (r_91 ≠ r_24) → (∃ f0_94 : Nat, ∃ f1_95 : Nat, ∃ f2_96 : Int, ∃ f3_97 : Int, ∃ f4_98 : Int, ∃ f5_99 : Int, ∃ f6_100 : Int, ∃ f7_101 : Nat, ∃ f8_102 : Nat, ∃ f9_103 : Int, ∃ f10_104 : Int, ∃ f11_105 : Int, ∃ f12_106 : Int, w_89[a0]? = some (zob 2 [zp f0_94, zp f1_95, zj f2_96, zj f3_97, zj f4_98, zj f5_99, zj f6_100, zp f7_101, zp f8_102, zj f9_103, zj f10_104, zj f11_105, zj f12_106]) ∧ (∃ f0_108 : Nat, ∃ f1_109 : Nat, ∃ f2_110 : Int, w_89[f1_95]? = some (zob 3 [zp f0_108, zp f1_109, zj f2_110]) ∧ (∃ r_113 : Int, ∃ w_111 : List zE, Zc sc 26 [zp f1_95, zj r_70] w_89 (some (zj r_113)) w_111 0 0 ∧ ((zrg r_113 ∧ zrg (x2 - r_48)) ∧ (((x2 - r_48) ≤ r_113 → (∃ f0_116 : Nat, ∃ f1_117 : Nat, ∃ f2_118 : Int, ∃ f3_119 : Int, ∃ f4_120 : Int, ∃ f5_121 : Int, ∃ f6_122 : Int, ∃ f7_123 : Nat, ∃ f8_124 : Nat, ∃ f9_125 : Int, ∃ f10_126 : Int, ∃ f11_127 : Int, ∃ f12_128 : Int, w_111[a0]? = some (zob 2 [zp f0_116, zp f1_117, zj f2_118, zj f3_119, zj f4_120, zj f5_121, zj f6_122, zp f7_123, zp f8_124, zj f9_125, zj f10_126, zj f11_127, zj f12_128]) ∧ (∃ f0_130 : Nat, ∃ f1_131 : Nat, ∃ f2_132 : Int, w_111[f1_117]? = some (zob 3 [zp f0_130, zp f1_131, zj f2_132]) ∧ (∃ r_135 : Int, ∃ w_133 : List zE, Zc sc 26 [zp f1_117, zj r_70] w_111 (some (zj r_135)) w_133 0 0 ∧ (∃ f0_137 : Nat, ∃ f1_138 : Nat, ∃ f2_139 : Int, ∃ f3_140 : Int, ∃ f4_141 : Int, ∃ f5_142 : Int, ∃ f6_143 : Int, ∃ f7_144 : Nat, ∃ f8_145 : Nat, ∃ f9_146 : Int, ∃ f10_147 : Int, ∃ f11_148 : Int, ∃ f12_149 : Int, w_133[a0]? = some (zob 2 [zp f0_137, zp f1_138, zj f2_139, zj f3_140, zj f4_141, zj f5_142, zj f6_143, zp f7_144, zp f8_145, zj f9_146, zj f10_147, zj f11_148, zj f12_149]) ∧ (∃ r_152 : Int, ∃ w_150 : List zE, Zc sc 66 [zp a0, zj r_135, zj (x2 - r_48)] w_133 (some (zj r_152)) w_150 0 0 ∧ (∃ f0_154 : Nat, ∃ f1_155 : Nat, ∃ f2_156 : Int, ∃ f3_157 : Int, ∃ f4_158 : Int, ∃ f5_159 : Int, ∃ f6_160 : Int, ∃ f7_161 : Nat, ∃ f8_162 : Nat, ∃ f9_163 : Int, ∃ f10_164 : Int, ∃ f11_165 : Int, ∃ f12_166 : Int, w_150[a0]? = some (zob 2 [zp f0_154, zp f1_155, zj f2_156, zj f3_157, zj f4_158, zj f5_159, zj f6_160, zp f7_161, zp f8_162, zj f9_163, zj f10_164, zj f11_165, zj f12_166]) ∧ (∃ w_167 : List zE, Zc sc 64 [zp a0, zj 1, zj r_152] w_150 none w_167 0 0 ∧ (∃ f0_170 : Nat, ∃ f1_171 : Nat, ∃ f2_172 : Int, ∃ f3_173 : Int, ∃ f4_174 : Int, ∃ f5_175 : Int, ∃ f6_176 : Int, ∃ f7_177 : Nat, ∃ f8_178 : Nat, ∃ f9_179 : Int, ∃ f10_180 : Int, ∃ f11_181 : Int, ∃ f12_182 : Int, w_167[a0]? = some (zob 2 [zp f0_170, zp f1_171, zj f2_172, zj f3_173, zj f4_174, zj f5_175, zj f6_176, zp f7_177, zp f8_178, zj f9_179, zj f10_180, zj f11_181, zj f12_182]) ∧ (∃ f0_184 : Nat, ∃ f1_185 : Nat, ∃ f2_186 : Nat, ∃ f3_187 : Nat, ∃ f4_188 : Int, ∃ f5_189 : Int, w_167[f0_170]? = some (zob 0 [zp f0_184, zp f1_185, zp f2_186, zp f3_187, zj f4_188, zj f5_189]) ∧ (∃ w_190 : List zE, Zc sc 90 [zp f0_170, zj x1, zj x2] w_167 none w_190 0 0 ∧ (∃ f0_193 : Nat, ∃ f1_194 : Nat, ∃ f2_195 : Int, ∃ f3_196 : Int, ∃ f4_197 : Int, ∃ f5_198 : Int, ∃ f6_199 : Int, ∃ f7_200 : Nat, ∃ f8_201 : Nat, ∃ f9_202 : Int, ∃ f10_203 : Int, ∃ f11_204 : Int, ∃ f12_205 : Int, w_190[a0]? = some (zob 2 [zp f0_193, zp f1_194, zj f2_195, zj f3_196, zj f4_197, zj f5_198, zj f6_199, zp f7_200, zp f8_201, zj f9_202, zj f10_203, zj f11_204, zj f12_205]) ∧ (∃ w_206 : List zE, Zc sc 69 [zp a0] w_190 none w_206 0 0 ∧ (ov = some (zj 1) ∧ w' = w_206 ∧ c = 0 ∧ s = 0)))))))))))))) ∧ (¬ ((x2 - r_48) ≤ r_113) → (ov = some (zj 0) ∧ w' = w_111 ∧ c = 0 ∧ s = 0))))))))))))))))) ∧ (¬ (0 ≤ (x2 - r_48)) → (∃ f0_209 : Nat, ∃ f1_210 : Nat, ∃ f2_211 : Int, ∃ f3_212 : Int, ∃ f4_213 : Int, ∃ f5_214 : Int, ∃ f6_215 : Int, ∃ f7_216 : Nat, ∃ f8_217 : Nat, ∃ f9_218 : Int, ∃ f10_219 : Int, ∃ f11_220 : Int, ∃ f12_221 : Int, w_46[a0]? = some (zob 2 [zp f0_209, zp f1_210, zj f2_211, zj f3_212, zj f4_213, zj f5_214, zj f6_215, zp f7_216, zp f8_217, zj f9_218, zj f10_219, zj f11_220, zj f12_221]) ∧ (∃ f0_223 : Nat, ∃ f1_224 : Nat, ∃ f2_225 : Nat, ∃ f3_226 : Nat, ∃ f4_227 : Int, ∃ f5_228 : Int, w_46[f0_209]? = some (zob 0 [zp f0_223, zp f1_224, zp f2_225, zp f3_226, zj f4_227, zj f5_228]) ∧ (∃ w_229 : List zE, Zc sc 90 [zp f0_209, zj x1, zj x2] w_46 none w_229 0 0 ∧ (∃ f0_232 : Nat, ∃ f1_233 : Nat, ∃ f2_234 : Int, ∃ f3_235 : Int, ∃ f4_236 : Int, ∃ f5_237 : Int, ∃ f6_238 : Int, ∃ f7_239 : Nat, ∃ f8_240 : Nat, ∃ f9_241 : Int, ∃ f10_242 : Int, ∃ f11_243 : Int, ∃ f12_244 : Int, w_229[a0]? = some (zob 2 [zp f0_232, zp f1_233, zj f2_234, zj f3_235, zj f4_236, zj f5_237, zj f6_238, zp f7_239, zp f8_240, zj f9_241, zj f10_242, zj f11_243, zj f12_244]) ∧ (∃ w_245 : List zE, Zc sc 69 [zp a0] w_229 none w_245 0 0 ∧ (∃ f0_248 : Nat, ∃ f1_249 : Nat, ∃ f2_250 : Int, ∃ f3_251 : Int, ∃ f4_252 : Int, ∃ f5_253 : Int, ∃ f6_254 : Int, ∃ f7_255 : Nat, ∃ f8_256 : Nat, ∃ f9_257 : Int, ∃ f10_258 : Int, ∃ f11_259 : Int, ∃ f12_260 : Int, w_245[a0]? = some (zob 2 [zp f0_248, zp f1_249, zj f2_250, zj f3_251, zj f4_252, zj f5_253, zj f6_254, zp f7_255, zp f8_256, zj f9_257, zj f10_258, zj f11_259, zj f12_260]) ∧ (∃ r_263 : Int, ∃ w_261 : List zE, Zc sc 86 [zp a0, zj (r_24 + (x2 - r_48)), zj (-(x2 - r_48))] w_245 (some (zj r_263)) w_261 0 0 ∧ (∃ f0_265 : Nat, ∃ f1_266 : Nat, ∃ f2_267 : Int, ∃ f3_268 : Int, ∃ f4_269 : Int, ∃ f5_270 : Int, ∃ f6_271 : Int, ∃ f7_272 : Nat, ∃ f8_273 : Nat, ∃ f9_274 : Int, ∃ f10_275 : Int, ∃ f11_276 : Int, ∃ f12_277 : Int, w_261[a0]? = some (zob 2 [zp f0_265, zp f1_266, zj f2_267, zj f3_268, zj f4_269, zj f5_270, zj f6_271, zp f7_272, zp f8_273, zj f9_274, zj f10_275, zj f11_276, zj f12_277]) ∧ (∃ w_278 : List zE, Zc sc 64 [zp a0, zj 2, zj r_263] w_261 none w_278 0 0 ∧ (ov = some (zj 1) ∧ w' = w_278 ∧ c = 0 ∧ s = 0)))))))))))))))))))) : Zr sc 89 0 [zp a0, zj x1, zj x2, zmk, zmk, zmk] [] w ov w' c s := by
  refine Zr_st (q := (1, [zp a0, zj x1, zj x2, zmk, zmk, zmk], [zp a0])) rfl rfl rfl ?_
  show Zr sc 89 1 [zp a0, zj x1, zj x2, zmk, zmk, zmk] [zp a0] w ov w' c s
  obtain ⟨f0_2, f1_3, f2_4, f3_5, f4_6, f5_7, f6_8, f7_9, f8_10, f9_11, f10_12, f11_13, f12_14, hw_1, h⟩ := h
  refine rl_gf rfl hw_1 rfl rfl ?_
  show Zr sc 89 4 [zp a0, zj x1, zj x2, zmk, zmk, zmk] [zp f0_2] w ov w' c s
  refine Zr_st (q := (5, [zp a0, zj x1, zj x2, zmk, zmk, zmk], [zj x1, zp f0_2])) rfl rfl rfl ?_
  show Zr sc 89 5 [zp a0, zj x1, zj x2, zmk, zmk, zmk] [zj x1, zp f0_2] w ov w' c s
  obtain ⟨f0_16, f1_17, f2_18, f3_19, f4_20, f5_21, hw_15, h⟩ := h
  obtain ⟨r_24, w_22, hk_23, h⟩ := h
  refine rn_cal0 (ins := .invokevirtual 73) (rest := []) rfl rfl rfl rfl (zinv_v (fs := _) hw_15 rfl rfl rfl rfl) rfl rfl hk_23 ?_
  show Zr sc 89 8 [zp a0, zj x1, zj x2, zmk, zmk, zmk] [zj r_24] w_22 ov w' c s
  refine Zr_st (q := (9, [zp a0, zj x1, zj x2, zj r_24, zmk, zmk], [])) rfl rfl rfl ?_
  show Zr sc 89 9 [zp a0, zj x1, zj x2, zj r_24, zmk, zmk] [] w_22 ov w' c s
  refine Zr_st (q := (10, [zp a0, zj x1, zj x2, zj r_24, zmk, zmk], [zj x2])) rfl rfl rfl ?_
  show Zr sc 89 10 [zp a0, zj x1, zj x2, zj r_24, zmk, zmk] [zj x2] w_22 ov w' c s
  refine Zr_st (q := (11, [zp a0, zj x1, zj x2, zj r_24, zmk, zmk], [zp a0, zj x2])) rfl rfl rfl ?_
  show Zr sc 89 11 [zp a0, zj x1, zj x2, zj r_24, zmk, zmk] [zp a0, zj x2] w_22 ov w' c s
  obtain ⟨f0_26, f1_27, f2_28, f3_29, f4_30, f5_31, f6_32, f7_33, f8_34, f9_35, f10_36, f11_37, f12_38, hw_25, h⟩ := h
  refine rl_gf rfl hw_25 rfl rfl ?_
  show Zr sc 89 14 [zp a0, zj x1, zj x2, zj r_24, zmk, zmk] [zp f0_26, zj x2] w_22 ov w' c s
  refine Zr_st (q := (15, [zp a0, zj x1, zj x2, zj r_24, zmk, zmk], [zj x1, zp f0_26, zj x2])) rfl rfl rfl ?_
  show Zr sc 89 15 [zp a0, zj x1, zj x2, zj r_24, zmk, zmk] [zj x1, zp f0_26, zj x2] w_22 ov w' c s
  obtain ⟨f0_40, f1_41, f2_42, f3_43, f4_44, f5_45, hw_39, h⟩ := h
  obtain ⟨r_48, w_46, hk_47, h⟩ := h
  refine rn_cal0 (ins := .invokevirtual 78) (rest := [zj x2]) rfl rfl rfl rfl (zinv_v (fs := _) hw_39 rfl rfl rfl rfl) rfl rfl hk_47 ?_
  show Zr sc 89 18 [zp a0, zj x1, zj x2, zj r_24, zmk, zmk] [zj r_48, zj x2] w_46 ov w' c s
  refine rl_sub rfl ?_
  show Zr sc 89 19 [zp a0, zj x1, zj x2, zj r_24, zmk, zmk] [zj (x2 - r_48)] w_46 ov w' c s
  refine Zr_st (q := (21, [zp a0, zj x1, zj x2, zj r_24, zj (x2 - r_48), zmk], [])) rfl rfl rfl ?_
  show Zr sc 89 21 [zp a0, zj x1, zj x2, zj r_24, zj (x2 - r_48), zmk] [] w_46 ov w' c s
  refine Zr_st (q := (23, [zp a0, zj x1, zj x2, zj r_24, zj (x2 - r_48), zmk], [zj (x2 - r_48)])) rfl rfl rfl ?_
  show Zr sc 89 23 [zp a0, zj x1, zj x2, zj r_24, zj (x2 - r_48), zmk] [zj (x2 - r_48)] w_46 ov w' c s
  obtain ⟨hr_49, h⟩ := h
  refine Zr_b0 (p := 0 ≤ (x2 - r_48)) rfl rfl (zcmp_0 (cnd := .ge) hr_49) (fun hp => ?_) (fun hp => ?_)
  · replace h := h.1 hp
    show Zr sc 89 57 [zp a0, zj x1, zj x2, zj r_24, zj (x2 - r_48), zmk] [] w_46 ov w' c s
    refine Zr_st (q := (58, [zp a0, zj x1, zj x2, zj r_24, zj (x2 - r_48), zmk], [zp a0])) rfl rfl rfl ?_
    show Zr sc 89 58 [zp a0, zj x1, zj x2, zj r_24, zj (x2 - r_48), zmk] [zp a0] w_46 ov w' c s
    obtain ⟨f0_51, f1_52, f2_53, f3_54, f4_55, f5_56, f6_57, f7_58, f8_59, f9_60, f10_61, f11_62, f12_63, hw_50, h⟩ := h
    refine rl_gf rfl hw_50 rfl rfl ?_
    show Zr sc 89 61 [zp a0, zj x1, zj x2, zj r_24, zj (x2 - r_48), zmk] [zp f1_52] w_46 ov w' c s
    refine Zr_st (q := (62, [zp a0, zj x1, zj x2, zj r_24, zj (x2 - r_48), zmk], [zj r_24, zp f1_52])) rfl rfl rfl ?_
    show Zr sc 89 62 [zp a0, zj x1, zj x2, zj r_24, zj (x2 - r_48), zmk] [zj r_24, zp f1_52] w_46 ov w' c s
    obtain ⟨f0_65, f1_66, f2_67, hw_64, h⟩ := h
    obtain ⟨r_70, w_68, hk_69, h⟩ := h
    refine rn_cal0 (ins := .invokevirtual 44) (rest := []) rfl rfl rfl rfl (zinv_v (fs := _) hw_64 rfl rfl rfl rfl) rfl rfl hk_69 ?_
    show Zr sc 89 65 [zp a0, zj x1, zj x2, zj r_24, zj (x2 - r_48), zmk] [zj r_70] w_68 ov w' c s
    refine Zr_st (q := (67, [zp a0, zj x1, zj x2, zj r_24, zj (x2 - r_48), zj r_70], [])) rfl rfl rfl ?_
    show Zr sc 89 67 [zp a0, zj x1, zj x2, zj r_24, zj (x2 - r_48), zj r_70] [] w_68 ov w' c s
    refine Zr_st (q := (68, [zp a0, zj x1, zj x2, zj r_24, zj (x2 - r_48), zj r_70], [zp a0])) rfl rfl rfl ?_
    show Zr sc 89 68 [zp a0, zj x1, zj x2, zj r_24, zj (x2 - r_48), zj r_70] [zp a0] w_68 ov w' c s
    obtain ⟨f0_72, f1_73, f2_74, f3_75, f4_76, f5_77, f6_78, f7_79, f8_80, f9_81, f10_82, f11_83, f12_84, hw_71, h⟩ := h
    refine rl_gf rfl hw_71 rfl rfl ?_
    show Zr sc 89 71 [zp a0, zj x1, zj x2, zj r_24, zj (x2 - r_48), zj r_70] [zp f1_73] w_68 ov w' c s
    refine Zr_st (q := (73, [zp a0, zj x1, zj x2, zj r_24, zj (x2 - r_48), zj r_70], [zj r_70, zp f1_73])) rfl rfl rfl ?_
    show Zr sc 89 73 [zp a0, zj x1, zj x2, zj r_24, zj (x2 - r_48), zj r_70] [zj r_70, zp f1_73] w_68 ov w' c s
    obtain ⟨f0_86, f1_87, f2_88, hw_85, h⟩ := h
    obtain ⟨r_91, w_89, hk_90, h⟩ := h
    refine rn_cal0 (ins := .invokevirtual 63) (rest := []) rfl rfl rfl rfl (zinv_v (fs := _) hw_85 rfl rfl rfl rfl) rfl rfl hk_90 ?_
    show Zr sc 89 76 [zp a0, zj x1, zj x2, zj r_24, zj (x2 - r_48), zj r_70] [zj r_91] w_89 ov w' c s
    refine Zr_st (q := (77, [zp a0, zj x1, zj x2, zj r_24, zj (x2 - r_48), zj r_70], [zj r_24, zj r_91])) rfl rfl rfl ?_
    show Zr sc 89 77 [zp a0, zj x1, zj x2, zj r_24, zj (x2 - r_48), zj r_70] [zj r_24, zj r_91] w_89 ov w' c s
    obtain ⟨hr_92, h⟩ := h
    refine Zr_br (p := r_91 ≠ r_24) rfl rfl (zcmp_j (cnd := .ne) hr_92.1 hr_92.2) (fun hp => ?_) (fun hp => ?_)
    · replace h := h.1 hp
      show Zr sc 89 94 [zp a0, zj x1, zj x2, zj r_24, zj (x2 - r_48), zj r_70] [] w_89 ov w' c s
      refine rl_ic rfl ?_
      show Zr sc 89 95 [zp a0, zj x1, zj x2, zj r_24, zj (x2 - r_48), zj r_70] [zj 0] w_89 ov w' c s
      obtain ⟨h1, h2, h3, h4⟩ := h
      subst h1; subst h2; subst h3; subst h4
      exact Zr_ret (ins := .ireturn) rfl rfl
    · replace h := h.2 hp
      show Zr sc 89 80 [zp a0, zj x1, zj x2, zj r_24, zj (x2 - r_48), zj r_70] [] w_89 ov w' c s
      refine Zr_st (q := (81, [zp a0, zj x1, zj x2, zj r_24, zj (x2 - r_48), zj r_70], [zp a0])) rfl rfl rfl ?_
      show Zr sc 89 81 [zp a0, zj x1, zj x2, zj r_24, zj (x2 - r_48), zj r_70] [zp a0] w_89 ov w' c s
      obtain ⟨f0_94, f1_95, f2_96, f3_97, f4_98, f5_99, f6_100, f7_101, f8_102, f9_103, f10_104, f11_105, f12_106, hw_93, h⟩ := h
      refine rl_gf rfl hw_93 rfl rfl ?_
      show Zr sc 89 84 [zp a0, zj x1, zj x2, zj r_24, zj (x2 - r_48), zj r_70] [zp f1_95] w_89 ov w' c s
      refine Zr_st (q := (86, [zp a0, zj x1, zj x2, zj r_24, zj (x2 - r_48), zj r_70], [zj r_70, zp f1_95])) rfl rfl rfl ?_
      show Zr sc 89 86 [zp a0, zj x1, zj x2, zj r_24, zj (x2 - r_48), zj r_70] [zj r_70, zp f1_95] w_89 ov w' c s
      obtain ⟨f0_108, f1_109, f2_110, hw_107, h⟩ := h
      obtain ⟨r_113, w_111, hk_112, h⟩ := h
      refine rn_cal0 (ins := .invokevirtual 66) (rest := []) rfl rfl rfl rfl (zinv_v (fs := _) hw_107 rfl rfl rfl rfl) rfl rfl hk_112 ?_
      show Zr sc 89 89 [zp a0, zj x1, zj x2, zj r_24, zj (x2 - r_48), zj r_70] [zj r_113] w_111 ov w' c s
      refine Zr_st (q := (91, [zp a0, zj x1, zj x2, zj r_24, zj (x2 - r_48), zj r_70], [zj (x2 - r_48), zj r_113])) rfl rfl rfl ?_
      show Zr sc 89 91 [zp a0, zj x1, zj x2, zj r_24, zj (x2 - r_48), zj r_70] [zj (x2 - r_48), zj r_113] w_111 ov w' c s
      obtain ⟨hr_114, h⟩ := h
      refine Zr_br (p := (x2 - r_48) ≤ r_113) rfl rfl (zcmp_j (cnd := .ge) hr_114.1 hr_114.2) (fun hp => ?_) (fun hp => ?_)
      · replace h := h.1 hp
        show Zr sc 89 96 [zp a0, zj x1, zj x2, zj r_24, zj (x2 - r_48), zj r_70] [] w_111 ov w' c s
        refine Zr_st (q := (97, [zp a0, zj x1, zj x2, zj r_24, zj (x2 - r_48), zj r_70], [zp a0])) rfl rfl rfl ?_
        show Zr sc 89 97 [zp a0, zj x1, zj x2, zj r_24, zj (x2 - r_48), zj r_70] [zp a0] w_111 ov w' c s
        refine rl_ic rfl ?_
        show Zr sc 89 98 [zp a0, zj x1, zj x2, zj r_24, zj (x2 - r_48), zj r_70] [zj 1, zp a0] w_111 ov w' c s
        refine Zr_st (q := (99, [zp a0, zj x1, zj x2, zj r_24, zj (x2 - r_48), zj r_70], [zp a0, zj 1, zp a0])) rfl rfl rfl ?_
        show Zr sc 89 99 [zp a0, zj x1, zj x2, zj r_24, zj (x2 - r_48), zj r_70] [zp a0, zj 1, zp a0] w_111 ov w' c s
        refine Zr_st (q := (100, [zp a0, zj x1, zj x2, zj r_24, zj (x2 - r_48), zj r_70], [zp a0, zp a0, zj 1, zp a0])) rfl rfl rfl ?_
        show Zr sc 89 100 [zp a0, zj x1, zj x2, zj r_24, zj (x2 - r_48), zj r_70] [zp a0, zp a0, zj 1, zp a0] w_111 ov w' c s
        obtain ⟨f0_116, f1_117, f2_118, f3_119, f4_120, f5_121, f6_122, f7_123, f8_124, f9_125, f10_126, f11_127, f12_128, hw_115, h⟩ := h
        refine rl_gf rfl hw_115 rfl rfl ?_
        show Zr sc 89 103 [zp a0, zj x1, zj x2, zj r_24, zj (x2 - r_48), zj r_70] [zp f1_117, zp a0, zj 1, zp a0] w_111 ov w' c s
        refine Zr_st (q := (105, [zp a0, zj x1, zj x2, zj r_24, zj (x2 - r_48), zj r_70], [zj r_70, zp f1_117, zp a0, zj 1, zp a0])) rfl rfl rfl ?_
        show Zr sc 89 105 [zp a0, zj x1, zj x2, zj r_24, zj (x2 - r_48), zj r_70] [zj r_70, zp f1_117, zp a0, zj 1, zp a0] w_111 ov w' c s
        obtain ⟨f0_130, f1_131, f2_132, hw_129, h⟩ := h
        obtain ⟨r_135, w_133, hk_134, h⟩ := h
        refine rn_cal0 (ins := .invokevirtual 66) (rest := [zp a0, zj 1, zp a0]) rfl rfl rfl rfl (zinv_v (fs := _) hw_129 rfl rfl rfl rfl) rfl rfl hk_134 ?_
        show Zr sc 89 108 [zp a0, zj x1, zj x2, zj r_24, zj (x2 - r_48), zj r_70] [zj r_135, zp a0, zj 1, zp a0] w_133 ov w' c s
        refine Zr_st (q := (110, [zp a0, zj x1, zj x2, zj r_24, zj (x2 - r_48), zj r_70], [zj (x2 - r_48), zj r_135, zp a0, zj 1, zp a0])) rfl rfl rfl ?_
        show Zr sc 89 110 [zp a0, zj x1, zj x2, zj r_24, zj (x2 - r_48), zj r_70] [zj (x2 - r_48), zj r_135, zp a0, zj 1, zp a0] w_133 ov w' c s
        obtain ⟨f0_137, f1_138, f2_139, f3_140, f4_141, f5_142, f6_143, f7_144, f8_145, f9_146, f10_147, f11_148, f12_149, hw_136, h⟩ := h
        obtain ⟨r_152, w_150, hk_151, h⟩ := h
        refine rn_cal0 (ins := .invokevirtual 94) (rest := [zj 1, zp a0]) rfl rfl rfl rfl (zinv_v (fs := _) hw_136 rfl rfl rfl rfl) rfl rfl hk_151 ?_
        show Zr sc 89 113 [zp a0, zj x1, zj x2, zj r_24, zj (x2 - r_48), zj r_70] [zj r_152, zj 1, zp a0] w_150 ov w' c s
        obtain ⟨f0_154, f1_155, f2_156, f3_157, f4_158, f5_159, f6_160, f7_161, f8_162, f9_163, f10_164, f11_165, f12_166, hw_153, h⟩ := h
        obtain ⟨w_167, hk_168, h⟩ := h
        refine rn_cal0 (ins := .invokevirtual 91) (rest := []) rfl rfl rfl rfl (zinv_v (fs := _) hw_153 rfl rfl rfl rfl) rfl rfl hk_168 ?_
        show Zr sc 89 116 [zp a0, zj x1, zj x2, zj r_24, zj (x2 - r_48), zj r_70] [] w_167 ov w' c s
        refine Zr_st (q := (117, [zp a0, zj x1, zj x2, zj r_24, zj (x2 - r_48), zj r_70], [zp a0])) rfl rfl rfl ?_
        show Zr sc 89 117 [zp a0, zj x1, zj x2, zj r_24, zj (x2 - r_48), zj r_70] [zp a0] w_167 ov w' c s
        obtain ⟨f0_170, f1_171, f2_172, f3_173, f4_174, f5_175, f6_176, f7_177, f8_178, f9_179, f10_180, f11_181, f12_182, hw_169, h⟩ := h
        refine rl_gf rfl hw_169 rfl rfl ?_
        show Zr sc 89 120 [zp a0, zj x1, zj x2, zj r_24, zj (x2 - r_48), zj r_70] [zp f0_170] w_167 ov w' c s
        refine Zr_st (q := (121, [zp a0, zj x1, zj x2, zj r_24, zj (x2 - r_48), zj r_70], [zj x1, zp f0_170])) rfl rfl rfl ?_
        show Zr sc 89 121 [zp a0, zj x1, zj x2, zj r_24, zj (x2 - r_48), zj r_70] [zj x1, zp f0_170] w_167 ov w' c s
        refine Zr_st (q := (122, [zp a0, zj x1, zj x2, zj r_24, zj (x2 - r_48), zj r_70], [zj x2, zj x1, zp f0_170])) rfl rfl rfl ?_
        show Zr sc 89 122 [zp a0, zj x1, zj x2, zj r_24, zj (x2 - r_48), zj r_70] [zj x2, zj x1, zp f0_170] w_167 ov w' c s
        obtain ⟨f0_184, f1_185, f2_186, f3_187, f4_188, f5_189, hw_183, h⟩ := h
        obtain ⟨w_190, hk_191, h⟩ := h
        refine rn_cal0 (ins := .invokevirtual 81) (rest := []) rfl rfl rfl rfl (zinv_v (fs := _) hw_183 rfl rfl rfl rfl) rfl rfl hk_191 ?_
        show Zr sc 89 125 [zp a0, zj x1, zj x2, zj r_24, zj (x2 - r_48), zj r_70] [] w_190 ov w' c s
        refine Zr_st (q := (126, [zp a0, zj x1, zj x2, zj r_24, zj (x2 - r_48), zj r_70], [zp a0])) rfl rfl rfl ?_
        show Zr sc 89 126 [zp a0, zj x1, zj x2, zj r_24, zj (x2 - r_48), zj r_70] [zp a0] w_190 ov w' c s
        obtain ⟨f0_193, f1_194, f2_195, f3_196, f4_197, f5_198, f6_199, f7_200, f8_201, f9_202, f10_203, f11_204, f12_205, hw_192, h⟩ := h
        obtain ⟨w_206, hk_207, h⟩ := h
        refine rn_cal0 (ins := .invokevirtual 84) (rest := []) rfl rfl rfl rfl (zinv_v (fs := _) hw_192 rfl rfl rfl rfl) rfl rfl hk_207 ?_
        show Zr sc 89 129 [zp a0, zj x1, zj x2, zj r_24, zj (x2 - r_48), zj r_70] [] w_206 ov w' c s
        refine rl_ic rfl ?_
        show Zr sc 89 130 [zp a0, zj x1, zj x2, zj r_24, zj (x2 - r_48), zj r_70] [zj 1] w_206 ov w' c s
        obtain ⟨h1, h2, h3, h4⟩ := h
        subst h1; subst h2; subst h3; subst h4
        exact Zr_ret (ins := .ireturn) rfl rfl
      · replace h := h.2 hp
        show Zr sc 89 94 [zp a0, zj x1, zj x2, zj r_24, zj (x2 - r_48), zj r_70] [] w_111 ov w' c s
        refine rl_ic rfl ?_
        show Zr sc 89 95 [zp a0, zj x1, zj x2, zj r_24, zj (x2 - r_48), zj r_70] [zj 0] w_111 ov w' c s
        obtain ⟨h1, h2, h3, h4⟩ := h
        subst h1; subst h2; subst h3; subst h4
        exact Zr_ret (ins := .ireturn) rfl rfl
  · replace h := h.2 hp
    show Zr sc 89 26 [zp a0, zj x1, zj x2, zj r_24, zj (x2 - r_48), zmk] [] w_46 ov w' c s
    refine Zr_st (q := (27, [zp a0, zj x1, zj x2, zj r_24, zj (x2 - r_48), zmk], [zp a0])) rfl rfl rfl ?_
    show Zr sc 89 27 [zp a0, zj x1, zj x2, zj r_24, zj (x2 - r_48), zmk] [zp a0] w_46 ov w' c s
    obtain ⟨f0_209, f1_210, f2_211, f3_212, f4_213, f5_214, f6_215, f7_216, f8_217, f9_218, f10_219, f11_220, f12_221, hw_208, h⟩ := h
    refine rl_gf rfl hw_208 rfl rfl ?_
    show Zr sc 89 30 [zp a0, zj x1, zj x2, zj r_24, zj (x2 - r_48), zmk] [zp f0_209] w_46 ov w' c s
    refine Zr_st (q := (31, [zp a0, zj x1, zj x2, zj r_24, zj (x2 - r_48), zmk], [zj x1, zp f0_209])) rfl rfl rfl ?_
    show Zr sc 89 31 [zp a0, zj x1, zj x2, zj r_24, zj (x2 - r_48), zmk] [zj x1, zp f0_209] w_46 ov w' c s
    refine Zr_st (q := (32, [zp a0, zj x1, zj x2, zj r_24, zj (x2 - r_48), zmk], [zj x2, zj x1, zp f0_209])) rfl rfl rfl ?_
    show Zr sc 89 32 [zp a0, zj x1, zj x2, zj r_24, zj (x2 - r_48), zmk] [zj x2, zj x1, zp f0_209] w_46 ov w' c s
    obtain ⟨f0_223, f1_224, f2_225, f3_226, f4_227, f5_228, hw_222, h⟩ := h
    obtain ⟨w_229, hk_230, h⟩ := h
    refine rn_cal0 (ins := .invokevirtual 81) (rest := []) rfl rfl rfl rfl (zinv_v (fs := _) hw_222 rfl rfl rfl rfl) rfl rfl hk_230 ?_
    show Zr sc 89 35 [zp a0, zj x1, zj x2, zj r_24, zj (x2 - r_48), zmk] [] w_229 ov w' c s
    refine Zr_st (q := (36, [zp a0, zj x1, zj x2, zj r_24, zj (x2 - r_48), zmk], [zp a0])) rfl rfl rfl ?_
    show Zr sc 89 36 [zp a0, zj x1, zj x2, zj r_24, zj (x2 - r_48), zmk] [zp a0] w_229 ov w' c s
    obtain ⟨f0_232, f1_233, f2_234, f3_235, f4_236, f5_237, f6_238, f7_239, f8_240, f9_241, f10_242, f11_243, f12_244, hw_231, h⟩ := h
    obtain ⟨w_245, hk_246, h⟩ := h
    refine rn_cal0 (ins := .invokevirtual 84) (rest := []) rfl rfl rfl rfl (zinv_v (fs := _) hw_231 rfl rfl rfl rfl) rfl rfl hk_246 ?_
    show Zr sc 89 39 [zp a0, zj x1, zj x2, zj r_24, zj (x2 - r_48), zmk] [] w_245 ov w' c s
    refine Zr_st (q := (40, [zp a0, zj x1, zj x2, zj r_24, zj (x2 - r_48), zmk], [zp a0])) rfl rfl rfl ?_
    show Zr sc 89 40 [zp a0, zj x1, zj x2, zj r_24, zj (x2 - r_48), zmk] [zp a0] w_245 ov w' c s
    refine rl_ic rfl ?_
    show Zr sc 89 41 [zp a0, zj x1, zj x2, zj r_24, zj (x2 - r_48), zmk] [zj 2, zp a0] w_245 ov w' c s
    refine Zr_st (q := (42, [zp a0, zj x1, zj x2, zj r_24, zj (x2 - r_48), zmk], [zp a0, zj 2, zp a0])) rfl rfl rfl ?_
    show Zr sc 89 42 [zp a0, zj x1, zj x2, zj r_24, zj (x2 - r_48), zmk] [zp a0, zj 2, zp a0] w_245 ov w' c s
    refine Zr_st (q := (43, [zp a0, zj x1, zj x2, zj r_24, zj (x2 - r_48), zmk], [zj r_24, zp a0, zj 2, zp a0])) rfl rfl rfl ?_
    show Zr sc 89 43 [zp a0, zj x1, zj x2, zj r_24, zj (x2 - r_48), zmk] [zj r_24, zp a0, zj 2, zp a0] w_245 ov w' c s
    refine Zr_st (q := (45, [zp a0, zj x1, zj x2, zj r_24, zj (x2 - r_48), zmk], [zj (x2 - r_48), zj r_24, zp a0, zj 2, zp a0])) rfl rfl rfl ?_
    show Zr sc 89 45 [zp a0, zj x1, zj x2, zj r_24, zj (x2 - r_48), zmk] [zj (x2 - r_48), zj r_24, zp a0, zj 2, zp a0] w_245 ov w' c s
    refine rl_add rfl ?_
    show Zr sc 89 46 [zp a0, zj x1, zj x2, zj r_24, zj (x2 - r_48), zmk] [zj (r_24 + (x2 - r_48)), zp a0, zj 2, zp a0] w_245 ov w' c s
    refine Zr_st (q := (48, [zp a0, zj x1, zj x2, zj r_24, zj (x2 - r_48), zmk], [zj (x2 - r_48), zj (r_24 + (x2 - r_48)), zp a0, zj 2, zp a0])) rfl rfl rfl ?_
    show Zr sc 89 48 [zp a0, zj x1, zj x2, zj r_24, zj (x2 - r_48), zmk] [zj (x2 - r_48), zj (r_24 + (x2 - r_48)), zp a0, zj 2, zp a0] w_245 ov w' c s
    refine rl_neg rfl ?_
    show Zr sc 89 49 [zp a0, zj x1, zj x2, zj r_24, zj (x2 - r_48), zmk] [zj (-(x2 - r_48)), zj (r_24 + (x2 - r_48)), zp a0, zj 2, zp a0] w_245 ov w' c s
    obtain ⟨f0_248, f1_249, f2_250, f3_251, f4_252, f5_253, f6_254, f7_255, f8_256, f9_257, f10_258, f11_259, f12_260, hw_247, h⟩ := h
    obtain ⟨r_263, w_261, hk_262, h⟩ := h
    refine rn_cal0 (ins := .invokevirtual 88) (rest := [zj 2, zp a0]) rfl rfl rfl rfl (zinv_v (fs := _) hw_247 rfl rfl rfl rfl) rfl rfl hk_262 ?_
    show Zr sc 89 52 [zp a0, zj x1, zj x2, zj r_24, zj (x2 - r_48), zmk] [zj r_263, zj 2, zp a0] w_261 ov w' c s
    obtain ⟨f0_265, f1_266, f2_267, f3_268, f4_269, f5_270, f6_271, f7_272, f8_273, f9_274, f10_275, f11_276, f12_277, hw_264, h⟩ := h
    obtain ⟨w_278, hk_279, h⟩ := h
    refine rn_cal0 (ins := .invokevirtual 91) (rest := []) rfl rfl rfl rfl (zinv_v (fs := _) hw_264 rfl rfl rfl rfl) rfl rfl hk_279 ?_
    show Zr sc 89 55 [zp a0, zj x1, zj x2, zj r_24, zj (x2 - r_48), zmk] [] w_278 ov w' c s
    refine rl_ic rfl ?_
    show Zr sc 89 56 [zp a0, zj x1, zj x2, zj r_24, zj (x2 - r_48), zmk] [zj 1] w_278 ov w' c s
    obtain ⟨h1, h2, h3, h4⟩ := h
    subst h1; subst h2; subst h3; subst h4
    exact Zr_ret (ins := .ireturn) rfl rfl

-- HeapwrightLab$Blocks.setRoom(II)V
set_option maxRecDepth 100000 in
theorem V90_0 {sc : List Value} {w w' : List zE} {ov : Option Value} {c s : Nat} {a0 : Nat} {x1 : Int} {x2 : Int} (h : (∃ f0_2 : Nat, ∃ f1_3 : Nat, ∃ f2_4 : Nat, ∃ f3_5 : Nat, ∃ f4_6 : Int, ∃ f5_7 : Int, w[a0]? = some (zob 0 [zp f0_2, zp f1_3, zp f2_4, zp f3_5, zj f4_6, zj f5_7]) ∧ (∃ r_10 : Int, ∃ w_8 : List zE, Zc sc 7 [zp a0, zj x1] w (some (zj r_10)) w_8 0 0 ∧ ((zrg r_10) ∧ ((r_10 = 0 → (ov = none ∧ w' = w_8 ∧ c = 0 ∧ s = 0)) ∧ (¬ (r_10 = 0) → (∃ f0_13 : Nat, ∃ f1_14 : Nat, ∃ f2_15 : Nat, ∃ f3_16 : Nat, ∃ f4_17 : Int, ∃ f5_18 : Int, w_8[a0]? = some (zob 0 [zp f0_13, zp f1_14, zp f2_15, zp f3_16, zj f4_17, zj f5_18]) ∧ (∃ l_21 : List Int, w_8[f2_15]? = some (za l_21) ∧ ((0 ≤ x1 ∧ x1 < (l_21.length : Int) ∧ x1 ≤ 2147483647) ∧ ((a0 ≠ f2_15) ∧ ((0 ≤ x1 ∧ x1 < (l_21.length : Int) ∧ x1 ≤ 2147483647) ∧ (ov = none ∧ w' = ((w_8.set a0 (zob 0 [zp f0_13, zp f1_14, zp f2_15, zp f3_16, zj f4_17, zj (f5_18 + (x2 - (zgi l_21 x1)))])).set f2_15 (za (zsi l_21 x1 x2))) ∧ c = 0 ∧ s = 0)))))))))))) : Zr sc 90 0 [zp a0, zj x1, zj x2] [] w ov w' c s := by
  refine Zr_st (q := (1, [zp a0, zj x1, zj x2], [zp a0])) rfl rfl rfl ?_
  show Zr sc 90 1 [zp a0, zj x1, zj x2] [zp a0] w ov w' c s
  refine Zr_st (q := (2, [zp a0, zj x1, zj x2], [zj x1, zp a0])) rfl rfl rfl ?_
  show Zr sc 90 2 [zp a0, zj x1, zj x2] [zj x1, zp a0] w ov w' c s
  obtain ⟨f0_2, f1_3, f2_4, f3_5, f4_6, f5_7, hw_1, h⟩ := h
  obtain ⟨r_10, w_8, hk_9, h⟩ := h
  refine rn_cal0 (ins := .invokevirtual 37) (rest := []) rfl rfl rfl rfl (zinv_v (fs := _) hw_1 rfl rfl rfl rfl) rfl rfl hk_9 ?_
  show Zr sc 90 5 [zp a0, zj x1, zj x2] [zj r_10] w_8 ov w' c s
  obtain ⟨hr_11, h⟩ := h
  refine Zr_b0 (p := r_10 = 0) rfl rfl (zcmp_0 (cnd := .eq) hr_11) (fun hp => ?_) (fun hp => ?_)
  · replace h := h.1 hp
    show Zr sc 90 32 [zp a0, zj x1, zj x2] [] w_8 ov w' c s
    obtain ⟨h1, h2, h3, h4⟩ := h
    subst h1; subst h2; subst h3; subst h4
    exact Zr_ret (ins := .return_) rfl rfl
  · replace h := h.2 hp
    show Zr sc 90 8 [zp a0, zj x1, zj x2] [] w_8 ov w' c s
    refine Zr_st (q := (9, [zp a0, zj x1, zj x2], [zp a0])) rfl rfl rfl ?_
    show Zr sc 90 9 [zp a0, zj x1, zj x2] [zp a0] w_8 ov w' c s
    refine Zr_st (q := (10, [zp a0, zj x1, zj x2], [zp a0, zp a0])) rfl rfl rfl ?_
    show Zr sc 90 10 [zp a0, zj x1, zj x2] [zp a0, zp a0] w_8 ov w' c s
    obtain ⟨f0_13, f1_14, f2_15, f3_16, f4_17, f5_18, hw_12, h⟩ := h
    refine rl_gf rfl hw_12 rfl rfl ?_
    show Zr sc 90 13 [zp a0, zj x1, zj x2] [zj f5_18, zp a0] w_8 ov w' c s
    refine Zr_st (q := (14, [zp a0, zj x1, zj x2], [zj x2, zj f5_18, zp a0])) rfl rfl rfl ?_
    show Zr sc 90 14 [zp a0, zj x1, zj x2] [zj x2, zj f5_18, zp a0] w_8 ov w' c s
    refine Zr_st (q := (15, [zp a0, zj x1, zj x2], [zp a0, zj x2, zj f5_18, zp a0])) rfl rfl rfl ?_
    show Zr sc 90 15 [zp a0, zj x1, zj x2] [zp a0, zj x2, zj f5_18, zp a0] w_8 ov w' c s
    refine rl_gf rfl hw_12 rfl rfl ?_
    show Zr sc 90 18 [zp a0, zj x1, zj x2] [zp f2_15, zj x2, zj f5_18, zp a0] w_8 ov w' c s
    refine Zr_st (q := (19, [zp a0, zj x1, zj x2], [zj x1, zp f2_15, zj x2, zj f5_18, zp a0])) rfl rfl rfl ?_
    show Zr sc 90 19 [zp a0, zj x1, zj x2] [zj x1, zp f2_15, zj x2, zj f5_18, zp a0] w_8 ov w' c s
    obtain ⟨l_21, hw_20, h⟩ := h
    obtain ⟨hi_19, h⟩ := h
    refine rl_ia rfl hw_20 hi_19.1 hi_19.2.1 hi_19.2.2 ?_
    show Zr sc 90 20 [zp a0, zj x1, zj x2] [zj (zgi l_21 x1), zj x2, zj f5_18, zp a0] w_8 ov w' c s
    refine rl_sub rfl ?_
    show Zr sc 90 21 [zp a0, zj x1, zj x2] [zj (x2 - (zgi l_21 x1)), zj f5_18, zp a0] w_8 ov w' c s
    refine rl_add rfl ?_
    show Zr sc 90 22 [zp a0, zj x1, zj x2] [zj (f5_18 + (x2 - (zgi l_21 x1))), zp a0] w_8 ov w' c s
    refine rl_pf rfl hw_12 rfl rfl rfl ?_
    show Zr sc 90 25 [zp a0, zj x1, zj x2] [] (w_8.set a0 (zob 0 [zp f0_13, zp f1_14, zp f2_15, zp f3_16, zj f4_17, zj (f5_18 + (x2 - (zgi l_21 x1)))])) ov w' c s
    refine Zr_st (q := (26, [zp a0, zj x1, zj x2], [zp a0])) rfl rfl rfl ?_
    show Zr sc 90 26 [zp a0, zj x1, zj x2] [zp a0] (w_8.set a0 (zob 0 [zp f0_13, zp f1_14, zp f2_15, zp f3_16, zj f4_17, zj (f5_18 + (x2 - (zgi l_21 x1)))])) ov w' c s
    refine rl_gf rfl (zw_s hw_12) rfl rfl ?_
    show Zr sc 90 29 [zp a0, zj x1, zj x2] [zp f2_15] (w_8.set a0 (zob 0 [zp f0_13, zp f1_14, zp f2_15, zp f3_16, zj f4_17, zj (f5_18 + (x2 - (zgi l_21 x1)))])) ov w' c s
    refine Zr_st (q := (30, [zp a0, zj x1, zj x2], [zj x1, zp f2_15])) rfl rfl rfl ?_
    show Zr sc 90 30 [zp a0, zj x1, zj x2] [zj x1, zp f2_15] (w_8.set a0 (zob 0 [zp f0_13, zp f1_14, zp f2_15, zp f3_16, zj f4_17, zj (f5_18 + (x2 - (zgi l_21 x1)))])) ov w' c s
    refine Zr_st (q := (31, [zp a0, zj x1, zj x2], [zj x2, zj x1, zp f2_15])) rfl rfl rfl ?_
    show Zr sc 90 31 [zp a0, zj x1, zj x2] [zj x2, zj x1, zp f2_15] (w_8.set a0 (zob 0 [zp f0_13, zp f1_14, zp f2_15, zp f3_16, zj f4_17, zj (f5_18 + (x2 - (zgi l_21 x1)))])) ov w' c s
    obtain ⟨hn_23, h⟩ := h
    obtain ⟨hi_22, h⟩ := h
    refine rl_is rfl (zw_o hn_23 hw_20) hi_22.1 hi_22.2.1 hi_22.2.2 ?_
    show Zr sc 90 32 [zp a0, zj x1, zj x2] [] ((w_8.set a0 (zob 0 [zp f0_13, zp f1_14, zp f2_15, zp f3_16, zj f4_17, zj (f5_18 + (x2 - (zgi l_21 x1)))])).set f2_15 (za (zsi l_21 x1 x2))) ov w' c s
    obtain ⟨h1, h2, h3, h4⟩ := h
    subst h1; subst h2; subst h3; subst h4
    exact Zr_ret (ins := .return_) rfl rfl

-- HeapwrightLab$Memory.stretches(II)Z
set_option maxRecDepth 100000 in
theorem V91_0_1 {sc : List Value} {w w' : List zE} {ov : Option Value} {c s : Nat} {a0 : Nat} {x1 : Int} {x2 : Int} (h : (ov = some (zj 0) ∧ w' = w ∧ c = 0 ∧ s = 0)) : Zr sc 91 0 [zp a0, zj x1, zj x2] [] w ov w' c s := by
  refine rl_ic rfl ?_
  show Zr sc 91 1 [zp a0, zj x1, zj x2] [zj 0] w ov w' c s
  obtain ⟨h1, h2, h3, h4⟩ := h
  subst h1; subst h2; subst h3; subst h4
  exact Zr_ret (ins := .ireturn) rfl rfl

-- HeapwrightLab$Memory.stretches(II)Z
set_option maxRecDepth 100000 in
theorem V91_0_4 {sc : List Value} {w w' : List zE} {ov : Option Value} {c s : Nat} {a0 : Nat} {x1 : Int} {x2 : Int} (h : (ov = some (zj 0) ∧ w' = w ∧ c = 0 ∧ s = 0)) : Zr sc 91 0 [zp a0, zj x1, zj x2] [] w ov w' c s := by
  refine rl_ic rfl ?_
  show Zr sc 91 1 [zp a0, zj x1, zj x2] [zj 0] w ov w' c s
  obtain ⟨h1, h2, h3, h4⟩ := h
  subst h1; subst h2; subst h3; subst h4
  exact Zr_ret (ins := .ireturn) rfl rfl

-- HeapwrightLab$Blocks.setSize(II)V
set_option maxRecDepth 100000 in
theorem V92_0 {sc : List Value} {w w' : List zE} {ov : Option Value} {c s : Nat} {a0 : Nat} {x1 : Int} {x2 : Int} (h : (∃ f0_2 : Nat, ∃ f1_3 : Nat, ∃ f2_4 : Nat, ∃ f3_5 : Nat, ∃ f4_6 : Int, ∃ f5_7 : Int, w[a0]? = some (zob 0 [zp f0_2, zp f1_3, zp f2_4, zp f3_5, zj f4_6, zj f5_7]) ∧ (∃ r_10 : Int, ∃ w_8 : List zE, Zc sc 7 [zp a0, zj x1] w (some (zj r_10)) w_8 0 0 ∧ ((zrg r_10) ∧ ((r_10 = 0 → (ov = none ∧ w' = w_8 ∧ c = 0 ∧ s = 0)) ∧ (¬ (r_10 = 0) → (∃ f0_13 : Nat, ∃ f1_14 : Nat, ∃ f2_15 : Nat, ∃ f3_16 : Nat, ∃ f4_17 : Int, ∃ f5_18 : Int, w_8[a0]? = some (zob 0 [zp f0_13, zp f1_14, zp f2_15, zp f3_16, zj f4_17, zj f5_18]) ∧ (∃ l_21 : List Int, w_8[f1_14]? = some (za l_21) ∧ ((0 ≤ x1 ∧ x1 < (l_21.length : Int) ∧ x1 ≤ 2147483647) ∧ (ov = none ∧ w' = (w_8.set f1_14 (za (zsi l_21 x1 x2))) ∧ c = 0 ∧ s = 0)))))))))) : Zr sc 92 0 [zp a0, zj x1, zj x2] [] w ov w' c s := by
  refine Zr_st (q := (1, [zp a0, zj x1, zj x2], [zp a0])) rfl rfl rfl ?_
  show Zr sc 92 1 [zp a0, zj x1, zj x2] [zp a0] w ov w' c s
  refine Zr_st (q := (2, [zp a0, zj x1, zj x2], [zj x1, zp a0])) rfl rfl rfl ?_
  show Zr sc 92 2 [zp a0, zj x1, zj x2] [zj x1, zp a0] w ov w' c s
  obtain ⟨f0_2, f1_3, f2_4, f3_5, f4_6, f5_7, hw_1, h⟩ := h
  obtain ⟨r_10, w_8, hk_9, h⟩ := h
  refine rn_cal0 (ins := .invokevirtual 37) (rest := []) rfl rfl rfl rfl (zinv_v (fs := _) hw_1 rfl rfl rfl rfl) rfl rfl hk_9 ?_
  show Zr sc 92 5 [zp a0, zj x1, zj x2] [zj r_10] w_8 ov w' c s
  obtain ⟨hr_11, h⟩ := h
  refine Zr_b0 (p := r_10 = 0) rfl rfl (zcmp_0 (cnd := .eq) hr_11) (fun hp => ?_) (fun hp => ?_)
  · replace h := h.1 hp
    show Zr sc 92 15 [zp a0, zj x1, zj x2] [] w_8 ov w' c s
    obtain ⟨h1, h2, h3, h4⟩ := h
    subst h1; subst h2; subst h3; subst h4
    exact Zr_ret (ins := .return_) rfl rfl
  · replace h := h.2 hp
    show Zr sc 92 8 [zp a0, zj x1, zj x2] [] w_8 ov w' c s
    refine Zr_st (q := (9, [zp a0, zj x1, zj x2], [zp a0])) rfl rfl rfl ?_
    show Zr sc 92 9 [zp a0, zj x1, zj x2] [zp a0] w_8 ov w' c s
    obtain ⟨f0_13, f1_14, f2_15, f3_16, f4_17, f5_18, hw_12, h⟩ := h
    refine rl_gf rfl hw_12 rfl rfl ?_
    show Zr sc 92 12 [zp a0, zj x1, zj x2] [zp f1_14] w_8 ov w' c s
    refine Zr_st (q := (13, [zp a0, zj x1, zj x2], [zj x1, zp f1_14])) rfl rfl rfl ?_
    show Zr sc 92 13 [zp a0, zj x1, zj x2] [zj x1, zp f1_14] w_8 ov w' c s
    refine Zr_st (q := (14, [zp a0, zj x1, zj x2], [zj x2, zj x1, zp f1_14])) rfl rfl rfl ?_
    show Zr sc 92 14 [zp a0, zj x1, zj x2] [zj x2, zj x1, zp f1_14] w_8 ov w' c s
    obtain ⟨l_21, hw_20, h⟩ := h
    obtain ⟨hi_19, h⟩ := h
    refine rl_is rfl hw_20 hi_19.1 hi_19.2.1 hi_19.2.2 ?_
    show Zr sc 92 15 [zp a0, zj x1, zj x2] [] (w_8.set f1_14 (za (zsi l_21 x1 x2))) ov w' c s
    obtain ⟨h1, h2, h3, h4⟩ := h
    subst h1; subst h2; subst h3; subst h4
    exact Zr_ret (ins := .return_) rfl rfl

-- HeapwrightLab$Blocks.rename(II)V
set_option maxRecDepth 100000 in
theorem V93_0 {sc : List Value} {w w' : List zE} {ov : Option Value} {c s : Nat} {a0 : Nat} {x1 : Int} {x2 : Int} (h : (∃ f0_2 : Nat, ∃ f1_3 : Nat, ∃ f2_4 : Nat, ∃ f3_5 : Nat, ∃ f4_6 : Int, ∃ f5_7 : Int, w[a0]? = some (zob 0 [zp f0_2, zp f1_3, zp f2_4, zp f3_5, zj f4_6, zj f5_7]) ∧ (∃ r_10 : Int, ∃ w_8 : List zE, Zc sc 7 [zp a0, zj x1] w (some (zj r_10)) w_8 0 0 ∧ ((zrg r_10) ∧ ((r_10 = 0 → (ov = none ∧ w' = w_8 ∧ c = 0 ∧ s = 0)) ∧ (¬ (r_10 = 0) → (∃ f0_13 : Nat, ∃ f1_14 : Nat, ∃ f2_15 : Nat, ∃ f3_16 : Nat, ∃ f4_17 : Int, ∃ f5_18 : Int, w_8[a0]? = some (zob 0 [zp f0_13, zp f1_14, zp f2_15, zp f3_16, zj f4_17, zj f5_18]) ∧ (∃ r_21 : Int, ∃ w_19 : List zE, Zc sc 7 [zp a0, zj x2] w_8 (some (zj r_21)) w_19 0 0 ∧ ((zrg r_21) ∧ ((r_21 ≠ 0 → (ov = none ∧ w' = w_19 ∧ c = 0 ∧ s = 0)) ∧ (¬ (r_21 ≠ 0) → ((zrg x2) ∧ ((x2 < 0 → (ov = none ∧ w' = w_19 ∧ c = 0 ∧ s = 0)) ∧ (¬ (x2 < 0) → (∃ f0_25 : Nat, ∃ f1_26 : Nat, ∃ f2_27 : Nat, ∃ f3_28 : Nat, ∃ f4_29 : Int, ∃ f5_30 : Int, w_19[a0]? = some (zob 0 [zp f0_25, zp f1_26, zp f2_27, zp f3_28, zj f4_29, zj f5_30]) ∧ (∃ l_32 : List Int, w_19[f2_27]? = some (za l_32) ∧ ((zrg x2 ∧ zrg (l_32.length : Int)) ∧ ((x2 < (l_32.length : Int) → (∃ r_36 : Int, ∃ w_34 : List zE, Zc sc 85 [zp a0, zj x1] w_19 (some (zj r_36)) w_34 0 0 ∧ (∃ l_39 : List Int, w_34[f3_28]? = some (za l_39) ∧ ((0 ≤ r_36 ∧ r_36 < (l_39.length : Int) ∧ r_36 ≤ 2147483647) ∧ ((f3_28 ≠ a0) ∧ (∃ f0_42 : Nat, ∃ f1_43 : Nat, ∃ f2_44 : Nat, ∃ f3_45 : Nat, ∃ f4_46 : Int, ∃ f5_47 : Int, w_34[a0]? = some (zob 0 [zp f0_42, zp f1_43, zp f2_44, zp f3_45, zj f4_46, zj f5_47]) ∧ ((f3_28 ≠ f0_42) ∧ (∃ l_51 : List Int, w_34[f0_42]? = some (za l_51) ∧ ((0 ≤ x1 ∧ x1 < (l_51.length : Int) ∧ x1 ≤ 2147483647) ∧ ((0 ≤ x2 ∧ x2 < (l_51.length : Int) ∧ x2 ≤ 2147483647) ∧ ((f0_42 ≠ a0) ∧ ((f0_42 ≠ f1_43) ∧ ((f3_28 ≠ f1_43) ∧ (∃ l_58 : List Int, w_34[f1_43]? = some (za l_58) ∧ ((0 ≤ x1 ∧ x1 < (l_58.length : Int) ∧ x1 ≤ 2147483647) ∧ ((0 ≤ x2 ∧ x2 < (l_58.length : Int) ∧ x2 ≤ 2147483647) ∧ ((f1_43 ≠ a0) ∧ ((f1_43 ≠ f2_44) ∧ ((f0_42 ≠ f2_44) ∧ ((f3_28 ≠ f2_44) ∧ (∃ l_66 : List Int, w_34[f2_44]? = some (za l_66) ∧ ((0 ≤ x1 ∧ x1 < (l_66.length : Int) ∧ x1 ≤ 2147483647) ∧ ((0 ≤ x2 ∧ x2 < (l_66.length : Int) ∧ x2 ≤ 2147483647) ∧ ((f2_44 ≠ a0) ∧ ((0 ≤ x1 ∧ x1 < ((zsi l_66 x2 (zgi l_66 x1)).length : Int) ∧ x1 ≤ 2147483647) ∧ (ov = none ∧ w' = (((((w_34.set f3_28 (za (zsi l_39 r_36 x2))).set f0_42 (za (zsi l_51 x2 (zgi l_51 x1)))).set f1_43 (za (zsi l_58 x2 (zgi l_58 x1)))).set f2_44 (za (zsi l_66 x2 (zgi l_66 x1)))).set f2_44 (za (zsi (zsi l_66 x2 (zgi l_66 x1)) x1 0))) ∧ c = 0 ∧ s = 0)))))))))))))))))))))))))) ∧ (¬ (x2 < (l_32.length : Int)) → (ov = none ∧ w' = w_19 ∧ c = 0 ∧ s = 0)))))))))))))))))))) : Zr sc 93 0 [zp a0, zj x1, zj x2] [] w ov w' c s := by
  refine Zr_st (q := (1, [zp a0, zj x1, zj x2], [zp a0])) rfl rfl rfl ?_
  show Zr sc 93 1 [zp a0, zj x1, zj x2] [zp a0] w ov w' c s
  refine Zr_st (q := (2, [zp a0, zj x1, zj x2], [zj x1, zp a0])) rfl rfl rfl ?_
  show Zr sc 93 2 [zp a0, zj x1, zj x2] [zj x1, zp a0] w ov w' c s
  obtain ⟨f0_2, f1_3, f2_4, f3_5, f4_6, f5_7, hw_1, h⟩ := h
  obtain ⟨r_10, w_8, hk_9, h⟩ := h
  refine rn_cal0 (ins := .invokevirtual 37) (rest := []) rfl rfl rfl rfl (zinv_v (fs := _) hw_1 rfl rfl rfl rfl) rfl rfl hk_9 ?_
  show Zr sc 93 5 [zp a0, zj x1, zj x2] [zj r_10] w_8 ov w' c s
  obtain ⟨hr_11, h⟩ := h
  refine Zr_b0 (p := r_10 = 0) rfl rfl (zcmp_0 (cnd := .eq) hr_11) (fun hp => ?_) (fun hp => ?_)
  · replace h := h.1 hp
    show Zr sc 93 29 [zp a0, zj x1, zj x2] [] w_8 ov w' c s
    obtain ⟨h1, h2, h3, h4⟩ := h
    subst h1; subst h2; subst h3; subst h4
    exact Zr_ret (ins := .return_) rfl rfl
  · replace h := h.2 hp
    show Zr sc 93 8 [zp a0, zj x1, zj x2] [] w_8 ov w' c s
    refine Zr_st (q := (9, [zp a0, zj x1, zj x2], [zp a0])) rfl rfl rfl ?_
    show Zr sc 93 9 [zp a0, zj x1, zj x2] [zp a0] w_8 ov w' c s
    refine Zr_st (q := (10, [zp a0, zj x1, zj x2], [zj x2, zp a0])) rfl rfl rfl ?_
    show Zr sc 93 10 [zp a0, zj x1, zj x2] [zj x2, zp a0] w_8 ov w' c s
    obtain ⟨f0_13, f1_14, f2_15, f3_16, f4_17, f5_18, hw_12, h⟩ := h
    obtain ⟨r_21, w_19, hk_20, h⟩ := h
    refine rn_cal0 (ins := .invokevirtual 37) (rest := []) rfl rfl rfl rfl (zinv_v (fs := _) hw_12 rfl rfl rfl rfl) rfl rfl hk_20 ?_
    show Zr sc 93 13 [zp a0, zj x1, zj x2] [zj r_21] w_19 ov w' c s
    obtain ⟨hr_22, h⟩ := h
    refine Zr_b0 (p := r_21 ≠ 0) rfl rfl (zcmp_0 (cnd := .ne) hr_22) (fun hp => ?_) (fun hp => ?_)
    · replace h := h.1 hp
      show Zr sc 93 29 [zp a0, zj x1, zj x2] [] w_19 ov w' c s
      obtain ⟨h1, h2, h3, h4⟩ := h
      subst h1; subst h2; subst h3; subst h4
      exact Zr_ret (ins := .return_) rfl rfl
    · replace h := h.2 hp
      show Zr sc 93 16 [zp a0, zj x1, zj x2] [] w_19 ov w' c s
      refine Zr_st (q := (17, [zp a0, zj x1, zj x2], [zj x2])) rfl rfl rfl ?_
      show Zr sc 93 17 [zp a0, zj x1, zj x2] [zj x2] w_19 ov w' c s
      obtain ⟨hr_23, h⟩ := h
      refine Zr_b0 (p := x2 < 0) rfl rfl (zcmp_0 (cnd := .lt) hr_23) (fun hp => ?_) (fun hp => ?_)
      · replace h := h.1 hp
        show Zr sc 93 29 [zp a0, zj x1, zj x2] [] w_19 ov w' c s
        obtain ⟨h1, h2, h3, h4⟩ := h
        subst h1; subst h2; subst h3; subst h4
        exact Zr_ret (ins := .return_) rfl rfl
      · replace h := h.2 hp
        show Zr sc 93 20 [zp a0, zj x1, zj x2] [] w_19 ov w' c s
        refine Zr_st (q := (21, [zp a0, zj x1, zj x2], [zj x2])) rfl rfl rfl ?_
        show Zr sc 93 21 [zp a0, zj x1, zj x2] [zj x2] w_19 ov w' c s
        refine Zr_st (q := (22, [zp a0, zj x1, zj x2], [zp a0, zj x2])) rfl rfl rfl ?_
        show Zr sc 93 22 [zp a0, zj x1, zj x2] [zp a0, zj x2] w_19 ov w' c s
        obtain ⟨f0_25, f1_26, f2_27, f3_28, f4_29, f5_30, hw_24, h⟩ := h
        refine rl_gf rfl hw_24 rfl rfl ?_
        show Zr sc 93 25 [zp a0, zj x1, zj x2] [zp f2_27, zj x2] w_19 ov w' c s
        obtain ⟨l_32, hw_31, h⟩ := h
        refine rl_al rfl hw_31 ?_
        show Zr sc 93 26 [zp a0, zj x1, zj x2] [zj (l_32.length : Int), zj x2] w_19 ov w' c s
        obtain ⟨hr_33, h⟩ := h
        refine Zr_br (p := x2 < (l_32.length : Int)) rfl rfl (zcmp_j (cnd := .lt) hr_33.1 hr_33.2) (fun hp => ?_) (fun hp => ?_)
        · replace h := h.1 hp
          show Zr sc 93 30 [zp a0, zj x1, zj x2] [] w_19 ov w' c s
          refine Zr_st (q := (31, [zp a0, zj x1, zj x2], [zp a0])) rfl rfl rfl ?_
          show Zr sc 93 31 [zp a0, zj x1, zj x2] [zp a0] w_19 ov w' c s
          refine rl_gf rfl hw_24 rfl rfl ?_
          show Zr sc 93 34 [zp a0, zj x1, zj x2] [zp f3_28] w_19 ov w' c s
          refine Zr_st (q := (35, [zp a0, zj x1, zj x2], [zp a0, zp f3_28])) rfl rfl rfl ?_
          show Zr sc 93 35 [zp a0, zj x1, zj x2] [zp a0, zp f3_28] w_19 ov w' c s
          refine Zr_st (q := (36, [zp a0, zj x1, zj x2], [zj x1, zp a0, zp f3_28])) rfl rfl rfl ?_
          show Zr sc 93 36 [zp a0, zj x1, zj x2] [zj x1, zp a0, zp f3_28] w_19 ov w' c s
          obtain ⟨r_36, w_34, hk_35, h⟩ := h
          refine rn_cal0 (ins := .invokevirtual 51) (rest := [zp f3_28]) rfl rfl rfl rfl (zinv_v (fs := _) hw_24 rfl rfl rfl rfl) rfl rfl hk_35 ?_
          show Zr sc 93 39 [zp a0, zj x1, zj x2] [zj r_36, zp f3_28] w_34 ov w' c s
          refine Zr_st (q := (40, [zp a0, zj x1, zj x2], [zj x2, zj r_36, zp f3_28])) rfl rfl rfl ?_
          show Zr sc 93 40 [zp a0, zj x1, zj x2] [zj x2, zj r_36, zp f3_28] w_34 ov w' c s
          obtain ⟨l_39, hw_38, h⟩ := h
          obtain ⟨hi_37, h⟩ := h
          refine rl_is rfl hw_38 hi_37.1 hi_37.2.1 hi_37.2.2 ?_
          show Zr sc 93 41 [zp a0, zj x1, zj x2] [] (w_34.set f3_28 (za (zsi l_39 r_36 x2))) ov w' c s
          refine Zr_st (q := (42, [zp a0, zj x1, zj x2], [zp a0])) rfl rfl rfl ?_
          show Zr sc 93 42 [zp a0, zj x1, zj x2] [zp a0] (w_34.set f3_28 (za (zsi l_39 r_36 x2))) ov w' c s
          obtain ⟨hn_40, h⟩ := h
          obtain ⟨f0_42, f1_43, f2_44, f3_45, f4_46, f5_47, hw_41, h⟩ := h
          refine rl_gf rfl (zw_o hn_40 hw_41) rfl rfl ?_
          show Zr sc 93 45 [zp a0, zj x1, zj x2] [zp f0_42] (w_34.set f3_28 (za (zsi l_39 r_36 x2))) ov w' c s
          refine Zr_st (q := (46, [zp a0, zj x1, zj x2], [zj x2, zp f0_42])) rfl rfl rfl ?_
          show Zr sc 93 46 [zp a0, zj x1, zj x2] [zj x2, zp f0_42] (w_34.set f3_28 (za (zsi l_39 r_36 x2))) ov w' c s
          refine Zr_st (q := (47, [zp a0, zj x1, zj x2], [zp a0, zj x2, zp f0_42])) rfl rfl rfl ?_
          show Zr sc 93 47 [zp a0, zj x1, zj x2] [zp a0, zj x2, zp f0_42] (w_34.set f3_28 (za (zsi l_39 r_36 x2))) ov w' c s
          refine rl_gf rfl (zw_o hn_40 hw_41) rfl rfl ?_
          show Zr sc 93 50 [zp a0, zj x1, zj x2] [zp f0_42, zj x2, zp f0_42] (w_34.set f3_28 (za (zsi l_39 r_36 x2))) ov w' c s
          refine Zr_st (q := (51, [zp a0, zj x1, zj x2], [zj x1, zp f0_42, zj x2, zp f0_42])) rfl rfl rfl ?_
          show Zr sc 93 51 [zp a0, zj x1, zj x2] [zj x1, zp f0_42, zj x2, zp f0_42] (w_34.set f3_28 (za (zsi l_39 r_36 x2))) ov w' c s
          obtain ⟨hn_49, h⟩ := h
          obtain ⟨l_51, hw_50, h⟩ := h
          obtain ⟨hi_48, h⟩ := h
          refine rl_ia rfl (zw_o hn_49 hw_50) hi_48.1 hi_48.2.1 hi_48.2.2 ?_
          show Zr sc 93 52 [zp a0, zj x1, zj x2] [zj (zgi l_51 x1), zj x2, zp f0_42] (w_34.set f3_28 (za (zsi l_39 r_36 x2))) ov w' c s
          obtain ⟨hi_52, h⟩ := h
          refine rl_is rfl (zw_o hn_49 hw_50) hi_52.1 hi_52.2.1 hi_52.2.2 ?_
          show Zr sc 93 53 [zp a0, zj x1, zj x2] [] ((w_34.set f3_28 (za (zsi l_39 r_36 x2))).set f0_42 (za (zsi l_51 x2 (zgi l_51 x1)))) ov w' c s
          refine Zr_st (q := (54, [zp a0, zj x1, zj x2], [zp a0])) rfl rfl rfl ?_
          show Zr sc 93 54 [zp a0, zj x1, zj x2] [zp a0] ((w_34.set f3_28 (za (zsi l_39 r_36 x2))).set f0_42 (za (zsi l_51 x2 (zgi l_51 x1)))) ov w' c s
          obtain ⟨hn_53, h⟩ := h
          refine rl_gf rfl (zw_o hn_53 (zw_o hn_40 hw_41)) rfl rfl ?_
          show Zr sc 93 57 [zp a0, zj x1, zj x2] [zp f1_43] ((w_34.set f3_28 (za (zsi l_39 r_36 x2))).set f0_42 (za (zsi l_51 x2 (zgi l_51 x1)))) ov w' c s
          refine Zr_st (q := (58, [zp a0, zj x1, zj x2], [zj x2, zp f1_43])) rfl rfl rfl ?_
          show Zr sc 93 58 [zp a0, zj x1, zj x2] [zj x2, zp f1_43] ((w_34.set f3_28 (za (zsi l_39 r_36 x2))).set f0_42 (za (zsi l_51 x2 (zgi l_51 x1)))) ov w' c s
          refine Zr_st (q := (59, [zp a0, zj x1, zj x2], [zp a0, zj x2, zp f1_43])) rfl rfl rfl ?_
          show Zr sc 93 59 [zp a0, zj x1, zj x2] [zp a0, zj x2, zp f1_43] ((w_34.set f3_28 (za (zsi l_39 r_36 x2))).set f0_42 (za (zsi l_51 x2 (zgi l_51 x1)))) ov w' c s
          refine rl_gf rfl (zw_o hn_53 (zw_o hn_40 hw_41)) rfl rfl ?_
          show Zr sc 93 62 [zp a0, zj x1, zj x2] [zp f1_43, zj x2, zp f1_43] ((w_34.set f3_28 (za (zsi l_39 r_36 x2))).set f0_42 (za (zsi l_51 x2 (zgi l_51 x1)))) ov w' c s
          refine Zr_st (q := (63, [zp a0, zj x1, zj x2], [zj x1, zp f1_43, zj x2, zp f1_43])) rfl rfl rfl ?_
          show Zr sc 93 63 [zp a0, zj x1, zj x2] [zj x1, zp f1_43, zj x2, zp f1_43] ((w_34.set f3_28 (za (zsi l_39 r_36 x2))).set f0_42 (za (zsi l_51 x2 (zgi l_51 x1)))) ov w' c s
          obtain ⟨hn_55, h⟩ := h
          obtain ⟨hn_56, h⟩ := h
          obtain ⟨l_58, hw_57, h⟩ := h
          obtain ⟨hi_54, h⟩ := h
          refine rl_ia rfl (zw_o hn_55 (zw_o hn_56 hw_57)) hi_54.1 hi_54.2.1 hi_54.2.2 ?_
          show Zr sc 93 64 [zp a0, zj x1, zj x2] [zj (zgi l_58 x1), zj x2, zp f1_43] ((w_34.set f3_28 (za (zsi l_39 r_36 x2))).set f0_42 (za (zsi l_51 x2 (zgi l_51 x1)))) ov w' c s
          obtain ⟨hi_59, h⟩ := h
          refine rl_is rfl (zw_o hn_55 (zw_o hn_56 hw_57)) hi_59.1 hi_59.2.1 hi_59.2.2 ?_
          show Zr sc 93 65 [zp a0, zj x1, zj x2] [] (((w_34.set f3_28 (za (zsi l_39 r_36 x2))).set f0_42 (za (zsi l_51 x2 (zgi l_51 x1)))).set f1_43 (za (zsi l_58 x2 (zgi l_58 x1)))) ov w' c s
          refine Zr_st (q := (66, [zp a0, zj x1, zj x2], [zp a0])) rfl rfl rfl ?_
          show Zr sc 93 66 [zp a0, zj x1, zj x2] [zp a0] (((w_34.set f3_28 (za (zsi l_39 r_36 x2))).set f0_42 (za (zsi l_51 x2 (zgi l_51 x1)))).set f1_43 (za (zsi l_58 x2 (zgi l_58 x1)))) ov w' c s
          obtain ⟨hn_60, h⟩ := h
          refine rl_gf rfl (zw_o hn_60 (zw_o hn_53 (zw_o hn_40 hw_41))) rfl rfl ?_
          show Zr sc 93 69 [zp a0, zj x1, zj x2] [zp f2_44] (((w_34.set f3_28 (za (zsi l_39 r_36 x2))).set f0_42 (za (zsi l_51 x2 (zgi l_51 x1)))).set f1_43 (za (zsi l_58 x2 (zgi l_58 x1)))) ov w' c s
          refine Zr_st (q := (70, [zp a0, zj x1, zj x2], [zj x2, zp f2_44])) rfl rfl rfl ?_
          show Zr sc 93 70 [zp a0, zj x1, zj x2] [zj x2, zp f2_44] (((w_34.set f3_28 (za (zsi l_39 r_36 x2))).set f0_42 (za (zsi l_51 x2 (zgi l_51 x1)))).set f1_43 (za (zsi l_58 x2 (zgi l_58 x1)))) ov w' c s
          refine Zr_st (q := (71, [zp a0, zj x1, zj x2], [zp a0, zj x2, zp f2_44])) rfl rfl rfl ?_
          show Zr sc 93 71 [zp a0, zj x1, zj x2] [zp a0, zj x2, zp f2_44] (((w_34.set f3_28 (za (zsi l_39 r_36 x2))).set f0_42 (za (zsi l_51 x2 (zgi l_51 x1)))).set f1_43 (za (zsi l_58 x2 (zgi l_58 x1)))) ov w' c s
          refine rl_gf rfl (zw_o hn_60 (zw_o hn_53 (zw_o hn_40 hw_41))) rfl rfl ?_
          show Zr sc 93 74 [zp a0, zj x1, zj x2] [zp f2_44, zj x2, zp f2_44] (((w_34.set f3_28 (za (zsi l_39 r_36 x2))).set f0_42 (za (zsi l_51 x2 (zgi l_51 x1)))).set f1_43 (za (zsi l_58 x2 (zgi l_58 x1)))) ov w' c s
          refine Zr_st (q := (75, [zp a0, zj x1, zj x2], [zj x1, zp f2_44, zj x2, zp f2_44])) rfl rfl rfl ?_
          show Zr sc 93 75 [zp a0, zj x1, zj x2] [zj x1, zp f2_44, zj x2, zp f2_44] (((w_34.set f3_28 (za (zsi l_39 r_36 x2))).set f0_42 (za (zsi l_51 x2 (zgi l_51 x1)))).set f1_43 (za (zsi l_58 x2 (zgi l_58 x1)))) ov w' c s
          obtain ⟨hn_62, h⟩ := h
          obtain ⟨hn_63, h⟩ := h
          obtain ⟨hn_64, h⟩ := h
          obtain ⟨l_66, hw_65, h⟩ := h
          obtain ⟨hi_61, h⟩ := h
          refine rl_ia rfl (zw_o hn_62 (zw_o hn_63 (zw_o hn_64 hw_65))) hi_61.1 hi_61.2.1 hi_61.2.2 ?_
          show Zr sc 93 76 [zp a0, zj x1, zj x2] [zj (zgi l_66 x1), zj x2, zp f2_44] (((w_34.set f3_28 (za (zsi l_39 r_36 x2))).set f0_42 (za (zsi l_51 x2 (zgi l_51 x1)))).set f1_43 (za (zsi l_58 x2 (zgi l_58 x1)))) ov w' c s
          obtain ⟨hi_67, h⟩ := h
          refine rl_is rfl (zw_o hn_62 (zw_o hn_63 (zw_o hn_64 hw_65))) hi_67.1 hi_67.2.1 hi_67.2.2 ?_
          show Zr sc 93 77 [zp a0, zj x1, zj x2] [] ((((w_34.set f3_28 (za (zsi l_39 r_36 x2))).set f0_42 (za (zsi l_51 x2 (zgi l_51 x1)))).set f1_43 (za (zsi l_58 x2 (zgi l_58 x1)))).set f2_44 (za (zsi l_66 x2 (zgi l_66 x1)))) ov w' c s
          refine Zr_st (q := (78, [zp a0, zj x1, zj x2], [zp a0])) rfl rfl rfl ?_
          show Zr sc 93 78 [zp a0, zj x1, zj x2] [zp a0] ((((w_34.set f3_28 (za (zsi l_39 r_36 x2))).set f0_42 (za (zsi l_51 x2 (zgi l_51 x1)))).set f1_43 (za (zsi l_58 x2 (zgi l_58 x1)))).set f2_44 (za (zsi l_66 x2 (zgi l_66 x1)))) ov w' c s
          obtain ⟨hn_68, h⟩ := h
          refine rl_gf rfl (zw_o hn_68 (zw_o hn_60 (zw_o hn_53 (zw_o hn_40 hw_41)))) rfl rfl ?_
          show Zr sc 93 81 [zp a0, zj x1, zj x2] [zp f2_44] ((((w_34.set f3_28 (za (zsi l_39 r_36 x2))).set f0_42 (za (zsi l_51 x2 (zgi l_51 x1)))).set f1_43 (za (zsi l_58 x2 (zgi l_58 x1)))).set f2_44 (za (zsi l_66 x2 (zgi l_66 x1)))) ov w' c s
          refine Zr_st (q := (82, [zp a0, zj x1, zj x2], [zj x1, zp f2_44])) rfl rfl rfl ?_
          show Zr sc 93 82 [zp a0, zj x1, zj x2] [zj x1, zp f2_44] ((((w_34.set f3_28 (za (zsi l_39 r_36 x2))).set f0_42 (za (zsi l_51 x2 (zgi l_51 x1)))).set f1_43 (za (zsi l_58 x2 (zgi l_58 x1)))).set f2_44 (za (zsi l_66 x2 (zgi l_66 x1)))) ov w' c s
          refine rl_ic rfl ?_
          show Zr sc 93 83 [zp a0, zj x1, zj x2] [zj 0, zj x1, zp f2_44] ((((w_34.set f3_28 (za (zsi l_39 r_36 x2))).set f0_42 (za (zsi l_51 x2 (zgi l_51 x1)))).set f1_43 (za (zsi l_58 x2 (zgi l_58 x1)))).set f2_44 (za (zsi l_66 x2 (zgi l_66 x1)))) ov w' c s
          obtain ⟨hi_69, h⟩ := h
          refine rl_is rfl (zw_s (zw_o hn_62 (zw_o hn_63 (zw_o hn_64 hw_65)))) hi_69.1 hi_69.2.1 hi_69.2.2 ?_
          show Zr sc 93 84 [zp a0, zj x1, zj x2] [] (((((w_34.set f3_28 (za (zsi l_39 r_36 x2))).set f0_42 (za (zsi l_51 x2 (zgi l_51 x1)))).set f1_43 (za (zsi l_58 x2 (zgi l_58 x1)))).set f2_44 (za (zsi l_66 x2 (zgi l_66 x1)))).set f2_44 (za (zsi (zsi l_66 x2 (zgi l_66 x1)) x1 0))) ov w' c s
          obtain ⟨h1, h2, h3, h4⟩ := h
          subst h1; subst h2; subst h3; subst h4
          exact Zr_ret (ins := .return_) rfl rfl
        · replace h := h.2 hp
          show Zr sc 93 29 [zp a0, zj x1, zj x2] [] w_19 ov w' c s
          obtain ⟨h1, h2, h3, h4⟩ := h
          subst h1; subst h2; subst h3; subst h4
          exact Zr_ret (ins := .return_) rfl rfl

-- HeapwrightLab$Fits.pack()V
set_option maxRecDepth 100000 in
theorem V94_0 {sc : List Value} {w w' : List zE} {ov : Option Value} {c s : Nat} {a0 : Nat} (h : Zr sc 94 4 [zp a0, zj 0, zj 0, zmk] [] w ov w' c s) : Zr sc 94 0 [zp a0, zmk, zmk, zmk] [] w ov w' c s := by
  refine rl_ic rfl ?_
  show Zr sc 94 1 [zp a0, zmk, zmk, zmk] [zj 0] w ov w' c s
  refine Zr_st (q := (2, [zp a0, zj 0, zmk, zmk], [])) rfl rfl rfl ?_
  show Zr sc 94 2 [zp a0, zj 0, zmk, zmk] [] w ov w' c s
  refine rl_ic rfl ?_
  show Zr sc 94 3 [zp a0, zj 0, zmk, zmk] [zj 0] w ov w' c s
  refine Zr_st (q := (4, [zp a0, zj 0, zj 0, zmk], [])) rfl rfl rfl ?_
  show Zr sc 94 4 [zp a0, zj 0, zj 0, zmk] [] w ov w' c s
  exact h
set_option maxRecDepth 100000 in
theorem V94_4 {sc : List Value} {w w' : List zE} {ov : Option Value} {c s : Nat} {a0 : Nat} {x1 : Int} {x2 : Int} {v3 : Value} (h : (∃ f0_2 : Nat, ∃ f1_3 : Nat, ∃ f2_4 : Int, ∃ f3_5 : Int, ∃ f4_6 : Int, ∃ f5_7 : Int, ∃ f6_8 : Int, ∃ f7_9 : Nat, ∃ f8_10 : Nat, ∃ f9_11 : Int, ∃ f10_12 : Int, ∃ f11_13 : Int, ∃ f12_14 : Int, w[a0]? = some (zob 2 [zp f0_2, zp f1_3, zj f2_4, zj f3_5, zj f4_6, zj f5_7, zj f6_8, zp f7_9, zp f8_10, zj f9_11, zj f10_12, zj f11_13, zj f12_14]) ∧ (∃ f0_16 : Nat, ∃ f1_17 : Nat, ∃ f2_18 : Nat, ∃ f3_19 : Nat, ∃ f4_20 : Int, ∃ f5_21 : Int, w[f0_2]? = some (zob 0 [zp f0_16, zp f1_17, zp f2_18, zp f3_19, zj f4_20, zj f5_21]) ∧ (∃ r_24 : Int, ∃ w_22 : List zE, Zc sc 18 [zp f0_2] w (some (zj r_24)) w_22 0 0 ∧ ((zrg x2 ∧ zrg r_24) ∧ ((r_24 ≤ x2 → (∃ f0_27 : Nat, ∃ f1_28 : Nat, ∃ f2_29 : Int, ∃ f3_30 : Int, ∃ f4_31 : Int, ∃ f5_32 : Int, ∃ f6_33 : Int, ∃ f7_34 : Nat, ∃ f8_35 : Nat, ∃ f9_36 : Int, ∃ f10_37 : Int, ∃ f11_38 : Int, ∃ f12_39 : Int, w_22[a0]? = some (zob 2 [zp f0_27, zp f1_28, zj f2_29, zj f3_30, zj f4_31, zj f5_32, zj f6_33, zp f7_34, zp f8_35, zj f9_36, zj f10_37, zj f11_38, zj f12_39]) ∧ (∃ w_40 : List zE, Zc sc 81 [zp a0, zj x1] w_22 none w_40 0 0 ∧ (∃ f0_43 : Nat, ∃ f1_44 : Nat, ∃ f2_45 : Int, ∃ f3_46 : Int, ∃ f4_47 : Int, ∃ f5_48 : Int, ∃ f6_49 : Int, ∃ f7_50 : Nat, ∃ f8_51 : Nat, ∃ f9_52 : Int, ∃ f10_53 : Int, ∃ f11_54 : Int, ∃ f12_55 : Int, w_40[a0]? = some (zob 2 [zp f0_43, zp f1_44, zj f2_45, zj f3_46, zj f4_47, zj f5_48, zj f6_49, zp f7_50, zp f8_51, zj f9_52, zj f10_53, zj f11_54, zj f12_55]) ∧ (∃ w_56 : List zE, Zc sc 69 [zp a0] w_40 none w_56 0 0 ∧ (ov = none ∧ w' = w_56 ∧ c = 0 ∧ s = 0)))))) ∧ (¬ (r_24 ≤ x2) → (∃ f0_59 : Nat, ∃ f1_60 : Nat, ∃ f2_61 : Int, ∃ f3_62 : Int, ∃ f4_63 : Int, ∃ f5_64 : Int, ∃ f6_65 : Int, ∃ f7_66 : Nat, ∃ f8_67 : Nat, ∃ f9_68 : Int, ∃ f10_69 : Int, ∃ f11_70 : Int, ∃ f12_71 : Int, w_22[a0]? = some (zob 2 [zp f0_59, zp f1_60, zj f2_61, zj f3_62, zj f4_63, zj f5_64, zj f6_65, zp f7_66, zp f8_67, zj f9_68, zj f10_69, zj f11_70, zj f12_71]) ∧ (∃ f0_73 : Nat, ∃ f1_74 : Nat, ∃ f2_75 : Nat, ∃ f3_76 : Nat, ∃ f4_77 : Int, ∃ f5_78 : Int, w_22[f0_59]? = some (zob 0 [zp f0_73, zp f1_74, zp f2_75, zp f3_76, zj f4_77, zj f5_78]) ∧ (∃ r_81 : Int, ∃ w_79 : List zE, Zc sc 72 [zp f0_59, zj x2] w_22 (some (zj r_81)) w_79 0 0 ∧ (∃ f0_83 : Nat, ∃ f1_84 : Nat, ∃ f2_85 : Int, ∃ f3_86 : Int, ∃ f4_87 : Int, ∃ f5_88 : Int, ∃ f6_89 : Int, ∃ f7_90 : Nat, ∃ f8_91 : Nat, ∃ f9_92 : Int, ∃ f10_93 : Int, ∃ f11_94 : Int, ∃ f12_95 : Int, w_79[a0]? = some (zob 2 [zp f0_83, zp f1_84, zj f2_85, zj f3_86, zj f4_87, zj f5_88, zj f6_89, zp f7_90, zp f8_91, zj f9_92, zj f10_93, zj f11_94, zj f12_95]) ∧ (∃ f0_97 : Nat, ∃ f1_98 : Nat, ∃ f2_99 : Nat, ∃ f3_100 : Nat, ∃ f4_101 : Int, ∃ f5_102 : Int, w_79[f0_83]? = some (zob 0 [zp f0_97, zp f1_98, zp f2_99, zp f3_100, zj f4_101, zj f5_102]) ∧ (∃ r_105 : Int, ∃ w_103 : List zE, Zc sc 9 [zp f0_83, zj r_81] w_79 (some (zj r_105)) w_103 0 0 ∧ ((zrg r_105 ∧ zrg x1) ∧ ((r_105 = x1 → (∃ f0_108 : Nat, ∃ f1_109 : Nat, ∃ f2_110 : Int, ∃ f3_111 : Int, ∃ f4_112 : Int, ∃ f5_113 : Int, ∃ f6_114 : Int, ∃ f7_115 : Nat, ∃ f8_116 : Nat, ∃ f9_117 : Int, ∃ f10_118 : Int, ∃ f11_119 : Int, ∃ f12_120 : Int, w_103[a0]? = some (zob 2 [zp f0_108, zp f1_109, zj f2_110, zj f3_111, zj f4_112, zj f5_113, zj f6_114, zp f7_115, zp f8_116, zj f9_117, zj f10_118, zj f11_119, zj f12_120]) ∧ (∃ f0_122 : Nat, ∃ f1_123 : Nat, ∃ f2_124 : Nat, ∃ f3_125 : Nat, ∃ f4_126 : Int, ∃ f5_127 : Int, w_103[f0_108]? = some (zob 0 [zp f0_122, zp f1_123, zp f2_124, zp f3_125, zj f4_126, zj f5_127]) ∧ (∃ r_130 : Int, ∃ w_128 : List zE, Zc sc 13 [zp f0_108, zj r_81] w_103 (some (zj r_130)) w_128 0 0 ∧ Zr sc 94 4 [zp a0, zj (x1 + r_130), zj (x2 + 1), zj r_81] [] w_128 ov w' c s)))) ∧ (¬ (r_105 = x1) → (∃ f0_132 : Nat, ∃ f1_133 : Nat, ∃ f2_134 : Int, ∃ f3_135 : Int, ∃ f4_136 : Int, ∃ f5_137 : Int, ∃ f6_138 : Int, ∃ f7_139 : Nat, ∃ f8_140 : Nat, ∃ f9_141 : Int, ∃ f10_142 : Int, ∃ f11_143 : Int, ∃ f12_144 : Int, w_103[a0]? = some (zob 2 [zp f0_132, zp f1_133, zj f2_134, zj f3_135, zj f4_136, zj f5_137, zj f6_138, zp f7_139, zp f8_140, zj f9_141, zj f10_142, zj f11_143, zj f12_144]) ∧ (∃ f0_146 : Nat, ∃ f1_147 : Nat, ∃ f2_148 : Nat, ∃ f3_149 : Nat, ∃ f4_150 : Int, ∃ f5_151 : Int, w_103[f0_132]? = some (zob 0 [zp f0_146, zp f1_147, zp f2_148, zp f3_149, zj f4_150, zj f5_151]) ∧ (∃ w_152 : List zE, Zc sc 95 [zp f0_132, zj r_81, zj x1] w_103 none w_152 0 0 ∧ (∃ f0_155 : Nat, ∃ f1_156 : Nat, ∃ f2_157 : Int, ∃ f3_158 : Int, ∃ f4_159 : Int, ∃ f5_160 : Int, ∃ f6_161 : Int, ∃ f7_162 : Nat, ∃ f8_163 : Nat, ∃ f9_164 : Int, ∃ f10_165 : Int, ∃ f11_166 : Int, ∃ f12_167 : Int, w_152[a0]? = some (zob 2 [zp f0_155, zp f1_156, zj f2_157, zj f3_158, zj f4_159, zj f5_160, zj f6_161, zp f7_162, zp f8_163, zj f9_164, zj f10_165, zj f11_166, zj f12_167]) ∧ (∃ f0_169 : Nat, ∃ f1_170 : Nat, ∃ f2_171 : Nat, ∃ f3_172 : Nat, ∃ f4_173 : Int, ∃ f5_174 : Int, w_152[f0_155]? = some (zob 0 [zp f0_169, zp f1_170, zp f2_171, zp f3_172, zj f4_173, zj f5_174]) ∧ (∃ r_177 : Int, ∃ w_175 : List zE, Zc sc 13 [zp f0_155, zj r_81] w_152 (some (zj r_177)) w_175 0 0 ∧ (∃ f0_179 : Nat, ∃ f1_180 : Nat, ∃ f2_181 : Int, ∃ f3_182 : Int, ∃ f4_183 : Int, ∃ f5_184 : Int, ∃ f6_185 : Int, ∃ f7_186 : Nat, ∃ f8_187 : Nat, ∃ f9_188 : Int, ∃ f10_189 : Int, ∃ f11_190 : Int, ∃ f12_191 : Int, w_175[a0]? = some (zob 2 [zp f0_179, zp f1_180, zj f2_181, zj f3_182, zj f4_183, zj f5_184, zj f6_185, zp f7_186, zp f8_187, zj f9_188, zj f10_189, zj f11_190, zj f12_191]) ∧ (∃ w_192 : List zE, Zc sc 64 [zp a0, zj 3, zj r_177] w_175 none w_192 0 0 ∧ (∃ f0_195 : Nat, ∃ f1_196 : Nat, ∃ f2_197 : Int, ∃ f3_198 : Int, ∃ f4_199 : Int, ∃ f5_200 : Int, ∃ f6_201 : Int, ∃ f7_202 : Nat, ∃ f8_203 : Nat, ∃ f9_204 : Int, ∃ f10_205 : Int, ∃ f11_206 : Int, ∃ f12_207 : Int, w_192[a0]? = some (zob 2 [zp f0_195, zp f1_196, zj f2_197, zj f3_198, zj f4_199, zj f5_200, zj f6_201, zp f7_202, zp f8_203, zj f9_204, zj f10_205, zj f11_206, zj f12_207]) ∧ (∃ f0_209 : Nat, ∃ f1_210 : Nat, ∃ f2_211 : Nat, ∃ f3_212 : Nat, ∃ f4_213 : Int, ∃ f5_214 : Int, w_192[f0_195]? = some (zob 0 [zp f0_209, zp f1_210, zp f2_211, zp f3_212, zj f4_213, zj f5_214]) ∧ (∃ r_217 : Int, ∃ w_215 : List zE, Zc sc 13 [zp f0_195, zj r_81] w_192 (some (zj r_217)) w_215 0 0 ∧ Zr sc 94 4 [zp a0, zj (x1 + r_217), zj (x2 + 1), zj r_81] [] w_215 ov w' c s))))))))))))))))))))))))))) : Zr sc 94 4 [zp a0, zj x1, zj x2, v3] [] w ov w' c s := by
  refine Zr_st (q := (5, [zp a0, zj x1, zj x2, v3], [zj x2])) rfl rfl rfl ?_
  show Zr sc 94 5 [zp a0, zj x1, zj x2, v3] [zj x2] w ov w' c s
  refine Zr_st (q := (6, [zp a0, zj x1, zj x2, v3], [zp a0, zj x2])) rfl rfl rfl ?_
  show Zr sc 94 6 [zp a0, zj x1, zj x2, v3] [zp a0, zj x2] w ov w' c s
  obtain ⟨f0_2, f1_3, f2_4, f3_5, f4_6, f5_7, f6_8, f7_9, f8_10, f9_11, f10_12, f11_13, f12_14, hw_1, h⟩ := h
  refine rl_gf rfl hw_1 rfl rfl ?_
  show Zr sc 94 9 [zp a0, zj x1, zj x2, v3] [zp f0_2, zj x2] w ov w' c s
  obtain ⟨f0_16, f1_17, f2_18, f3_19, f4_20, f5_21, hw_15, h⟩ := h
  obtain ⟨r_24, w_22, hk_23, h⟩ := h
  refine rn_cal0 (ins := .invokevirtual 97) (rest := [zj x2]) rfl rfl rfl rfl (zinv_v (fs := _) hw_15 rfl rfl rfl rfl) rfl rfl hk_23 ?_
  show Zr sc 94 12 [zp a0, zj x1, zj x2, v3] [zj r_24, zj x2] w_22 ov w' c s
  obtain ⟨hr_25, h⟩ := h
  refine Zr_br (p := r_24 ≤ x2) rfl rfl (zcmp_j (cnd := .ge) hr_25.1 hr_25.2) (fun hp => ?_) (fun hp => ?_)
  · replace h := h.1 hp
    show Zr sc 94 75 [zp a0, zj x1, zj x2, v3] [] w_22 ov w' c s
    refine Zr_st (q := (76, [zp a0, zj x1, zj x2, v3], [zp a0])) rfl rfl rfl ?_
    show Zr sc 94 76 [zp a0, zj x1, zj x2, v3] [zp a0] w_22 ov w' c s
    refine Zr_st (q := (77, [zp a0, zj x1, zj x2, v3], [zj x1, zp a0])) rfl rfl rfl ?_
    show Zr sc 94 77 [zp a0, zj x1, zj x2, v3] [zj x1, zp a0] w_22 ov w' c s
    obtain ⟨f0_27, f1_28, f2_29, f3_30, f4_31, f5_32, f6_33, f7_34, f8_35, f9_36, f10_37, f11_38, f12_39, hw_26, h⟩ := h
    obtain ⟨w_40, hk_41, h⟩ := h
    refine rn_cal0 (ins := .invokevirtual 105) (rest := []) rfl rfl rfl rfl (zinv_v (fs := _) hw_26 rfl rfl rfl rfl) rfl rfl hk_41 ?_
    show Zr sc 94 80 [zp a0, zj x1, zj x2, v3] [] w_40 ov w' c s
    refine Zr_st (q := (81, [zp a0, zj x1, zj x2, v3], [zp a0])) rfl rfl rfl ?_
    show Zr sc 94 81 [zp a0, zj x1, zj x2, v3] [zp a0] w_40 ov w' c s
    obtain ⟨f0_43, f1_44, f2_45, f3_46, f4_47, f5_48, f6_49, f7_50, f8_51, f9_52, f10_53, f11_54, f12_55, hw_42, h⟩ := h
    obtain ⟨w_56, hk_57, h⟩ := h
    refine rn_cal0 (ins := .invokevirtual 84) (rest := []) rfl rfl rfl rfl (zinv_v (fs := _) hw_42 rfl rfl rfl rfl) rfl rfl hk_57 ?_
    show Zr sc 94 84 [zp a0, zj x1, zj x2, v3] [] w_56 ov w' c s
    obtain ⟨h1, h2, h3, h4⟩ := h
    subst h1; subst h2; subst h3; subst h4
    exact Zr_ret (ins := .return_) rfl rfl
  · replace h := h.2 hp
    show Zr sc 94 15 [zp a0, zj x1, zj x2, v3] [] w_22 ov w' c s
    refine Zr_st (q := (16, [zp a0, zj x1, zj x2, v3], [zp a0])) rfl rfl rfl ?_
    show Zr sc 94 16 [zp a0, zj x1, zj x2, v3] [zp a0] w_22 ov w' c s
    obtain ⟨f0_59, f1_60, f2_61, f3_62, f4_63, f5_64, f6_65, f7_66, f8_67, f9_68, f10_69, f11_70, f12_71, hw_58, h⟩ := h
    refine rl_gf rfl hw_58 rfl rfl ?_
    show Zr sc 94 19 [zp a0, zj x1, zj x2, v3] [zp f0_59] w_22 ov w' c s
    refine Zr_st (q := (20, [zp a0, zj x1, zj x2, v3], [zj x2, zp f0_59])) rfl rfl rfl ?_
    show Zr sc 94 20 [zp a0, zj x1, zj x2, v3] [zj x2, zp f0_59] w_22 ov w' c s
    obtain ⟨f0_73, f1_74, f2_75, f3_76, f4_77, f5_78, hw_72, h⟩ := h
    obtain ⟨r_81, w_79, hk_80, h⟩ := h
    refine rn_cal0 (ins := .invokevirtual 98) (rest := []) rfl rfl rfl rfl (zinv_v (fs := _) hw_72 rfl rfl rfl rfl) rfl rfl hk_80 ?_
    show Zr sc 94 23 [zp a0, zj x1, zj x2, v3] [zj r_81] w_79 ov w' c s
    refine Zr_st (q := (24, [zp a0, zj x1, zj x2, zj r_81], [])) rfl rfl rfl ?_
    show Zr sc 94 24 [zp a0, zj x1, zj x2, zj r_81] [] w_79 ov w' c s
    refine Zr_st (q := (25, [zp a0, zj x1, zj x2, zj r_81], [zp a0])) rfl rfl rfl ?_
    show Zr sc 94 25 [zp a0, zj x1, zj x2, zj r_81] [zp a0] w_79 ov w' c s
    obtain ⟨f0_83, f1_84, f2_85, f3_86, f4_87, f5_88, f6_89, f7_90, f8_91, f9_92, f10_93, f11_94, f12_95, hw_82, h⟩ := h
    refine rl_gf rfl hw_82 rfl rfl ?_
    show Zr sc 94 28 [zp a0, zj x1, zj x2, zj r_81] [zp f0_83] w_79 ov w' c s
    refine Zr_st (q := (29, [zp a0, zj x1, zj x2, zj r_81], [zj r_81, zp f0_83])) rfl rfl rfl ?_
    show Zr sc 94 29 [zp a0, zj x1, zj x2, zj r_81] [zj r_81, zp f0_83] w_79 ov w' c s
    obtain ⟨f0_97, f1_98, f2_99, f3_100, f4_101, f5_102, hw_96, h⟩ := h
    obtain ⟨r_105, w_103, hk_104, h⟩ := h
    refine rn_cal0 (ins := .invokevirtual 101) (rest := []) rfl rfl rfl rfl (zinv_v (fs := _) hw_96 rfl rfl rfl rfl) rfl rfl hk_104 ?_
    show Zr sc 94 32 [zp a0, zj x1, zj x2, zj r_81] [zj r_105] w_103 ov w' c s
    refine Zr_st (q := (33, [zp a0, zj x1, zj x2, zj r_81], [zj x1, zj r_105])) rfl rfl rfl ?_
    show Zr sc 94 33 [zp a0, zj x1, zj x2, zj r_81] [zj x1, zj r_105] w_103 ov w' c s
    obtain ⟨hr_106, h⟩ := h
    refine Zr_br (p := r_105 = x1) rfl rfl (zcmp_j (cnd := .eq) hr_106.1 hr_106.2) (fun hp => ?_) (fun hp => ?_)
    · replace h := h.1 hp
      show Zr sc 94 58 [zp a0, zj x1, zj x2, zj r_81] [] w_103 ov w' c s
      refine Zr_st (q := (59, [zp a0, zj x1, zj x2, zj r_81], [zj x1])) rfl rfl rfl ?_
      show Zr sc 94 59 [zp a0, zj x1, zj x2, zj r_81] [zj x1] w_103 ov w' c s
      refine Zr_st (q := (60, [zp a0, zj x1, zj x2, zj r_81], [zp a0, zj x1])) rfl rfl rfl ?_
      show Zr sc 94 60 [zp a0, zj x1, zj x2, zj r_81] [zp a0, zj x1] w_103 ov w' c s
      obtain ⟨f0_108, f1_109, f2_110, f3_111, f4_112, f5_113, f6_114, f7_115, f8_116, f9_117, f10_118, f11_119, f12_120, hw_107, h⟩ := h
      refine rl_gf rfl hw_107 rfl rfl ?_
      show Zr sc 94 63 [zp a0, zj x1, zj x2, zj r_81] [zp f0_108, zj x1] w_103 ov w' c s
      refine Zr_st (q := (64, [zp a0, zj x1, zj x2, zj r_81], [zj r_81, zp f0_108, zj x1])) rfl rfl rfl ?_
      show Zr sc 94 64 [zp a0, zj x1, zj x2, zj r_81] [zj r_81, zp f0_108, zj x1] w_103 ov w' c s
      obtain ⟨f0_122, f1_123, f2_124, f3_125, f4_126, f5_127, hw_121, h⟩ := h
      obtain ⟨r_130, w_128, hk_129, h⟩ := h
      refine rn_cal0 (ins := .invokevirtual 78) (rest := [zj x1]) rfl rfl rfl rfl (zinv_v (fs := _) hw_121 rfl rfl rfl rfl) rfl rfl hk_129 ?_
      show Zr sc 94 67 [zp a0, zj x1, zj x2, zj r_81] [zj r_130, zj x1] w_128 ov w' c s
      refine rl_add rfl ?_
      show Zr sc 94 68 [zp a0, zj x1, zj x2, zj r_81] [zj (x1 + r_130)] w_128 ov w' c s
      refine Zr_st (q := (69, [zp a0, zj (x1 + r_130), zj x2, zj r_81], [])) rfl rfl rfl ?_
      show Zr sc 94 69 [zp a0, zj (x1 + r_130), zj x2, zj r_81] [] w_128 ov w' c s
      refine rl_inc rfl rfl rfl rfl ?_
      show Zr sc 94 72 [zp a0, zj (x1 + r_130), zj (x2 + 1), zj r_81] [] w_128 ov w' c s
      refine Zr_st (q := (4, [zp a0, zj (x1 + r_130), zj (x2 + 1), zj r_81], [])) rfl rfl rfl ?_
      show Zr sc 94 4 [zp a0, zj (x1 + r_130), zj (x2 + 1), zj r_81] [] w_128 ov w' c s
      exact h
    · replace h := h.2 hp
      show Zr sc 94 36 [zp a0, zj x1, zj x2, zj r_81] [] w_103 ov w' c s
      refine Zr_st (q := (37, [zp a0, zj x1, zj x2, zj r_81], [zp a0])) rfl rfl rfl ?_
      show Zr sc 94 37 [zp a0, zj x1, zj x2, zj r_81] [zp a0] w_103 ov w' c s
      obtain ⟨f0_132, f1_133, f2_134, f3_135, f4_136, f5_137, f6_138, f7_139, f8_140, f9_141, f10_142, f11_143, f12_144, hw_131, h⟩ := h
      refine rl_gf rfl hw_131 rfl rfl ?_
      show Zr sc 94 40 [zp a0, zj x1, zj x2, zj r_81] [zp f0_132] w_103 ov w' c s
      refine Zr_st (q := (41, [zp a0, zj x1, zj x2, zj r_81], [zj r_81, zp f0_132])) rfl rfl rfl ?_
      show Zr sc 94 41 [zp a0, zj x1, zj x2, zj r_81] [zj r_81, zp f0_132] w_103 ov w' c s
      refine Zr_st (q := (42, [zp a0, zj x1, zj x2, zj r_81], [zj x1, zj r_81, zp f0_132])) rfl rfl rfl ?_
      show Zr sc 94 42 [zp a0, zj x1, zj x2, zj r_81] [zj x1, zj r_81, zp f0_132] w_103 ov w' c s
      obtain ⟨f0_146, f1_147, f2_148, f3_149, f4_150, f5_151, hw_145, h⟩ := h
      obtain ⟨w_152, hk_153, h⟩ := h
      refine rn_cal0 (ins := .invokevirtual 102) (rest := []) rfl rfl rfl rfl (zinv_v (fs := _) hw_145 rfl rfl rfl rfl) rfl rfl hk_153 ?_
      show Zr sc 94 45 [zp a0, zj x1, zj x2, zj r_81] [] w_152 ov w' c s
      refine Zr_st (q := (46, [zp a0, zj x1, zj x2, zj r_81], [zp a0])) rfl rfl rfl ?_
      show Zr sc 94 46 [zp a0, zj x1, zj x2, zj r_81] [zp a0] w_152 ov w' c s
      refine rl_ic rfl ?_
      show Zr sc 94 47 [zp a0, zj x1, zj x2, zj r_81] [zj 3, zp a0] w_152 ov w' c s
      refine Zr_st (q := (48, [zp a0, zj x1, zj x2, zj r_81], [zp a0, zj 3, zp a0])) rfl rfl rfl ?_
      show Zr sc 94 48 [zp a0, zj x1, zj x2, zj r_81] [zp a0, zj 3, zp a0] w_152 ov w' c s
      obtain ⟨f0_155, f1_156, f2_157, f3_158, f4_159, f5_160, f6_161, f7_162, f8_163, f9_164, f10_165, f11_166, f12_167, hw_154, h⟩ := h
      refine rl_gf rfl hw_154 rfl rfl ?_
      show Zr sc 94 51 [zp a0, zj x1, zj x2, zj r_81] [zp f0_155, zj 3, zp a0] w_152 ov w' c s
      refine Zr_st (q := (52, [zp a0, zj x1, zj x2, zj r_81], [zj r_81, zp f0_155, zj 3, zp a0])) rfl rfl rfl ?_
      show Zr sc 94 52 [zp a0, zj x1, zj x2, zj r_81] [zj r_81, zp f0_155, zj 3, zp a0] w_152 ov w' c s
      obtain ⟨f0_169, f1_170, f2_171, f3_172, f4_173, f5_174, hw_168, h⟩ := h
      obtain ⟨r_177, w_175, hk_176, h⟩ := h
      refine rn_cal0 (ins := .invokevirtual 78) (rest := [zj 3, zp a0]) rfl rfl rfl rfl (zinv_v (fs := _) hw_168 rfl rfl rfl rfl) rfl rfl hk_176 ?_
      show Zr sc 94 55 [zp a0, zj x1, zj x2, zj r_81] [zj r_177, zj 3, zp a0] w_175 ov w' c s
      obtain ⟨f0_179, f1_180, f2_181, f3_182, f4_183, f5_184, f6_185, f7_186, f8_187, f9_188, f10_189, f11_190, f12_191, hw_178, h⟩ := h
      obtain ⟨w_192, hk_193, h⟩ := h
      refine rn_cal0 (ins := .invokevirtual 91) (rest := []) rfl rfl rfl rfl (zinv_v (fs := _) hw_178 rfl rfl rfl rfl) rfl rfl hk_193 ?_
      show Zr sc 94 58 [zp a0, zj x1, zj x2, zj r_81] [] w_192 ov w' c s
      refine Zr_st (q := (59, [zp a0, zj x1, zj x2, zj r_81], [zj x1])) rfl rfl rfl ?_
      show Zr sc 94 59 [zp a0, zj x1, zj x2, zj r_81] [zj x1] w_192 ov w' c s
      refine Zr_st (q := (60, [zp a0, zj x1, zj x2, zj r_81], [zp a0, zj x1])) rfl rfl rfl ?_
      show Zr sc 94 60 [zp a0, zj x1, zj x2, zj r_81] [zp a0, zj x1] w_192 ov w' c s
      obtain ⟨f0_195, f1_196, f2_197, f3_198, f4_199, f5_200, f6_201, f7_202, f8_203, f9_204, f10_205, f11_206, f12_207, hw_194, h⟩ := h
      refine rl_gf rfl hw_194 rfl rfl ?_
      show Zr sc 94 63 [zp a0, zj x1, zj x2, zj r_81] [zp f0_195, zj x1] w_192 ov w' c s
      refine Zr_st (q := (64, [zp a0, zj x1, zj x2, zj r_81], [zj r_81, zp f0_195, zj x1])) rfl rfl rfl ?_
      show Zr sc 94 64 [zp a0, zj x1, zj x2, zj r_81] [zj r_81, zp f0_195, zj x1] w_192 ov w' c s
      obtain ⟨f0_209, f1_210, f2_211, f3_212, f4_213, f5_214, hw_208, h⟩ := h
      obtain ⟨r_217, w_215, hk_216, h⟩ := h
      refine rn_cal0 (ins := .invokevirtual 78) (rest := [zj x1]) rfl rfl rfl rfl (zinv_v (fs := _) hw_208 rfl rfl rfl rfl) rfl rfl hk_216 ?_
      show Zr sc 94 67 [zp a0, zj x1, zj x2, zj r_81] [zj r_217, zj x1] w_215 ov w' c s
      refine rl_add rfl ?_
      show Zr sc 94 68 [zp a0, zj x1, zj x2, zj r_81] [zj (x1 + r_217)] w_215 ov w' c s
      refine Zr_st (q := (69, [zp a0, zj (x1 + r_217), zj x2, zj r_81], [])) rfl rfl rfl ?_
      show Zr sc 94 69 [zp a0, zj (x1 + r_217), zj x2, zj r_81] [] w_215 ov w' c s
      refine rl_inc rfl rfl rfl rfl ?_
      show Zr sc 94 72 [zp a0, zj (x1 + r_217), zj (x2 + 1), zj r_81] [] w_215 ov w' c s
      refine Zr_st (q := (4, [zp a0, zj (x1 + r_217), zj (x2 + 1), zj r_81], [])) rfl rfl rfl ?_
      show Zr sc 94 4 [zp a0, zj (x1 + r_217), zj (x2 + 1), zj r_81] [] w_215 ov w' c s
      exact h

-- HeapwrightLab$Blocks.setPlace(II)V
set_option maxRecDepth 100000 in
theorem V95_0 {sc : List Value} {w w' : List zE} {ov : Option Value} {c s : Nat} {a0 : Nat} {x1 : Int} {x2 : Int} (h : (∃ f0_2 : Nat, ∃ f1_3 : Nat, ∃ f2_4 : Nat, ∃ f3_5 : Nat, ∃ f4_6 : Int, ∃ f5_7 : Int, w[a0]? = some (zob 0 [zp f0_2, zp f1_3, zp f2_4, zp f3_5, zj f4_6, zj f5_7]) ∧ (∃ r_10 : Int, ∃ w_8 : List zE, Zc sc 7 [zp a0, zj x1] w (some (zj r_10)) w_8 0 0 ∧ ((zrg r_10) ∧ ((r_10 = 0 → (ov = none ∧ w' = w_8 ∧ c = 0 ∧ s = 0)) ∧ (¬ (r_10 = 0) → (∃ f0_13 : Nat, ∃ f1_14 : Nat, ∃ f2_15 : Nat, ∃ f3_16 : Nat, ∃ f4_17 : Int, ∃ f5_18 : Int, w_8[a0]? = some (zob 0 [zp f0_13, zp f1_14, zp f2_15, zp f3_16, zj f4_17, zj f5_18]) ∧ (∃ l_21 : List Int, w_8[f0_13]? = some (za l_21) ∧ ((0 ≤ x1 ∧ x1 < (l_21.length : Int) ∧ x1 ≤ 2147483647) ∧ (ov = none ∧ w' = (w_8.set f0_13 (za (zsi l_21 x1 x2))) ∧ c = 0 ∧ s = 0)))))))))) : Zr sc 95 0 [zp a0, zj x1, zj x2] [] w ov w' c s := by
  refine Zr_st (q := (1, [zp a0, zj x1, zj x2], [zp a0])) rfl rfl rfl ?_
  show Zr sc 95 1 [zp a0, zj x1, zj x2] [zp a0] w ov w' c s
  refine Zr_st (q := (2, [zp a0, zj x1, zj x2], [zj x1, zp a0])) rfl rfl rfl ?_
  show Zr sc 95 2 [zp a0, zj x1, zj x2] [zj x1, zp a0] w ov w' c s
  obtain ⟨f0_2, f1_3, f2_4, f3_5, f4_6, f5_7, hw_1, h⟩ := h
  obtain ⟨r_10, w_8, hk_9, h⟩ := h
  refine rn_cal0 (ins := .invokevirtual 37) (rest := []) rfl rfl rfl rfl (zinv_v (fs := _) hw_1 rfl rfl rfl rfl) rfl rfl hk_9 ?_
  show Zr sc 95 5 [zp a0, zj x1, zj x2] [zj r_10] w_8 ov w' c s
  obtain ⟨hr_11, h⟩ := h
  refine Zr_b0 (p := r_10 = 0) rfl rfl (zcmp_0 (cnd := .eq) hr_11) (fun hp => ?_) (fun hp => ?_)
  · replace h := h.1 hp
    show Zr sc 95 15 [zp a0, zj x1, zj x2] [] w_8 ov w' c s
    obtain ⟨h1, h2, h3, h4⟩ := h
    subst h1; subst h2; subst h3; subst h4
    exact Zr_ret (ins := .return_) rfl rfl
  · replace h := h.2 hp
    show Zr sc 95 8 [zp a0, zj x1, zj x2] [] w_8 ov w' c s
    refine Zr_st (q := (9, [zp a0, zj x1, zj x2], [zp a0])) rfl rfl rfl ?_
    show Zr sc 95 9 [zp a0, zj x1, zj x2] [zp a0] w_8 ov w' c s
    obtain ⟨f0_13, f1_14, f2_15, f3_16, f4_17, f5_18, hw_12, h⟩ := h
    refine rl_gf rfl hw_12 rfl rfl ?_
    show Zr sc 95 12 [zp a0, zj x1, zj x2] [zp f0_13] w_8 ov w' c s
    refine Zr_st (q := (13, [zp a0, zj x1, zj x2], [zj x1, zp f0_13])) rfl rfl rfl ?_
    show Zr sc 95 13 [zp a0, zj x1, zj x2] [zj x1, zp f0_13] w_8 ov w' c s
    refine Zr_st (q := (14, [zp a0, zj x1, zj x2], [zj x2, zj x1, zp f0_13])) rfl rfl rfl ?_
    show Zr sc 95 14 [zp a0, zj x1, zj x2] [zj x2, zj x1, zp f0_13] w_8 ov w' c s
    obtain ⟨l_21, hw_20, h⟩ := h
    obtain ⟨hi_19, h⟩ := h
    refine rl_is rfl hw_20 hi_19.1 hi_19.2.1 hi_19.2.2 ?_
    show Zr sc 95 15 [zp a0, zj x1, zj x2] [] (w_8.set f0_13 (za (zsi l_21 x1 x2))) ov w' c s
    obtain ⟨h1, h2, h3, h4⟩ := h
    subst h1; subst h2; subst h3; subst h4
    exact Zr_ret (ins := .return_) rfl rfl

-- HeapwrightLab$Memory.pack()V
set_option maxRecDepth 100000 in
theorem V96_0_1 {sc : List Value} {w w' : List zE} {ov : Option Value} {c s : Nat} {a0 : Nat} (h : (ov = none ∧ w' = w ∧ c = 0 ∧ s = 0)) : Zr sc 96 0 [zp a0] [] w ov w' c s := by
  obtain ⟨h1, h2, h3, h4⟩ := h
  subst h1; subst h2; subst h3; subst h4
  exact Zr_ret (ins := .return_) rfl rfl

-- HeapwrightLab$Memory.pack()V
set_option maxRecDepth 100000 in
theorem V96_0_4 {sc : List Value} {w w' : List zE} {ov : Option Value} {c s : Nat} {a0 : Nat} (h : (ov = none ∧ w' = w ∧ c = 0 ∧ s = 0)) : Zr sc 96 0 [zp a0] [] w ov w' c s := by
  obtain ⟨h1, h2, h3, h4⟩ := h
  subst h1; subst h2; subst h3; subst h4
  exact Zr_ret (ins := .return_) rfl rfl

-- HeapwrightLab$Memory.leaveArena()V
set_option maxRecDepth 100000 in
theorem V97_0_1 {sc : List Value} {w w' : List zE} {ov : Option Value} {c s : Nat} {a0 : Nat} (h : (∃ f0_2 : Nat, ∃ f1_3 : Nat, ∃ f2_4 : Int, ∃ f3_5 : Int, ∃ f4_6 : Int, ∃ f5_7 : Int, ∃ f6_8 : Int, ∃ f7_9 : Nat, ∃ f8_10 : Nat, ∃ f9_11 : Int, ∃ f10_12 : Int, ∃ f11_13 : Int, ∃ f12_14 : Int, w[a0]? = some (zob 1 [zp f0_2, zp f1_3, zj f2_4, zj f3_5, zj f4_6, zj f5_7, zj f6_8, zp f7_9, zp f8_10, zj f9_11, zj f10_12, zj f11_13, zj f12_14]) ∧ Zr sc 97 7 [zp a0, zj (f9_11 - 1)] [] w ov w' c s)) : Zr sc 97 0 [zp a0, zmk] [] w ov w' c s := by
  refine Zr_st (q := (1, [zp a0, zmk], [zp a0])) rfl rfl rfl ?_
  show Zr sc 97 1 [zp a0, zmk] [zp a0] w ov w' c s
  obtain ⟨f0_2, f1_3, f2_4, f3_5, f4_6, f5_7, f6_8, f7_9, f8_10, f9_11, f10_12, f11_13, f12_14, hw_1, h⟩ := h
  refine rl_gf rfl hw_1 rfl rfl ?_
  show Zr sc 97 4 [zp a0, zmk] [zj f9_11] w ov w' c s
  refine rl_ic rfl ?_
  show Zr sc 97 5 [zp a0, zmk] [zj 1, zj f9_11] w ov w' c s
  refine rl_sub rfl ?_
  show Zr sc 97 6 [zp a0, zmk] [zj (f9_11 - 1)] w ov w' c s
  refine Zr_st (q := (7, [zp a0, zj (f9_11 - 1)], [])) rfl rfl rfl ?_
  show Zr sc 97 7 [zp a0, zj (f9_11 - 1)] [] w ov w' c s
  exact h
set_option maxRecDepth 100000 in
theorem V97_7_1 {sc : List Value} {w w' : List zE} {ov : Option Value} {c s : Nat} {a0 : Nat} {x1 : Int} (h : ((zrg x1) ∧ ((x1 < 0 → (∃ f0_3 : Nat, ∃ f1_4 : Nat, ∃ f2_5 : Int, ∃ f3_6 : Int, ∃ f4_7 : Int, ∃ f5_8 : Int, ∃ f6_9 : Int, ∃ f7_10 : Nat, ∃ f8_11 : Nat, ∃ f9_12 : Int, ∃ f10_13 : Int, ∃ f11_14 : Int, ∃ f12_15 : Int, w[a0]? = some (zob 1 [zp f0_3, zp f1_4, zj f2_5, zj f3_6, zj f4_7, zj f5_8, zj f6_9, zp f7_10, zp f8_11, zj f9_12, zj f10_13, zj f11_14, zj f12_15]) ∧ (ov = none ∧ w' = (w.set a0 (zob 1 [zp f0_3, zp f1_4, zj f2_5, zj f3_6, zj f4_7, zj f5_8, zj f6_9, zp f7_10, zp f8_11, zj f9_12, zj (f10_13 - 1), zj f11_14, zj f12_15])) ∧ c = 0 ∧ s = 0))) ∧ (¬ (x1 < 0) → (∃ f0_17 : Nat, ∃ f1_18 : Nat, ∃ f2_19 : Int, ∃ f3_20 : Int, ∃ f4_21 : Int, ∃ f5_22 : Int, ∃ f6_23 : Int, ∃ f7_24 : Nat, ∃ f8_25 : Nat, ∃ f9_26 : Int, ∃ f10_27 : Int, ∃ f11_28 : Int, ∃ f12_29 : Int, w[a0]? = some (zob 1 [zp f0_17, zp f1_18, zj f2_19, zj f3_20, zj f4_21, zj f5_22, zj f6_23, zp f7_24, zp f8_25, zj f9_26, zj f10_27, zj f11_28, zj f12_29]) ∧ (∃ l_32 : List Int, w[f8_25]? = some (za l_32) ∧ ((0 ≤ x1 ∧ x1 < (l_32.length : Int) ∧ x1 ≤ 2147483647) ∧ ((zrg (zgi l_32 x1) ∧ zrg f10_27) ∧ (((zgi l_32 x1) ≠ f10_27 → Zr sc 97 7 [zp a0, zj (x1 + (-1))] [] w ov w' c s) ∧ (¬ ((zgi l_32 x1) ≠ f10_27) → (∃ w_34 : List zE, Zc sc 83 [zp a0, zj x1] w none w_34 0 0 ∧ Zr sc 97 7 [zp a0, zj (x1 + (-1))] [] w_34 ov w' c s))))))))))) : Zr sc 97 7 [zp a0, zj x1] [] w ov w' c s := by
  refine Zr_st (q := (8, [zp a0, zj x1], [zj x1])) rfl rfl rfl ?_
  show Zr sc 97 8 [zp a0, zj x1] [zj x1] w ov w' c s
  obtain ⟨hr_1, h⟩ := h
  refine Zr_b0 (p := x1 < 0) rfl rfl (zcmp_0 (cnd := .lt) hr_1) (fun hp => ?_) (fun hp => ?_)
  · replace h := h.1 hp
    show Zr sc 97 35 [zp a0, zj x1] [] w ov w' c s
    refine Zr_st (q := (36, [zp a0, zj x1], [zp a0])) rfl rfl rfl ?_
    show Zr sc 97 36 [zp a0, zj x1] [zp a0] w ov w' c s
    refine Zr_st (q := (37, [zp a0, zj x1], [zp a0, zp a0])) rfl rfl rfl ?_
    show Zr sc 97 37 [zp a0, zj x1] [zp a0, zp a0] w ov w' c s
    obtain ⟨f0_3, f1_4, f2_5, f3_6, f4_7, f5_8, f6_9, f7_10, f8_11, f9_12, f10_13, f11_14, f12_15, hw_2, h⟩ := h
    refine rl_gf rfl hw_2 rfl rfl ?_
    show Zr sc 97 40 [zp a0, zj x1] [zj f10_13, zp a0] w ov w' c s
    refine rl_ic rfl ?_
    show Zr sc 97 41 [zp a0, zj x1] [zj 1, zj f10_13, zp a0] w ov w' c s
    refine rl_sub rfl ?_
    show Zr sc 97 42 [zp a0, zj x1] [zj (f10_13 - 1), zp a0] w ov w' c s
    refine rl_pf rfl hw_2 rfl rfl rfl ?_
    show Zr sc 97 45 [zp a0, zj x1] [] (w.set a0 (zob 1 [zp f0_3, zp f1_4, zj f2_5, zj f3_6, zj f4_7, zj f5_8, zj f6_9, zp f7_10, zp f8_11, zj f9_12, zj (f10_13 - 1), zj f11_14, zj f12_15])) ov w' c s
    obtain ⟨h1, h2, h3, h4⟩ := h
    subst h1; subst h2; subst h3; subst h4
    exact Zr_ret (ins := .return_) rfl rfl
  · replace h := h.2 hp
    show Zr sc 97 11 [zp a0, zj x1] [] w ov w' c s
    refine Zr_st (q := (12, [zp a0, zj x1], [zp a0])) rfl rfl rfl ?_
    show Zr sc 97 12 [zp a0, zj x1] [zp a0] w ov w' c s
    obtain ⟨f0_17, f1_18, f2_19, f3_20, f4_21, f5_22, f6_23, f7_24, f8_25, f9_26, f10_27, f11_28, f12_29, hw_16, h⟩ := h
    refine rl_gf rfl hw_16 rfl rfl ?_
    show Zr sc 97 15 [zp a0, zj x1] [zp f8_25] w ov w' c s
    refine Zr_st (q := (16, [zp a0, zj x1], [zj x1, zp f8_25])) rfl rfl rfl ?_
    show Zr sc 97 16 [zp a0, zj x1] [zj x1, zp f8_25] w ov w' c s
    obtain ⟨l_32, hw_31, h⟩ := h
    obtain ⟨hi_30, h⟩ := h
    refine rl_ia rfl hw_31 hi_30.1 hi_30.2.1 hi_30.2.2 ?_
    show Zr sc 97 17 [zp a0, zj x1] [zj (zgi l_32 x1)] w ov w' c s
    refine Zr_st (q := (18, [zp a0, zj x1], [zp a0, zj (zgi l_32 x1)])) rfl rfl rfl ?_
    show Zr sc 97 18 [zp a0, zj x1] [zp a0, zj (zgi l_32 x1)] w ov w' c s
    refine rl_gf rfl hw_16 rfl rfl ?_
    show Zr sc 97 21 [zp a0, zj x1] [zj f10_27, zj (zgi l_32 x1)] w ov w' c s
    obtain ⟨hr_33, h⟩ := h
    refine Zr_br (p := (zgi l_32 x1) ≠ f10_27) rfl rfl (zcmp_j (cnd := .ne) hr_33.1 hr_33.2) (fun hp => ?_) (fun hp => ?_)
    · replace h := h.1 hp
      show Zr sc 97 29 [zp a0, zj x1] [] w ov w' c s
      refine rl_inc rfl rfl rfl rfl ?_
      show Zr sc 97 32 [zp a0, zj (x1 + (-1))] [] w ov w' c s
      refine Zr_st (q := (7, [zp a0, zj (x1 + (-1))], [])) rfl rfl rfl ?_
      show Zr sc 97 7 [zp a0, zj (x1 + (-1))] [] w ov w' c s
      exact h
    · replace h := h.2 hp
      show Zr sc 97 24 [zp a0, zj x1] [] w ov w' c s
      refine Zr_st (q := (25, [zp a0, zj x1], [zp a0])) rfl rfl rfl ?_
      show Zr sc 97 25 [zp a0, zj x1] [zp a0] w ov w' c s
      refine Zr_st (q := (26, [zp a0, zj x1], [zj x1, zp a0])) rfl rfl rfl ?_
      show Zr sc 97 26 [zp a0, zj x1] [zj x1, zp a0] w ov w' c s
      obtain ⟨w_34, hk_35, h⟩ := h
      refine rn_cal0 (ins := .invokevirtual 97) (rest := []) rfl rfl rfl rfl (zinv_v (fs := _) hw_16 rfl rfl rfl rfl) rfl rfl hk_35 ?_
      show Zr sc 97 29 [zp a0, zj x1] [] w_34 ov w' c s
      refine rl_inc rfl rfl rfl rfl ?_
      show Zr sc 97 32 [zp a0, zj (x1 + (-1))] [] w_34 ov w' c s
      refine Zr_st (q := (7, [zp a0, zj (x1 + (-1))], [])) rfl rfl rfl ?_
      show Zr sc 97 7 [zp a0, zj (x1 + (-1))] [] w_34 ov w' c s
      exact h

-- HeapwrightLab$Memory.leaveArena()V
set_option maxRecDepth 100000 in
theorem V97_0_2 {sc : List Value} {w w' : List zE} {ov : Option Value} {c s : Nat} {a0 : Nat} (h : (∃ f0_2 : Nat, ∃ f1_3 : Nat, ∃ f2_4 : Int, ∃ f3_5 : Int, ∃ f4_6 : Int, ∃ f5_7 : Int, ∃ f6_8 : Int, ∃ f7_9 : Nat, ∃ f8_10 : Nat, ∃ f9_11 : Int, ∃ f10_12 : Int, ∃ f11_13 : Int, ∃ f12_14 : Int, w[a0]? = some (zob 2 [zp f0_2, zp f1_3, zj f2_4, zj f3_5, zj f4_6, zj f5_7, zj f6_8, zp f7_9, zp f8_10, zj f9_11, zj f10_12, zj f11_13, zj f12_14]) ∧ Zr sc 97 7 [zp a0, zj (f9_11 - 1)] [] w ov w' c s)) : Zr sc 97 0 [zp a0, zmk] [] w ov w' c s := by
  refine Zr_st (q := (1, [zp a0, zmk], [zp a0])) rfl rfl rfl ?_
  show Zr sc 97 1 [zp a0, zmk] [zp a0] w ov w' c s
  obtain ⟨f0_2, f1_3, f2_4, f3_5, f4_6, f5_7, f6_8, f7_9, f8_10, f9_11, f10_12, f11_13, f12_14, hw_1, h⟩ := h
  refine rl_gf rfl hw_1 rfl rfl ?_
  show Zr sc 97 4 [zp a0, zmk] [zj f9_11] w ov w' c s
  refine rl_ic rfl ?_
  show Zr sc 97 5 [zp a0, zmk] [zj 1, zj f9_11] w ov w' c s
  refine rl_sub rfl ?_
  show Zr sc 97 6 [zp a0, zmk] [zj (f9_11 - 1)] w ov w' c s
  refine Zr_st (q := (7, [zp a0, zj (f9_11 - 1)], [])) rfl rfl rfl ?_
  show Zr sc 97 7 [zp a0, zj (f9_11 - 1)] [] w ov w' c s
  exact h
set_option maxRecDepth 100000 in
theorem V97_7_2 {sc : List Value} {w w' : List zE} {ov : Option Value} {c s : Nat} {a0 : Nat} {x1 : Int} (h : ((zrg x1) ∧ ((x1 < 0 → (∃ f0_3 : Nat, ∃ f1_4 : Nat, ∃ f2_5 : Int, ∃ f3_6 : Int, ∃ f4_7 : Int, ∃ f5_8 : Int, ∃ f6_9 : Int, ∃ f7_10 : Nat, ∃ f8_11 : Nat, ∃ f9_12 : Int, ∃ f10_13 : Int, ∃ f11_14 : Int, ∃ f12_15 : Int, w[a0]? = some (zob 2 [zp f0_3, zp f1_4, zj f2_5, zj f3_6, zj f4_7, zj f5_8, zj f6_9, zp f7_10, zp f8_11, zj f9_12, zj f10_13, zj f11_14, zj f12_15]) ∧ (ov = none ∧ w' = (w.set a0 (zob 2 [zp f0_3, zp f1_4, zj f2_5, zj f3_6, zj f4_7, zj f5_8, zj f6_9, zp f7_10, zp f8_11, zj f9_12, zj (f10_13 - 1), zj f11_14, zj f12_15])) ∧ c = 0 ∧ s = 0))) ∧ (¬ (x1 < 0) → (∃ f0_17 : Nat, ∃ f1_18 : Nat, ∃ f2_19 : Int, ∃ f3_20 : Int, ∃ f4_21 : Int, ∃ f5_22 : Int, ∃ f6_23 : Int, ∃ f7_24 : Nat, ∃ f8_25 : Nat, ∃ f9_26 : Int, ∃ f10_27 : Int, ∃ f11_28 : Int, ∃ f12_29 : Int, w[a0]? = some (zob 2 [zp f0_17, zp f1_18, zj f2_19, zj f3_20, zj f4_21, zj f5_22, zj f6_23, zp f7_24, zp f8_25, zj f9_26, zj f10_27, zj f11_28, zj f12_29]) ∧ (∃ l_32 : List Int, w[f8_25]? = some (za l_32) ∧ ((0 ≤ x1 ∧ x1 < (l_32.length : Int) ∧ x1 ≤ 2147483647) ∧ ((zrg (zgi l_32 x1) ∧ zrg f10_27) ∧ (((zgi l_32 x1) ≠ f10_27 → Zr sc 97 7 [zp a0, zj (x1 + (-1))] [] w ov w' c s) ∧ (¬ ((zgi l_32 x1) ≠ f10_27) → (∃ w_34 : List zE, Zc sc 83 [zp a0, zj x1] w none w_34 0 0 ∧ Zr sc 97 7 [zp a0, zj (x1 + (-1))] [] w_34 ov w' c s))))))))))) : Zr sc 97 7 [zp a0, zj x1] [] w ov w' c s := by
  refine Zr_st (q := (8, [zp a0, zj x1], [zj x1])) rfl rfl rfl ?_
  show Zr sc 97 8 [zp a0, zj x1] [zj x1] w ov w' c s
  obtain ⟨hr_1, h⟩ := h
  refine Zr_b0 (p := x1 < 0) rfl rfl (zcmp_0 (cnd := .lt) hr_1) (fun hp => ?_) (fun hp => ?_)
  · replace h := h.1 hp
    show Zr sc 97 35 [zp a0, zj x1] [] w ov w' c s
    refine Zr_st (q := (36, [zp a0, zj x1], [zp a0])) rfl rfl rfl ?_
    show Zr sc 97 36 [zp a0, zj x1] [zp a0] w ov w' c s
    refine Zr_st (q := (37, [zp a0, zj x1], [zp a0, zp a0])) rfl rfl rfl ?_
    show Zr sc 97 37 [zp a0, zj x1] [zp a0, zp a0] w ov w' c s
    obtain ⟨f0_3, f1_4, f2_5, f3_6, f4_7, f5_8, f6_9, f7_10, f8_11, f9_12, f10_13, f11_14, f12_15, hw_2, h⟩ := h
    refine rl_gf rfl hw_2 rfl rfl ?_
    show Zr sc 97 40 [zp a0, zj x1] [zj f10_13, zp a0] w ov w' c s
    refine rl_ic rfl ?_
    show Zr sc 97 41 [zp a0, zj x1] [zj 1, zj f10_13, zp a0] w ov w' c s
    refine rl_sub rfl ?_
    show Zr sc 97 42 [zp a0, zj x1] [zj (f10_13 - 1), zp a0] w ov w' c s
    refine rl_pf rfl hw_2 rfl rfl rfl ?_
    show Zr sc 97 45 [zp a0, zj x1] [] (w.set a0 (zob 2 [zp f0_3, zp f1_4, zj f2_5, zj f3_6, zj f4_7, zj f5_8, zj f6_9, zp f7_10, zp f8_11, zj f9_12, zj (f10_13 - 1), zj f11_14, zj f12_15])) ov w' c s
    obtain ⟨h1, h2, h3, h4⟩ := h
    subst h1; subst h2; subst h3; subst h4
    exact Zr_ret (ins := .return_) rfl rfl
  · replace h := h.2 hp
    show Zr sc 97 11 [zp a0, zj x1] [] w ov w' c s
    refine Zr_st (q := (12, [zp a0, zj x1], [zp a0])) rfl rfl rfl ?_
    show Zr sc 97 12 [zp a0, zj x1] [zp a0] w ov w' c s
    obtain ⟨f0_17, f1_18, f2_19, f3_20, f4_21, f5_22, f6_23, f7_24, f8_25, f9_26, f10_27, f11_28, f12_29, hw_16, h⟩ := h
    refine rl_gf rfl hw_16 rfl rfl ?_
    show Zr sc 97 15 [zp a0, zj x1] [zp f8_25] w ov w' c s
    refine Zr_st (q := (16, [zp a0, zj x1], [zj x1, zp f8_25])) rfl rfl rfl ?_
    show Zr sc 97 16 [zp a0, zj x1] [zj x1, zp f8_25] w ov w' c s
    obtain ⟨l_32, hw_31, h⟩ := h
    obtain ⟨hi_30, h⟩ := h
    refine rl_ia rfl hw_31 hi_30.1 hi_30.2.1 hi_30.2.2 ?_
    show Zr sc 97 17 [zp a0, zj x1] [zj (zgi l_32 x1)] w ov w' c s
    refine Zr_st (q := (18, [zp a0, zj x1], [zp a0, zj (zgi l_32 x1)])) rfl rfl rfl ?_
    show Zr sc 97 18 [zp a0, zj x1] [zp a0, zj (zgi l_32 x1)] w ov w' c s
    refine rl_gf rfl hw_16 rfl rfl ?_
    show Zr sc 97 21 [zp a0, zj x1] [zj f10_27, zj (zgi l_32 x1)] w ov w' c s
    obtain ⟨hr_33, h⟩ := h
    refine Zr_br (p := (zgi l_32 x1) ≠ f10_27) rfl rfl (zcmp_j (cnd := .ne) hr_33.1 hr_33.2) (fun hp => ?_) (fun hp => ?_)
    · replace h := h.1 hp
      show Zr sc 97 29 [zp a0, zj x1] [] w ov w' c s
      refine rl_inc rfl rfl rfl rfl ?_
      show Zr sc 97 32 [zp a0, zj (x1 + (-1))] [] w ov w' c s
      refine Zr_st (q := (7, [zp a0, zj (x1 + (-1))], [])) rfl rfl rfl ?_
      show Zr sc 97 7 [zp a0, zj (x1 + (-1))] [] w ov w' c s
      exact h
    · replace h := h.2 hp
      show Zr sc 97 24 [zp a0, zj x1] [] w ov w' c s
      refine Zr_st (q := (25, [zp a0, zj x1], [zp a0])) rfl rfl rfl ?_
      show Zr sc 97 25 [zp a0, zj x1] [zp a0] w ov w' c s
      refine Zr_st (q := (26, [zp a0, zj x1], [zj x1, zp a0])) rfl rfl rfl ?_
      show Zr sc 97 26 [zp a0, zj x1] [zj x1, zp a0] w ov w' c s
      obtain ⟨w_34, hk_35, h⟩ := h
      refine rn_cal0 (ins := .invokevirtual 97) (rest := []) rfl rfl rfl rfl (zinv_v (fs := _) hw_16 rfl rfl rfl rfl) rfl rfl hk_35 ?_
      show Zr sc 97 29 [zp a0, zj x1] [] w_34 ov w' c s
      refine rl_inc rfl rfl rfl rfl ?_
      show Zr sc 97 32 [zp a0, zj (x1 + (-1))] [] w_34 ov w' c s
      refine Zr_st (q := (7, [zp a0, zj (x1 + (-1))], [])) rfl rfl rfl ?_
      show Zr sc 97 7 [zp a0, zj (x1 + (-1))] [] w_34 ov w' c s
      exact h

-- HeapwrightLab$Memory.leaveArena()V
set_option maxRecDepth 100000 in
theorem V97_0_4 {sc : List Value} {w w' : List zE} {ov : Option Value} {c s : Nat} {a0 : Nat} (h : (∃ f0_2 : Nat, ∃ f1_3 : Nat, ∃ f2_4 : Int, ∃ f3_5 : Int, ∃ f4_6 : Int, ∃ f5_7 : Int, ∃ f6_8 : Int, ∃ f7_9 : Nat, ∃ f8_10 : Nat, ∃ f9_11 : Int, ∃ f10_12 : Int, ∃ f11_13 : Int, ∃ f12_14 : Int, ∃ f13_15 : Nat, w[a0]? = some (zob 4 [zp f0_2, zp f1_3, zj f2_4, zj f3_5, zj f4_6, zj f5_7, zj f6_8, zp f7_9, zp f8_10, zj f9_11, zj f10_12, zj f11_13, zj f12_14, zp f13_15]) ∧ Zr sc 97 7 [zp a0, zj (f9_11 - 1)] [] w ov w' c s)) : Zr sc 97 0 [zp a0, zmk] [] w ov w' c s := by
  refine Zr_st (q := (1, [zp a0, zmk], [zp a0])) rfl rfl rfl ?_
  show Zr sc 97 1 [zp a0, zmk] [zp a0] w ov w' c s
  obtain ⟨f0_2, f1_3, f2_4, f3_5, f4_6, f5_7, f6_8, f7_9, f8_10, f9_11, f10_12, f11_13, f12_14, f13_15, hw_1, h⟩ := h
  refine rl_gf rfl hw_1 rfl rfl ?_
  show Zr sc 97 4 [zp a0, zmk] [zj f9_11] w ov w' c s
  refine rl_ic rfl ?_
  show Zr sc 97 5 [zp a0, zmk] [zj 1, zj f9_11] w ov w' c s
  refine rl_sub rfl ?_
  show Zr sc 97 6 [zp a0, zmk] [zj (f9_11 - 1)] w ov w' c s
  refine Zr_st (q := (7, [zp a0, zj (f9_11 - 1)], [])) rfl rfl rfl ?_
  show Zr sc 97 7 [zp a0, zj (f9_11 - 1)] [] w ov w' c s
  exact h
set_option maxRecDepth 100000 in
theorem V97_7_4 {sc : List Value} {w w' : List zE} {ov : Option Value} {c s : Nat} {a0 : Nat} {x1 : Int} (h : ((zrg x1) ∧ ((x1 < 0 → (∃ f0_3 : Nat, ∃ f1_4 : Nat, ∃ f2_5 : Int, ∃ f3_6 : Int, ∃ f4_7 : Int, ∃ f5_8 : Int, ∃ f6_9 : Int, ∃ f7_10 : Nat, ∃ f8_11 : Nat, ∃ f9_12 : Int, ∃ f10_13 : Int, ∃ f11_14 : Int, ∃ f12_15 : Int, ∃ f13_16 : Nat, w[a0]? = some (zob 4 [zp f0_3, zp f1_4, zj f2_5, zj f3_6, zj f4_7, zj f5_8, zj f6_9, zp f7_10, zp f8_11, zj f9_12, zj f10_13, zj f11_14, zj f12_15, zp f13_16]) ∧ (ov = none ∧ w' = (w.set a0 (zob 4 [zp f0_3, zp f1_4, zj f2_5, zj f3_6, zj f4_7, zj f5_8, zj f6_9, zp f7_10, zp f8_11, zj f9_12, zj (f10_13 - 1), zj f11_14, zj f12_15, zp f13_16])) ∧ c = 0 ∧ s = 0))) ∧ (¬ (x1 < 0) → (∃ f0_18 : Nat, ∃ f1_19 : Nat, ∃ f2_20 : Int, ∃ f3_21 : Int, ∃ f4_22 : Int, ∃ f5_23 : Int, ∃ f6_24 : Int, ∃ f7_25 : Nat, ∃ f8_26 : Nat, ∃ f9_27 : Int, ∃ f10_28 : Int, ∃ f11_29 : Int, ∃ f12_30 : Int, ∃ f13_31 : Nat, w[a0]? = some (zob 4 [zp f0_18, zp f1_19, zj f2_20, zj f3_21, zj f4_22, zj f5_23, zj f6_24, zp f7_25, zp f8_26, zj f9_27, zj f10_28, zj f11_29, zj f12_30, zp f13_31]) ∧ (∃ l_34 : List Int, w[f8_26]? = some (za l_34) ∧ ((0 ≤ x1 ∧ x1 < (l_34.length : Int) ∧ x1 ≤ 2147483647) ∧ ((zrg (zgi l_34 x1) ∧ zrg f10_28) ∧ (((zgi l_34 x1) ≠ f10_28 → Zr sc 97 7 [zp a0, zj (x1 + (-1))] [] w ov w' c s) ∧ (¬ ((zgi l_34 x1) ≠ f10_28) → (∃ w_36 : List zE, Zc sc 83 [zp a0, zj x1] w none w_36 0 0 ∧ Zr sc 97 7 [zp a0, zj (x1 + (-1))] [] w_36 ov w' c s))))))))))) : Zr sc 97 7 [zp a0, zj x1] [] w ov w' c s := by
  refine Zr_st (q := (8, [zp a0, zj x1], [zj x1])) rfl rfl rfl ?_
  show Zr sc 97 8 [zp a0, zj x1] [zj x1] w ov w' c s
  obtain ⟨hr_1, h⟩ := h
  refine Zr_b0 (p := x1 < 0) rfl rfl (zcmp_0 (cnd := .lt) hr_1) (fun hp => ?_) (fun hp => ?_)
  · replace h := h.1 hp
    show Zr sc 97 35 [zp a0, zj x1] [] w ov w' c s
    refine Zr_st (q := (36, [zp a0, zj x1], [zp a0])) rfl rfl rfl ?_
    show Zr sc 97 36 [zp a0, zj x1] [zp a0] w ov w' c s
    refine Zr_st (q := (37, [zp a0, zj x1], [zp a0, zp a0])) rfl rfl rfl ?_
    show Zr sc 97 37 [zp a0, zj x1] [zp a0, zp a0] w ov w' c s
    obtain ⟨f0_3, f1_4, f2_5, f3_6, f4_7, f5_8, f6_9, f7_10, f8_11, f9_12, f10_13, f11_14, f12_15, f13_16, hw_2, h⟩ := h
    refine rl_gf rfl hw_2 rfl rfl ?_
    show Zr sc 97 40 [zp a0, zj x1] [zj f10_13, zp a0] w ov w' c s
    refine rl_ic rfl ?_
    show Zr sc 97 41 [zp a0, zj x1] [zj 1, zj f10_13, zp a0] w ov w' c s
    refine rl_sub rfl ?_
    show Zr sc 97 42 [zp a0, zj x1] [zj (f10_13 - 1), zp a0] w ov w' c s
    refine rl_pf rfl hw_2 rfl rfl rfl ?_
    show Zr sc 97 45 [zp a0, zj x1] [] (w.set a0 (zob 4 [zp f0_3, zp f1_4, zj f2_5, zj f3_6, zj f4_7, zj f5_8, zj f6_9, zp f7_10, zp f8_11, zj f9_12, zj (f10_13 - 1), zj f11_14, zj f12_15, zp f13_16])) ov w' c s
    obtain ⟨h1, h2, h3, h4⟩ := h
    subst h1; subst h2; subst h3; subst h4
    exact Zr_ret (ins := .return_) rfl rfl
  · replace h := h.2 hp
    show Zr sc 97 11 [zp a0, zj x1] [] w ov w' c s
    refine Zr_st (q := (12, [zp a0, zj x1], [zp a0])) rfl rfl rfl ?_
    show Zr sc 97 12 [zp a0, zj x1] [zp a0] w ov w' c s
    obtain ⟨f0_18, f1_19, f2_20, f3_21, f4_22, f5_23, f6_24, f7_25, f8_26, f9_27, f10_28, f11_29, f12_30, f13_31, hw_17, h⟩ := h
    refine rl_gf rfl hw_17 rfl rfl ?_
    show Zr sc 97 15 [zp a0, zj x1] [zp f8_26] w ov w' c s
    refine Zr_st (q := (16, [zp a0, zj x1], [zj x1, zp f8_26])) rfl rfl rfl ?_
    show Zr sc 97 16 [zp a0, zj x1] [zj x1, zp f8_26] w ov w' c s
    obtain ⟨l_34, hw_33, h⟩ := h
    obtain ⟨hi_32, h⟩ := h
    refine rl_ia rfl hw_33 hi_32.1 hi_32.2.1 hi_32.2.2 ?_
    show Zr sc 97 17 [zp a0, zj x1] [zj (zgi l_34 x1)] w ov w' c s
    refine Zr_st (q := (18, [zp a0, zj x1], [zp a0, zj (zgi l_34 x1)])) rfl rfl rfl ?_
    show Zr sc 97 18 [zp a0, zj x1] [zp a0, zj (zgi l_34 x1)] w ov w' c s
    refine rl_gf rfl hw_17 rfl rfl ?_
    show Zr sc 97 21 [zp a0, zj x1] [zj f10_28, zj (zgi l_34 x1)] w ov w' c s
    obtain ⟨hr_35, h⟩ := h
    refine Zr_br (p := (zgi l_34 x1) ≠ f10_28) rfl rfl (zcmp_j (cnd := .ne) hr_35.1 hr_35.2) (fun hp => ?_) (fun hp => ?_)
    · replace h := h.1 hp
      show Zr sc 97 29 [zp a0, zj x1] [] w ov w' c s
      refine rl_inc rfl rfl rfl rfl ?_
      show Zr sc 97 32 [zp a0, zj (x1 + (-1))] [] w ov w' c s
      refine Zr_st (q := (7, [zp a0, zj (x1 + (-1))], [])) rfl rfl rfl ?_
      show Zr sc 97 7 [zp a0, zj (x1 + (-1))] [] w ov w' c s
      exact h
    · replace h := h.2 hp
      show Zr sc 97 24 [zp a0, zj x1] [] w ov w' c s
      refine Zr_st (q := (25, [zp a0, zj x1], [zp a0])) rfl rfl rfl ?_
      show Zr sc 97 25 [zp a0, zj x1] [zp a0] w ov w' c s
      refine Zr_st (q := (26, [zp a0, zj x1], [zj x1, zp a0])) rfl rfl rfl ?_
      show Zr sc 97 26 [zp a0, zj x1] [zj x1, zp a0] w ov w' c s
      obtain ⟨w_36, hk_37, h⟩ := h
      refine rn_cal0 (ins := .invokevirtual 97) (rest := []) rfl rfl rfl rfl (zinv_v (fs := _) hw_17 rfl rfl rfl rfl) rfl rfl hk_37 ?_
      show Zr sc 97 29 [zp a0, zj x1] [] w_36 ov w' c s
      refine rl_inc rfl rfl rfl rfl ?_
      show Zr sc 97 32 [zp a0, zj (x1 + (-1))] [] w_36 ov w' c s
      refine Zr_st (q := (7, [zp a0, zj (x1 + (-1))], [])) rfl rfl rfl ?_
      show Zr sc 97 7 [zp a0, zj (x1 + (-1))] [] w_36 ov w' c s
      exact h

-- HeapwrightLab.bestWay()I
set_option maxRecDepth 100000 in
theorem V98_0 {sc : List Value} {w w' : List zE} {ov : Option Value} {c s : Nat} {a0 : Nat} (h : Zr sc 98 4 [zp a0, zj 0, zj 1] [] w ov w' c s) : Zr sc 98 0 [zp a0, zmk, zmk] [] w ov w' c s := by
  refine rl_ic rfl ?_
  show Zr sc 98 1 [zp a0, zmk, zmk] [zj 0] w ov w' c s
  refine Zr_st (q := (2, [zp a0, zj 0, zmk], [])) rfl rfl rfl ?_
  show Zr sc 98 2 [zp a0, zj 0, zmk] [] w ov w' c s
  refine rl_ic rfl ?_
  show Zr sc 98 3 [zp a0, zj 0, zmk] [zj 1] w ov w' c s
  refine Zr_st (q := (4, [zp a0, zj 0, zj 1], [])) rfl rfl rfl ?_
  show Zr sc 98 4 [zp a0, zj 0, zj 1] [] w ov w' c s
  exact h
set_option maxRecDepth 100000 in
theorem V98_4 {sc : List Value} {w w' : List zE} {ov : Option Value} {c s : Nat} {a0 : Nat} {x1 : Int} {x2 : Int} (h : ((zrg x2 ∧ zrg 6) ∧ ((6 ≤ x2 → (ov = some (zj x1) ∧ w' = w ∧ c = 0 ∧ s = 0)) ∧ (¬ (6 ≤ x2) → (∃ f0_3 : Nat, ∃ f1_4 : Nat, ∃ f2_5 : Nat, ∃ f3_6 : Nat, ∃ f4_7 : Nat, ∃ f5_8 : Nat, ∃ f6_9 : Nat, ∃ f7_10 : Int, w[a0]? = some (zob 6 [zp f0_3, zp f1_4, zp f2_5, zp f3_6, zp f4_7, zp f5_8, zp f6_9, zj f7_10]) ∧ (∃ p_13 : Nat, ∃ w_11 : List zE, Zc sc 2 [zp a0, zj x2] w (some (zp p_13)) w_11 0 0 ∧ (∃ f0_15 : Nat, ∃ f1_16 : Nat, ∃ f2_17 : Nat, ∃ f3_18 : Nat, ∃ f4_19 : Nat, ∃ f5_20 : Nat, ∃ f6_21 : Nat, ∃ f7_22 : Int, w_11[a0]? = some (zob 6 [zp f0_15, zp f1_16, zp f2_17, zp f3_18, zp f4_19, zp f5_20, zp f6_21, zj f7_22]) ∧ (∃ cn_23 : Nat, ∃ fs_24 : List Value, w_11[p_13]? = some (zob cn_23 fs_24) ∧ (cn_23 = 1 ∨ cn_23 = 2 ∨ cn_23 = 4) ∧ (∃ p_31 : Nat, ∃ w_29 : List zE, Zc sc 57 [zp p_13, zp f0_15] w_11 (some (zp p_31)) w_29 0 0 ∧ (∃ f0_33 : Nat, ∃ f1_34 : Nat, ∃ f2_35 : Nat, ∃ f3_36 : Nat, ∃ f4_37 : Nat, ∃ f5_38 : Nat, ∃ f6_39 : Nat, ∃ f7_40 : Int, w_29[a0]? = some (zob 6 [zp f0_33, zp f1_34, zp f2_35, zp f3_36, zp f4_37, zp f5_38, zp f6_39, zj f7_40]) ∧ (∃ p_43 : Nat, ∃ w_41 : List zE, Zc sc 2 [zp a0, zj x1] w_29 (some (zp p_43)) w_41 0 0 ∧ (∃ f0_45 : Nat, ∃ f1_46 : Nat, ∃ f2_47 : Nat, ∃ f3_48 : Nat, ∃ f4_49 : Nat, ∃ f5_50 : Nat, ∃ f6_51 : Nat, ∃ f7_52 : Int, w_41[a0]? = some (zob 6 [zp f0_45, zp f1_46, zp f2_47, zp f3_48, zp f4_49, zp f5_50, zp f6_51, zj f7_52]) ∧ (∃ cn_53 : Nat, ∃ fs_54 : List Value, w_41[p_43]? = some (zob cn_53 fs_54) ∧ (cn_53 = 1 ∨ cn_53 = 2 ∨ cn_53 = 4) ∧ (∃ p_61 : Nat, ∃ w_59 : List zE, Zc sc 57 [zp p_43, zp f0_45] w_41 (some (zp p_61)) w_59 0 0 ∧ (∃ r_64 : Int, ∃ w_62 : List zE, Zc sc 99 [zp p_31, zp p_61] w_59 (some (zj r_64)) w_62 0 0 ∧ ((zrg r_64) ∧ ((r_64 = 0 → Zr sc 98 4 [zp a0, zj x1, zj (x2 + 1)] [] w_62 ov w' c s) ∧ (¬ (r_64 = 0) → Zr sc 98 4 [zp a0, zj x2, zj (x2 + 1)] [] w_62 ov w' c s)))))))))))))))))) : Zr sc 98 4 [zp a0, zj x1, zj x2] [] w ov w' c s := by
  refine Zr_st (q := (5, [zp a0, zj x1, zj x2], [zj x2])) rfl rfl rfl ?_
  show Zr sc 98 5 [zp a0, zj x1, zj x2] [zj x2] w ov w' c s
  refine rl_bi rfl (by decide) ?_
  show Zr sc 98 7 [zp a0, zj x1, zj x2] [zj 6, zj x2] w ov w' c s
  obtain ⟨hr_1, h⟩ := h
  refine Zr_br (p := 6 ≤ x2) rfl rfl (zcmp_j (cnd := .ge) hr_1.1 hr_1.2) (fun hp => ?_) (fun hp => ?_)
  · replace h := h.1 hp
    show Zr sc 98 48 [zp a0, zj x1, zj x2] [] w ov w' c s
    refine Zr_st (q := (49, [zp a0, zj x1, zj x2], [zj x1])) rfl rfl rfl ?_
    show Zr sc 98 49 [zp a0, zj x1, zj x2] [zj x1] w ov w' c s
    obtain ⟨h1, h2, h3, h4⟩ := h
    subst h1; subst h2; subst h3; subst h4
    exact Zr_ret (ins := .ireturn) rfl rfl
  · replace h := h.2 hp
    show Zr sc 98 10 [zp a0, zj x1, zj x2] [] w ov w' c s
    refine Zr_st (q := (11, [zp a0, zj x1, zj x2], [zp a0])) rfl rfl rfl ?_
    show Zr sc 98 11 [zp a0, zj x1, zj x2] [zp a0] w ov w' c s
    refine Zr_st (q := (12, [zp a0, zj x1, zj x2], [zj x2, zp a0])) rfl rfl rfl ?_
    show Zr sc 98 12 [zp a0, zj x1, zj x2] [zj x2, zp a0] w ov w' c s
    obtain ⟨f0_3, f1_4, f2_5, f3_6, f4_7, f5_8, f6_9, f7_10, hw_2, h⟩ := h
    obtain ⟨p_13, w_11, hk_12, h⟩ := h
    refine rn_cal0 (ins := .invokevirtual 70) (rest := []) rfl rfl rfl rfl (zinv_v (fs := _) hw_2 rfl rfl rfl rfl) rfl rfl hk_12 ?_
    show Zr sc 98 15 [zp a0, zj x1, zj x2] [zp p_13] w_11 ov w' c s
    refine Zr_st (q := (16, [zp a0, zj x1, zj x2], [zp a0, zp p_13])) rfl rfl rfl ?_
    show Zr sc 98 16 [zp a0, zj x1, zj x2] [zp a0, zp p_13] w_11 ov w' c s
    obtain ⟨f0_15, f1_16, f2_17, f3_18, f4_19, f5_20, f6_21, f7_22, hw_14, h⟩ := h
    refine rl_gf rfl hw_14 rfl rfl ?_
    show Zr sc 98 19 [zp a0, zj x1, zj x2] [zp f0_15, zp p_13] w_11 ov w' c s
    obtain ⟨cn_23, fs_24, hw_25, hcn_26, h⟩ := h
    have hz_27 : ∃ kd, zinv 98 (.invokevirtual 103) [zp f0_15, zp p_13] (false, w_11) = some (kd, 57, [zp p_13, zp f0_15], []) ∧ decide (kd < 6) = true := by rcases hcn_26 with rfl | rfl | rfl <;> exact zinv_u hw_25 rfl rfl rfl rfl rfl rfl rfl
    obtain ⟨kd_28, hz_27⟩ := hz_27
    obtain ⟨p_31, w_29, hk_30, h⟩ := h
    refine rn_cal0 (ins := .invokevirtual 103) (rest := []) rfl rfl rfl rfl hz_27.1 rfl hz_27.2 hk_30 ?_
    show Zr sc 98 22 [zp a0, zj x1, zj x2] [zp p_31] w_29 ov w' c s
    refine Zr_st (q := (23, [zp a0, zj x1, zj x2], [zp a0, zp p_31])) rfl rfl rfl ?_
    show Zr sc 98 23 [zp a0, zj x1, zj x2] [zp a0, zp p_31] w_29 ov w' c s
    refine Zr_st (q := (24, [zp a0, zj x1, zj x2], [zj x1, zp a0, zp p_31])) rfl rfl rfl ?_
    show Zr sc 98 24 [zp a0, zj x1, zj x2] [zj x1, zp a0, zp p_31] w_29 ov w' c s
    obtain ⟨f0_33, f1_34, f2_35, f3_36, f4_37, f5_38, f6_39, f7_40, hw_32, h⟩ := h
    obtain ⟨p_43, w_41, hk_42, h⟩ := h
    refine rn_cal0 (ins := .invokevirtual 70) (rest := [zp p_31]) rfl rfl rfl rfl (zinv_v (fs := _) hw_32 rfl rfl rfl rfl) rfl rfl hk_42 ?_
    show Zr sc 98 27 [zp a0, zj x1, zj x2] [zp p_43, zp p_31] w_41 ov w' c s
    refine Zr_st (q := (28, [zp a0, zj x1, zj x2], [zp a0, zp p_43, zp p_31])) rfl rfl rfl ?_
    show Zr sc 98 28 [zp a0, zj x1, zj x2] [zp a0, zp p_43, zp p_31] w_41 ov w' c s
    obtain ⟨f0_45, f1_46, f2_47, f3_48, f4_49, f5_50, f6_51, f7_52, hw_44, h⟩ := h
    refine rl_gf rfl hw_44 rfl rfl ?_
    show Zr sc 98 31 [zp a0, zj x1, zj x2] [zp f0_45, zp p_43, zp p_31] w_41 ov w' c s
    obtain ⟨cn_53, fs_54, hw_55, hcn_56, h⟩ := h
    have hz_57 : ∃ kd, zinv 98 (.invokevirtual 103) [zp f0_45, zp p_43, zp p_31] (false, w_41) = some (kd, 57, [zp p_43, zp f0_45], [zp p_31]) ∧ decide (kd < 6) = true := by rcases hcn_56 with rfl | rfl | rfl <;> exact zinv_u hw_55 rfl rfl rfl rfl rfl rfl rfl
    obtain ⟨kd_58, hz_57⟩ := hz_57
    obtain ⟨p_61, w_59, hk_60, h⟩ := h
    refine rn_cal0 (ins := .invokevirtual 103) (rest := [zp p_31]) rfl rfl rfl rfl hz_57.1 rfl hz_57.2 hk_60 ?_
    show Zr sc 98 34 [zp a0, zj x1, zj x2] [zp p_61, zp p_31] w_59 ov w' c s
    obtain ⟨r_64, w_62, hk_63, h⟩ := h
    refine rn_cal0 (ins := .invokestatic 197) (rest := []) rfl rfl rfl rfl (zinv_t rfl rfl rfl rfl) rfl rfl hk_63 ?_
    show Zr sc 98 37 [zp a0, zj x1, zj x2] [zj r_64] w_62 ov w' c s
    obtain ⟨hr_65, h⟩ := h
    refine Zr_b0 (p := r_64 = 0) rfl rfl (zcmp_0 (cnd := .eq) hr_65) (fun hp => ?_) (fun hp => ?_)
    · replace h := h.1 hp
      show Zr sc 98 42 [zp a0, zj x1, zj x2] [] w_62 ov w' c s
      refine rl_inc rfl rfl rfl rfl ?_
      show Zr sc 98 45 [zp a0, zj x1, zj (x2 + 1)] [] w_62 ov w' c s
      refine Zr_st (q := (4, [zp a0, zj x1, zj (x2 + 1)], [])) rfl rfl rfl ?_
      show Zr sc 98 4 [zp a0, zj x1, zj (x2 + 1)] [] w_62 ov w' c s
      exact h
    · replace h := h.2 hp
      show Zr sc 98 40 [zp a0, zj x1, zj x2] [] w_62 ov w' c s
      refine Zr_st (q := (41, [zp a0, zj x1, zj x2], [zj x2])) rfl rfl rfl ?_
      show Zr sc 98 41 [zp a0, zj x1, zj x2] [zj x2] w_62 ov w' c s
      refine Zr_st (q := (42, [zp a0, zj x2, zj x2], [])) rfl rfl rfl ?_
      show Zr sc 98 42 [zp a0, zj x2, zj x2] [] w_62 ov w' c s
      refine rl_inc rfl rfl rfl rfl ?_
      show Zr sc 98 45 [zp a0, zj x2, zj (x2 + 1)] [] w_62 ov w' c s
      refine Zr_st (q := (4, [zp a0, zj x2, zj (x2 + 1)], [])) rfl rfl rfl ?_
      show Zr sc 98 4 [zp a0, zj x2, zj (x2 + 1)] [] w_62 ov w' c s
      exact h

-- HeapwrightLab.isBetter(LHeapwrightLab$Memory;LHeapwrightLab$Memory;)Z
set_option maxRecDepth 100000 in
theorem V99_0 {sc : List Value} {w w' : List zE} {ov : Option Value} {c s : Nat} {a0 : Nat} {a1 : Nat} (h : (∃ cn_1 : Nat, ∃ fs_2 : List Value, w[a0]? = some (zob cn_1 fs_2) ∧ (cn_1 = 1 ∨ cn_1 = 2 ∨ cn_1 = 4) ∧ (∃ r_9 : Int, ∃ w_7 : List zE, Zc sc 34 [zp a0, zj 4] w (some (zj r_9)) w_7 0 0 ∧ (∃ cn_10 : Nat, ∃ fs_11 : List Value, w_7[a1]? = some (zob cn_10 fs_11) ∧ (cn_10 = 1 ∨ cn_10 = 2 ∨ cn_10 = 4) ∧ (∃ r_18 : Int, ∃ w_16 : List zE, Zc sc 34 [zp a1, zj 4] w_7 (some (zj r_18)) w_16 0 0 ∧ ((zrg r_9 ∧ zrg r_18) ∧ ((r_9 = r_18 → (∃ cn_20 : Nat, ∃ fs_21 : List Value, w_16[a0]? = some (zob cn_20 fs_21) ∧ (cn_20 = 1 ∨ cn_20 = 2 ∨ cn_20 = 4) ∧ (∃ r_28 : Int, ∃ w_26 : List zE, Zc sc 34 [zp a0, zj 5] w_16 (some (zj r_28)) w_26 0 0 ∧ (∃ cn_29 : Nat, ∃ fs_30 : List Value, w_26[a1]? = some (zob cn_29 fs_30) ∧ (cn_29 = 1 ∨ cn_29 = 2 ∨ cn_29 = 4) ∧ (∃ r_37 : Int, ∃ w_35 : List zE, Zc sc 34 [zp a1, zj 5] w_26 (some (zj r_37)) w_35 0 0 ∧ ((zrg r_28 ∧ zrg r_37) ∧ ((r_37 ≤ r_28 → (ov = some (zj 0) ∧ w' = w_35 ∧ c = 0 ∧ s = 0)) ∧ (¬ (r_37 ≤ r_28) → (ov = some (zj 1) ∧ w' = w_35 ∧ c = 0 ∧ s = 0))))))))) ∧ (¬ (r_9 = r_18) → (∃ cn_39 : Nat, ∃ fs_40 : List Value, w_16[a0]? = some (zob cn_39 fs_40) ∧ (cn_39 = 1 ∨ cn_39 = 2 ∨ cn_39 = 4) ∧ (∃ r_47 : Int, ∃ w_45 : List zE, Zc sc 34 [zp a0, zj 4] w_16 (some (zj r_47)) w_45 0 0 ∧ (∃ cn_48 : Nat, ∃ fs_49 : List Value, w_45[a1]? = some (zob cn_48 fs_49) ∧ (cn_48 = 1 ∨ cn_48 = 2 ∨ cn_48 = 4) ∧ (∃ r_56 : Int, ∃ w_54 : List zE, Zc sc 34 [zp a1, zj 4] w_45 (some (zj r_56)) w_54 0 0 ∧ ((zrg r_47 ∧ zrg r_56) ∧ ((r_56 ≤ r_47 → (ov = some (zj 0) ∧ w' = w_54 ∧ c = 0 ∧ s = 0)) ∧ (¬ (r_56 ≤ r_47) → (ov = some (zj 1) ∧ w' = w_54 ∧ c = 0 ∧ s = 0)))))))))))))))) : Zr sc 99 0 [zp a0, zp a1] [] w ov w' c s := by
  refine Zr_st (q := (1, [zp a0, zp a1], [zp a0])) rfl rfl rfl ?_
  show Zr sc 99 1 [zp a0, zp a1] [zp a0] w ov w' c s
  refine rl_ic rfl ?_
  show Zr sc 99 2 [zp a0, zp a1] [zj 4, zp a0] w ov w' c s
  obtain ⟨cn_1, fs_2, hw_3, hcn_4, h⟩ := h
  have hz_5 : ∃ kd, zinv 99 (.invokevirtual 128) [zj 4, zp a0] (false, w) = some (kd, 34, [zp a0, zj 4], []) ∧ decide (kd < 6) = true := by rcases hcn_4 with rfl | rfl | rfl <;> exact zinv_u hw_3 rfl rfl rfl rfl rfl rfl rfl
  obtain ⟨kd_6, hz_5⟩ := hz_5
  obtain ⟨r_9, w_7, hk_8, h⟩ := h
  refine rn_cal0 (ins := .invokevirtual 128) (rest := []) rfl rfl rfl rfl hz_5.1 rfl hz_5.2 hk_8 ?_
  show Zr sc 99 5 [zp a0, zp a1] [zj r_9] w_7 ov w' c s
  refine Zr_st (q := (6, [zp a0, zp a1], [zp a1, zj r_9])) rfl rfl rfl ?_
  show Zr sc 99 6 [zp a0, zp a1] [zp a1, zj r_9] w_7 ov w' c s
  refine rl_ic rfl ?_
  show Zr sc 99 7 [zp a0, zp a1] [zj 4, zp a1, zj r_9] w_7 ov w' c s
  obtain ⟨cn_10, fs_11, hw_12, hcn_13, h⟩ := h
  have hz_14 : ∃ kd, zinv 99 (.invokevirtual 128) [zj 4, zp a1, zj r_9] (false, w_7) = some (kd, 34, [zp a1, zj 4], [zj r_9]) ∧ decide (kd < 6) = true := by rcases hcn_13 with rfl | rfl | rfl <;> exact zinv_u hw_12 rfl rfl rfl rfl rfl rfl rfl
  obtain ⟨kd_15, hz_14⟩ := hz_14
  obtain ⟨r_18, w_16, hk_17, h⟩ := h
  refine rn_cal0 (ins := .invokevirtual 128) (rest := [zj r_9]) rfl rfl rfl rfl hz_14.1 rfl hz_14.2 hk_17 ?_
  show Zr sc 99 10 [zp a0, zp a1] [zj r_18, zj r_9] w_16 ov w' c s
  obtain ⟨hr_19, h⟩ := h
  refine Zr_br (p := r_9 = r_18) rfl rfl (zcmp_j (cnd := .eq) hr_19.1 hr_19.2) (fun hp => ?_) (fun hp => ?_)
  · replace h := h.1 hp
    show Zr sc 99 32 [zp a0, zp a1] [] w_16 ov w' c s
    refine Zr_st (q := (33, [zp a0, zp a1], [zp a0])) rfl rfl rfl ?_
    show Zr sc 99 33 [zp a0, zp a1] [zp a0] w_16 ov w' c s
    refine rl_ic rfl ?_
    show Zr sc 99 34 [zp a0, zp a1] [zj 5, zp a0] w_16 ov w' c s
    obtain ⟨cn_20, fs_21, hw_22, hcn_23, h⟩ := h
    have hz_24 : ∃ kd, zinv 99 (.invokevirtual 128) [zj 5, zp a0] (false, w_16) = some (kd, 34, [zp a0, zj 5], []) ∧ decide (kd < 6) = true := by rcases hcn_23 with rfl | rfl | rfl <;> exact zinv_u hw_22 rfl rfl rfl rfl rfl rfl rfl
    obtain ⟨kd_25, hz_24⟩ := hz_24
    obtain ⟨r_28, w_26, hk_27, h⟩ := h
    refine rn_cal0 (ins := .invokevirtual 128) (rest := []) rfl rfl rfl rfl hz_24.1 rfl hz_24.2 hk_27 ?_
    show Zr sc 99 37 [zp a0, zp a1] [zj r_28] w_26 ov w' c s
    refine Zr_st (q := (38, [zp a0, zp a1], [zp a1, zj r_28])) rfl rfl rfl ?_
    show Zr sc 99 38 [zp a0, zp a1] [zp a1, zj r_28] w_26 ov w' c s
    refine rl_ic rfl ?_
    show Zr sc 99 39 [zp a0, zp a1] [zj 5, zp a1, zj r_28] w_26 ov w' c s
    obtain ⟨cn_29, fs_30, hw_31, hcn_32, h⟩ := h
    have hz_33 : ∃ kd, zinv 99 (.invokevirtual 128) [zj 5, zp a1, zj r_28] (false, w_26) = some (kd, 34, [zp a1, zj 5], [zj r_28]) ∧ decide (kd < 6) = true := by rcases hcn_32 with rfl | rfl | rfl <;> exact zinv_u hw_31 rfl rfl rfl rfl rfl rfl rfl
    obtain ⟨kd_34, hz_33⟩ := hz_33
    obtain ⟨r_37, w_35, hk_36, h⟩ := h
    refine rn_cal0 (ins := .invokevirtual 128) (rest := [zj r_28]) rfl rfl rfl rfl hz_33.1 rfl hz_33.2 hk_36 ?_
    show Zr sc 99 42 [zp a0, zp a1] [zj r_37, zj r_28] w_35 ov w' c s
    obtain ⟨hr_38, h⟩ := h
    refine Zr_br (p := r_37 ≤ r_28) rfl rfl (zcmp_j (cnd := .ge) hr_38.1 hr_38.2) (fun hp => ?_) (fun hp => ?_)
    · replace h := h.1 hp
      show Zr sc 99 49 [zp a0, zp a1] [] w_35 ov w' c s
      refine rl_ic rfl ?_
      show Zr sc 99 50 [zp a0, zp a1] [zj 0] w_35 ov w' c s
      obtain ⟨h1, h2, h3, h4⟩ := h
      subst h1; subst h2; subst h3; subst h4
      exact Zr_ret (ins := .ireturn) rfl rfl
    · replace h := h.2 hp
      show Zr sc 99 45 [zp a0, zp a1] [] w_35 ov w' c s
      refine rl_ic rfl ?_
      show Zr sc 99 46 [zp a0, zp a1] [zj 1] w_35 ov w' c s
      refine Zr_st (q := (50, [zp a0, zp a1], [zj 1])) rfl rfl rfl ?_
      show Zr sc 99 50 [zp a0, zp a1] [zj 1] w_35 ov w' c s
      obtain ⟨h1, h2, h3, h4⟩ := h
      subst h1; subst h2; subst h3; subst h4
      exact Zr_ret (ins := .ireturn) rfl rfl
  · replace h := h.2 hp
    show Zr sc 99 13 [zp a0, zp a1] [] w_16 ov w' c s
    refine Zr_st (q := (14, [zp a0, zp a1], [zp a0])) rfl rfl rfl ?_
    show Zr sc 99 14 [zp a0, zp a1] [zp a0] w_16 ov w' c s
    refine rl_ic rfl ?_
    show Zr sc 99 15 [zp a0, zp a1] [zj 4, zp a0] w_16 ov w' c s
    obtain ⟨cn_39, fs_40, hw_41, hcn_42, h⟩ := h
    have hz_43 : ∃ kd, zinv 99 (.invokevirtual 128) [zj 4, zp a0] (false, w_16) = some (kd, 34, [zp a0, zj 4], []) ∧ decide (kd < 6) = true := by rcases hcn_42 with rfl | rfl | rfl <;> exact zinv_u hw_41 rfl rfl rfl rfl rfl rfl rfl
    obtain ⟨kd_44, hz_43⟩ := hz_43
    obtain ⟨r_47, w_45, hk_46, h⟩ := h
    refine rn_cal0 (ins := .invokevirtual 128) (rest := []) rfl rfl rfl rfl hz_43.1 rfl hz_43.2 hk_46 ?_
    show Zr sc 99 18 [zp a0, zp a1] [zj r_47] w_45 ov w' c s
    refine Zr_st (q := (19, [zp a0, zp a1], [zp a1, zj r_47])) rfl rfl rfl ?_
    show Zr sc 99 19 [zp a0, zp a1] [zp a1, zj r_47] w_45 ov w' c s
    refine rl_ic rfl ?_
    show Zr sc 99 20 [zp a0, zp a1] [zj 4, zp a1, zj r_47] w_45 ov w' c s
    obtain ⟨cn_48, fs_49, hw_50, hcn_51, h⟩ := h
    have hz_52 : ∃ kd, zinv 99 (.invokevirtual 128) [zj 4, zp a1, zj r_47] (false, w_45) = some (kd, 34, [zp a1, zj 4], [zj r_47]) ∧ decide (kd < 6) = true := by rcases hcn_51 with rfl | rfl | rfl <;> exact zinv_u hw_50 rfl rfl rfl rfl rfl rfl rfl
    obtain ⟨kd_53, hz_52⟩ := hz_52
    obtain ⟨r_56, w_54, hk_55, h⟩ := h
    refine rn_cal0 (ins := .invokevirtual 128) (rest := [zj r_47]) rfl rfl rfl rfl hz_52.1 rfl hz_52.2 hk_55 ?_
    show Zr sc 99 23 [zp a0, zp a1] [zj r_56, zj r_47] w_54 ov w' c s
    obtain ⟨hr_57, h⟩ := h
    refine Zr_br (p := r_56 ≤ r_47) rfl rfl (zcmp_j (cnd := .ge) hr_57.1 hr_57.2) (fun hp => ?_) (fun hp => ?_)
    · replace h := h.1 hp
      show Zr sc 99 30 [zp a0, zp a1] [] w_54 ov w' c s
      refine rl_ic rfl ?_
      show Zr sc 99 31 [zp a0, zp a1] [zj 0] w_54 ov w' c s
      obtain ⟨h1, h2, h3, h4⟩ := h
      subst h1; subst h2; subst h3; subst h4
      exact Zr_ret (ins := .ireturn) rfl rfl
    · replace h := h.2 hp
      show Zr sc 99 26 [zp a0, zp a1] [] w_54 ov w' c s
      refine rl_ic rfl ?_
      show Zr sc 99 27 [zp a0, zp a1] [zj 1] w_54 ov w' c s
      refine Zr_st (q := (31, [zp a0, zp a1], [zj 1])) rfl rfl rfl ?_
      show Zr sc 99 31 [zp a0, zp a1] [zj 1] w_54 ov w' c s
      obtain ⟨h1, h2, h3, h4⟩ := h
      subst h1; subst h2; subst h3; subst h4
      exact Zr_ret (ins := .ireturn) rfl rfl

-- HeapwrightLab.digest()J
set_option maxRecDepth 100000 in
theorem V100_0 {sc : List Value} {w w' : List zE} {ov : Option Value} {c s : Nat} {a0 : Nat} (h : (∃ f0_2 : Nat, ∃ f1_3 : Nat, ∃ f2_4 : Nat, ∃ f3_5 : Nat, ∃ f4_6 : Nat, ∃ f5_7 : Nat, ∃ f6_8 : Nat, ∃ f7_9 : Int, w[a0]? = some (zob 6 [zp f0_2, zp f1_3, zp f2_4, zp f3_5, zp f4_6, zp f5_7, zp f6_8, zj f7_9]) ∧ (∃ p_12 : Nat, ∃ w_10 : List zE, Zc sc 1 [zp a0] w (some (zp p_12)) w_10 0 0 ∧ (∃ f0_14 : Nat, ∃ f1_15 : Nat, ∃ f2_16 : Nat, ∃ f3_17 : Nat, ∃ f4_18 : Nat, ∃ f5_19 : Nat, ∃ f6_20 : Nat, ∃ f7_21 : Int, w_10[a0]? = some (zob 6 [zp f0_14, zp f1_15, zp f2_16, zp f3_17, zp f4_18, zp f5_19, zp f6_20, zj f7_21]) ∧ (∃ cn_22 : Nat, ∃ fs_23 : List Value, w_10[p_12]? = some (zob cn_22 fs_23) ∧ (cn_22 = 1 ∨ cn_22 = 2 ∨ cn_22 = 4) ∧ (∃ r_30 : Int, ∃ w_28 : List zE, Zc sc 3 [zp p_12] w_10 (some (zj r_30)) w_28 0 0 ∧ (∃ f0_32 : Nat, ∃ f1_33 : Nat, ∃ f2_34 : Nat, ∃ f3_35 : Nat, ∃ f4_36 : Nat, ∃ f5_37 : Nat, ∃ f6_38 : Nat, ∃ f7_39 : Int, w_28[a0]? = some (zob 6 [zp f0_32, zp f1_33, zp f2_34, zp f3_35, zp f4_36, zp f5_37, zp f6_38, zj f7_39]) ∧ (∃ f0_41 : Nat, ∃ f1_42 : Nat, ∃ f2_43 : Nat, ∃ f3_44 : Int, w_28[f0_32]? = some (zob 5 [zp f0_41, zp f1_42, zp f2_43, zj f3_44]) ∧ (∃ r_47 : Int, ∃ w_45 : List zE, Zc sc 58 [zp f0_32] w_28 (some (zj r_47)) w_45 0 0 ∧ (∃ cn_48 : Nat, ∃ fs_49 : List Value, w_45[p_12]? = some (zob cn_48 fs_49) ∧ (cn_48 = 1 ∨ cn_48 = 2 ∨ cn_48 = 4) ∧ (∃ r_56 : Int, ∃ w_54 : List zE, Zc sc 101 [zp p_12] w_45 (some (zj r_56)) w_54 0 0 ∧ (∃ cn_57 : Nat, ∃ fs_58 : List Value, w_54[p_12]? = some (zob cn_57 fs_58) ∧ (cn_57 = 1 ∨ cn_57 = 2 ∨ cn_57 = 4) ∧ (∃ p_65 : Nat, ∃ w_63 : List zE, Zc sc 6 [zp p_12] w_54 (some (zp p_65)) w_63 0 0 ∧ (∃ f0_67 : Nat, ∃ f1_68 : Nat, ∃ f2_69 : Nat, ∃ f3_70 : Nat, ∃ f4_71 : Int, ∃ f5_72 : Int, w_63[p_65]? = some (zob 0 [zp f0_67, zp f1_68, zp f2_69, zp f3_70, zj f4_71, zj f5_72]) ∧ (∃ r_75 : Int, ∃ w_73 : List zE, Zc sc 18 [zp p_65] w_63 (some (zj r_75)) w_73 0 0 ∧ (∃ f0_77 : Nat, ∃ f1_78 : Nat, ∃ f2_79 : Nat, ∃ f3_80 : Nat, ∃ f4_81 : Nat, ∃ f5_82 : Nat, ∃ f6_83 : Nat, ∃ f7_84 : Int, w_73[a0]? = some (zob 6 [zp f0_77, zp f1_78, zp f2_79, zp f3_80, zp f4_81, zp f5_82, zp f6_83, zj f7_84]) ∧ (∃ r_87 : Int, ∃ w_85 : List zE, Zc sc 27 [zp a0] w_73 (some (zj r_87)) w_85 0 0 ∧ (∃ f0_89 : Nat, ∃ f1_90 : Nat, ∃ f2_91 : Nat, ∃ f3_92 : Nat, ∃ f4_93 : Nat, ∃ f5_94 : Nat, ∃ f6_95 : Nat, ∃ f7_96 : Int, w_85[a0]? = some (zob 6 [zp f0_89, zp f1_90, zp f2_91, zp f3_92, zp f4_93, zp f5_94, zp f6_95, zj f7_96]) ∧ (∃ r_99 : Int, ∃ w_97 : List zE, Zc sc 29 [zp a0] w_85 (some (zj r_99)) w_97 0 0 ∧ (∃ f0_101 : Nat, ∃ f1_102 : Nat, ∃ f2_103 : Nat, ∃ f3_104 : Nat, ∃ f4_105 : Nat, ∃ f5_106 : Nat, ∃ f6_107 : Nat, ∃ f7_108 : Int, w_97[a0]? = some (zob 6 [zp f0_101, zp f1_102, zp f2_103, zp f3_104, zp f4_105, zp f5_106, zp f6_107, zj f7_108]) ∧ (∃ r_111 : Int, ∃ w_109 : List zE, Zc sc 31 [zp a0] w_97 (some (zj r_111)) w_109 0 0 ∧ (∃ f0_113 : Nat, ∃ f1_114 : Nat, ∃ f2_115 : Nat, ∃ f3_116 : Nat, ∃ f4_117 : Nat, ∃ f5_118 : Nat, ∃ f6_119 : Nat, ∃ f7_120 : Int, w_109[a0]? = some (zob 6 [zp f0_113, zp f1_114, zp f2_115, zp f3_116, zp f4_117, zp f5_118, zp f6_119, zj f7_120]) ∧ (∃ r_123 : Int, ∃ w_121 : List zE, Zc sc 35 [zp a0] w_109 (some (zj r_123)) w_121 0 0 ∧ (∃ cn_124 : Nat, ∃ fs_125 : List Value, w_121[p_12]? = some (zob cn_124 fs_125) ∧ (cn_124 = 1 ∨ cn_124 = 2 ∨ cn_124 = 4) ∧ (∃ r_132 : Int, ∃ w_130 : List zE, Zc sc 102 [zp p_12] w_121 (some (zj r_132)) w_130 0 0 ∧ Zr sc 100 138 [zp a0, zp p_12, .long ((((((((((((((((((((2657 * 31) + ((Int32.ofInt f7_21).toInt64)) * 31) + ((Int32.ofInt r_30).toInt64)) * 31) + ((Int32.ofInt r_47).toInt64)) * 31) + ((Int32.ofInt r_56).toInt64)) * 31) + ((Int32.ofInt r_75).toInt64)) * 31) + ((Int32.ofInt r_87).toInt64)) * 31) + ((Int32.ofInt r_99).toInt64)) * 31) + ((Int32.ofInt r_111).toInt64)) * 31) + ((Int32.ofInt r_123).toInt64)) * 31) + ((Int32.ofInt r_132).toInt64)), zmk, zj 0, zmk] [] w_130 ov w' c s))))))))))))))))))))))))) : Zr sc 100 0 [zp a0, zmk, zmk, zmk, zmk, zmk] [] w ov w' c s := by
  refine Zr_st (q := (1, [zp a0, zmk, zmk, zmk, zmk, zmk], [zp a0])) rfl rfl rfl ?_
  show Zr sc 100 1 [zp a0, zmk, zmk, zmk, zmk, zmk] [zp a0] w ov w' c s
  obtain ⟨f0_2, f1_3, f2_4, f3_5, f4_6, f5_7, f6_8, f7_9, hw_1, h⟩ := h
  obtain ⟨p_12, w_10, hk_11, h⟩ := h
  refine rn_cal0 (ins := .invokevirtual 83) (rest := []) rfl rfl rfl rfl (zinv_v (fs := _) hw_1 rfl rfl rfl rfl) rfl rfl hk_11 ?_
  show Zr sc 100 4 [zp a0, zmk, zmk, zmk, zmk, zmk] [zp p_12] w_10 ov w' c s
  refine Zr_st (q := (5, [zp a0, zp p_12, zmk, zmk, zmk, zmk], [])) rfl rfl rfl ?_
  show Zr sc 100 5 [zp a0, zp p_12, zmk, zmk, zmk, zmk] [] w_10 ov w' c s
  refine rl_lc (z := 2657) rfl rfl (by decide) ?_
  show Zr sc 100 8 [zp a0, zp p_12, zmk, zmk, zmk, zmk] [.long 2657] w_10 ov w' c s
  refine Zr_st (q := (9, [zp a0, zp p_12, .long 2657, zmk, zmk, zmk], [])) rfl rfl rfl ?_
  show Zr sc 100 9 [zp a0, zp p_12, .long 2657, zmk, zmk, zmk] [] w_10 ov w' c s
  refine Zr_st (q := (10, [zp a0, zp p_12, .long 2657, zmk, zmk, zmk], [.long 2657])) rfl rfl rfl ?_
  show Zr sc 100 10 [zp a0, zp p_12, .long 2657, zmk, zmk, zmk] [.long 2657] w_10 ov w' c s
  refine rl_lc (z := 31) rfl rfl (by decide) ?_
  show Zr sc 100 13 [zp a0, zp p_12, .long 2657, zmk, zmk, zmk] [.long 31, .long 2657] w_10 ov w' c s
  refine rl_lmul rfl ?_
  show Zr sc 100 14 [zp a0, zp p_12, .long 2657, zmk, zmk, zmk] [.long (2657 * 31)] w_10 ov w' c s
  refine Zr_st (q := (15, [zp a0, zp p_12, .long 2657, zmk, zmk, zmk], [zp a0, .long (2657 * 31)])) rfl rfl rfl ?_
  show Zr sc 100 15 [zp a0, zp p_12, .long 2657, zmk, zmk, zmk] [zp a0, .long (2657 * 31)] w_10 ov w' c s
  obtain ⟨f0_14, f1_15, f2_16, f3_17, f4_18, f5_19, f6_20, f7_21, hw_13, h⟩ := h
  refine rl_gf rfl hw_13 rfl rfl ?_
  show Zr sc 100 18 [zp a0, zp p_12, .long 2657, zmk, zmk, zmk] [zj f7_21, .long (2657 * 31)] w_10 ov w' c s
  refine rl_i2l rfl ?_
  show Zr sc 100 19 [zp a0, zp p_12, .long 2657, zmk, zmk, zmk] [.long ((Int32.ofInt f7_21).toInt64), .long (2657 * 31)] w_10 ov w' c s
  refine rl_ladd rfl ?_
  show Zr sc 100 20 [zp a0, zp p_12, .long 2657, zmk, zmk, zmk] [.long ((2657 * 31) + ((Int32.ofInt f7_21).toInt64))] w_10 ov w' c s
  refine Zr_st (q := (21, [zp a0, zp p_12, .long ((2657 * 31) + ((Int32.ofInt f7_21).toInt64)), zmk, zmk, zmk], [])) rfl rfl rfl ?_
  show Zr sc 100 21 [zp a0, zp p_12, .long ((2657 * 31) + ((Int32.ofInt f7_21).toInt64)), zmk, zmk, zmk] [] w_10 ov w' c s
  refine Zr_st (q := (22, [zp a0, zp p_12, .long ((2657 * 31) + ((Int32.ofInt f7_21).toInt64)), zmk, zmk, zmk], [.long ((2657 * 31) + ((Int32.ofInt f7_21).toInt64))])) rfl rfl rfl ?_
  show Zr sc 100 22 [zp a0, zp p_12, .long ((2657 * 31) + ((Int32.ofInt f7_21).toInt64)), zmk, zmk, zmk] [.long ((2657 * 31) + ((Int32.ofInt f7_21).toInt64))] w_10 ov w' c s
  refine rl_lc (z := 31) rfl rfl (by decide) ?_
  show Zr sc 100 25 [zp a0, zp p_12, .long ((2657 * 31) + ((Int32.ofInt f7_21).toInt64)), zmk, zmk, zmk] [.long 31, .long ((2657 * 31) + ((Int32.ofInt f7_21).toInt64))] w_10 ov w' c s
  refine rl_lmul rfl ?_
  show Zr sc 100 26 [zp a0, zp p_12, .long ((2657 * 31) + ((Int32.ofInt f7_21).toInt64)), zmk, zmk, zmk] [.long (((2657 * 31) + ((Int32.ofInt f7_21).toInt64)) * 31)] w_10 ov w' c s
  refine Zr_st (q := (27, [zp a0, zp p_12, .long ((2657 * 31) + ((Int32.ofInt f7_21).toInt64)), zmk, zmk, zmk], [zp p_12, .long (((2657 * 31) + ((Int32.ofInt f7_21).toInt64)) * 31)])) rfl rfl rfl ?_
  show Zr sc 100 27 [zp a0, zp p_12, .long ((2657 * 31) + ((Int32.ofInt f7_21).toInt64)), zmk, zmk, zmk] [zp p_12, .long (((2657 * 31) + ((Int32.ofInt f7_21).toInt64)) * 31)] w_10 ov w' c s
  obtain ⟨cn_22, fs_23, hw_24, hcn_25, h⟩ := h
  have hz_26 : ∃ kd, zinv 100 (.invokevirtual 87) [zp p_12, .long (((2657 * 31) + ((Int32.ofInt f7_21).toInt64)) * 31)] (false, w_10) = some (kd, 3, [zp p_12], [.long (((2657 * 31) + ((Int32.ofInt f7_21).toInt64)) * 31)]) ∧ decide (kd < 6) = true := by rcases hcn_25 with rfl | rfl | rfl <;> exact zinv_u hw_24 rfl rfl rfl rfl rfl rfl rfl
  obtain ⟨kd_27, hz_26⟩ := hz_26
  obtain ⟨r_30, w_28, hk_29, h⟩ := h
  refine rn_cal0 (ins := .invokevirtual 87) (rest := [.long (((2657 * 31) + ((Int32.ofInt f7_21).toInt64)) * 31)]) rfl rfl rfl rfl hz_26.1 rfl hz_26.2 hk_29 ?_
  show Zr sc 100 30 [zp a0, zp p_12, .long ((2657 * 31) + ((Int32.ofInt f7_21).toInt64)), zmk, zmk, zmk] [zj r_30, .long (((2657 * 31) + ((Int32.ofInt f7_21).toInt64)) * 31)] w_28 ov w' c s
  refine rl_i2l rfl ?_
  show Zr sc 100 31 [zp a0, zp p_12, .long ((2657 * 31) + ((Int32.ofInt f7_21).toInt64)), zmk, zmk, zmk] [.long ((Int32.ofInt r_30).toInt64), .long (((2657 * 31) + ((Int32.ofInt f7_21).toInt64)) * 31)] w_28 ov w' c s
  refine rl_ladd rfl ?_
  show Zr sc 100 32 [zp a0, zp p_12, .long ((2657 * 31) + ((Int32.ofInt f7_21).toInt64)), zmk, zmk, zmk] [.long ((((2657 * 31) + ((Int32.ofInt f7_21).toInt64)) * 31) + ((Int32.ofInt r_30).toInt64))] w_28 ov w' c s
  refine Zr_st (q := (33, [zp a0, zp p_12, .long ((((2657 * 31) + ((Int32.ofInt f7_21).toInt64)) * 31) + ((Int32.ofInt r_30).toInt64)), zmk, zmk, zmk], [])) rfl rfl rfl ?_
  show Zr sc 100 33 [zp a0, zp p_12, .long ((((2657 * 31) + ((Int32.ofInt f7_21).toInt64)) * 31) + ((Int32.ofInt r_30).toInt64)), zmk, zmk, zmk] [] w_28 ov w' c s
  refine Zr_st (q := (34, [zp a0, zp p_12, .long ((((2657 * 31) + ((Int32.ofInt f7_21).toInt64)) * 31) + ((Int32.ofInt r_30).toInt64)), zmk, zmk, zmk], [.long ((((2657 * 31) + ((Int32.ofInt f7_21).toInt64)) * 31) + ((Int32.ofInt r_30).toInt64))])) rfl rfl rfl ?_
  show Zr sc 100 34 [zp a0, zp p_12, .long ((((2657 * 31) + ((Int32.ofInt f7_21).toInt64)) * 31) + ((Int32.ofInt r_30).toInt64)), zmk, zmk, zmk] [.long ((((2657 * 31) + ((Int32.ofInt f7_21).toInt64)) * 31) + ((Int32.ofInt r_30).toInt64))] w_28 ov w' c s
  refine rl_lc (z := 31) rfl rfl (by decide) ?_
  show Zr sc 100 37 [zp a0, zp p_12, .long ((((2657 * 31) + ((Int32.ofInt f7_21).toInt64)) * 31) + ((Int32.ofInt r_30).toInt64)), zmk, zmk, zmk] [.long 31, .long ((((2657 * 31) + ((Int32.ofInt f7_21).toInt64)) * 31) + ((Int32.ofInt r_30).toInt64))] w_28 ov w' c s
  refine rl_lmul rfl ?_
  show Zr sc 100 38 [zp a0, zp p_12, .long ((((2657 * 31) + ((Int32.ofInt f7_21).toInt64)) * 31) + ((Int32.ofInt r_30).toInt64)), zmk, zmk, zmk] [.long (((((2657 * 31) + ((Int32.ofInt f7_21).toInt64)) * 31) + ((Int32.ofInt r_30).toInt64)) * 31)] w_28 ov w' c s
  refine Zr_st (q := (39, [zp a0, zp p_12, .long ((((2657 * 31) + ((Int32.ofInt f7_21).toInt64)) * 31) + ((Int32.ofInt r_30).toInt64)), zmk, zmk, zmk], [zp a0, .long (((((2657 * 31) + ((Int32.ofInt f7_21).toInt64)) * 31) + ((Int32.ofInt r_30).toInt64)) * 31)])) rfl rfl rfl ?_
  show Zr sc 100 39 [zp a0, zp p_12, .long ((((2657 * 31) + ((Int32.ofInt f7_21).toInt64)) * 31) + ((Int32.ofInt r_30).toInt64)), zmk, zmk, zmk] [zp a0, .long (((((2657 * 31) + ((Int32.ofInt f7_21).toInt64)) * 31) + ((Int32.ofInt r_30).toInt64)) * 31)] w_28 ov w' c s
  obtain ⟨f0_32, f1_33, f2_34, f3_35, f4_36, f5_37, f6_38, f7_39, hw_31, h⟩ := h
  refine rl_gf rfl hw_31 rfl rfl ?_
  show Zr sc 100 42 [zp a0, zp p_12, .long ((((2657 * 31) + ((Int32.ofInt f7_21).toInt64)) * 31) + ((Int32.ofInt r_30).toInt64)), zmk, zmk, zmk] [zp f0_32, .long (((((2657 * 31) + ((Int32.ofInt f7_21).toInt64)) * 31) + ((Int32.ofInt r_30).toInt64)) * 31)] w_28 ov w' c s
  obtain ⟨f0_41, f1_42, f2_43, f3_44, hw_40, h⟩ := h
  obtain ⟨r_47, w_45, hk_46, h⟩ := h
  refine rn_cal0 (ins := .invokevirtual 141) (rest := [.long (((((2657 * 31) + ((Int32.ofInt f7_21).toInt64)) * 31) + ((Int32.ofInt r_30).toInt64)) * 31)]) rfl rfl rfl rfl (zinv_v (fs := _) hw_40 rfl rfl rfl rfl) rfl rfl hk_46 ?_
  show Zr sc 100 45 [zp a0, zp p_12, .long ((((2657 * 31) + ((Int32.ofInt f7_21).toInt64)) * 31) + ((Int32.ofInt r_30).toInt64)), zmk, zmk, zmk] [zj r_47, .long (((((2657 * 31) + ((Int32.ofInt f7_21).toInt64)) * 31) + ((Int32.ofInt r_30).toInt64)) * 31)] w_45 ov w' c s
  refine rl_i2l rfl ?_
  show Zr sc 100 46 [zp a0, zp p_12, .long ((((2657 * 31) + ((Int32.ofInt f7_21).toInt64)) * 31) + ((Int32.ofInt r_30).toInt64)), zmk, zmk, zmk] [.long ((Int32.ofInt r_47).toInt64), .long (((((2657 * 31) + ((Int32.ofInt f7_21).toInt64)) * 31) + ((Int32.ofInt r_30).toInt64)) * 31)] w_45 ov w' c s
  refine rl_ladd rfl ?_
  show Zr sc 100 47 [zp a0, zp p_12, .long ((((2657 * 31) + ((Int32.ofInt f7_21).toInt64)) * 31) + ((Int32.ofInt r_30).toInt64)), zmk, zmk, zmk] [.long ((((((2657 * 31) + ((Int32.ofInt f7_21).toInt64)) * 31) + ((Int32.ofInt r_30).toInt64)) * 31) + ((Int32.ofInt r_47).toInt64))] w_45 ov w' c s
  refine Zr_st (q := (48, [zp a0, zp p_12, .long ((((((2657 * 31) + ((Int32.ofInt f7_21).toInt64)) * 31) + ((Int32.ofInt r_30).toInt64)) * 31) + ((Int32.ofInt r_47).toInt64)), zmk, zmk, zmk], [])) rfl rfl rfl ?_
  show Zr sc 100 48 [zp a0, zp p_12, .long ((((((2657 * 31) + ((Int32.ofInt f7_21).toInt64)) * 31) + ((Int32.ofInt r_30).toInt64)) * 31) + ((Int32.ofInt r_47).toInt64)), zmk, zmk, zmk] [] w_45 ov w' c s
  refine Zr_st (q := (49, [zp a0, zp p_12, .long ((((((2657 * 31) + ((Int32.ofInt f7_21).toInt64)) * 31) + ((Int32.ofInt r_30).toInt64)) * 31) + ((Int32.ofInt r_47).toInt64)), zmk, zmk, zmk], [.long ((((((2657 * 31) + ((Int32.ofInt f7_21).toInt64)) * 31) + ((Int32.ofInt r_30).toInt64)) * 31) + ((Int32.ofInt r_47).toInt64))])) rfl rfl rfl ?_
  show Zr sc 100 49 [zp a0, zp p_12, .long ((((((2657 * 31) + ((Int32.ofInt f7_21).toInt64)) * 31) + ((Int32.ofInt r_30).toInt64)) * 31) + ((Int32.ofInt r_47).toInt64)), zmk, zmk, zmk] [.long ((((((2657 * 31) + ((Int32.ofInt f7_21).toInt64)) * 31) + ((Int32.ofInt r_30).toInt64)) * 31) + ((Int32.ofInt r_47).toInt64))] w_45 ov w' c s
  refine rl_lc (z := 31) rfl rfl (by decide) ?_
  show Zr sc 100 52 [zp a0, zp p_12, .long ((((((2657 * 31) + ((Int32.ofInt f7_21).toInt64)) * 31) + ((Int32.ofInt r_30).toInt64)) * 31) + ((Int32.ofInt r_47).toInt64)), zmk, zmk, zmk] [.long 31, .long ((((((2657 * 31) + ((Int32.ofInt f7_21).toInt64)) * 31) + ((Int32.ofInt r_30).toInt64)) * 31) + ((Int32.ofInt r_47).toInt64))] w_45 ov w' c s
  refine rl_lmul rfl ?_
  show Zr sc 100 53 [zp a0, zp p_12, .long ((((((2657 * 31) + ((Int32.ofInt f7_21).toInt64)) * 31) + ((Int32.ofInt r_30).toInt64)) * 31) + ((Int32.ofInt r_47).toInt64)), zmk, zmk, zmk] [.long (((((((2657 * 31) + ((Int32.ofInt f7_21).toInt64)) * 31) + ((Int32.ofInt r_30).toInt64)) * 31) + ((Int32.ofInt r_47).toInt64)) * 31)] w_45 ov w' c s
  refine Zr_st (q := (54, [zp a0, zp p_12, .long ((((((2657 * 31) + ((Int32.ofInt f7_21).toInt64)) * 31) + ((Int32.ofInt r_30).toInt64)) * 31) + ((Int32.ofInt r_47).toInt64)), zmk, zmk, zmk], [zp p_12, .long (((((((2657 * 31) + ((Int32.ofInt f7_21).toInt64)) * 31) + ((Int32.ofInt r_30).toInt64)) * 31) + ((Int32.ofInt r_47).toInt64)) * 31)])) rfl rfl rfl ?_
  show Zr sc 100 54 [zp a0, zp p_12, .long ((((((2657 * 31) + ((Int32.ofInt f7_21).toInt64)) * 31) + ((Int32.ofInt r_30).toInt64)) * 31) + ((Int32.ofInt r_47).toInt64)), zmk, zmk, zmk] [zp p_12, .long (((((((2657 * 31) + ((Int32.ofInt f7_21).toInt64)) * 31) + ((Int32.ofInt r_30).toInt64)) * 31) + ((Int32.ofInt r_47).toInt64)) * 31)] w_45 ov w' c s
  obtain ⟨cn_48, fs_49, hw_50, hcn_51, h⟩ := h
  have hz_52 : ∃ kd, zinv 100 (.invokevirtual 131) [zp p_12, .long (((((((2657 * 31) + ((Int32.ofInt f7_21).toInt64)) * 31) + ((Int32.ofInt r_30).toInt64)) * 31) + ((Int32.ofInt r_47).toInt64)) * 31)] (false, w_45) = some (kd, 101, [zp p_12], [.long (((((((2657 * 31) + ((Int32.ofInt f7_21).toInt64)) * 31) + ((Int32.ofInt r_30).toInt64)) * 31) + ((Int32.ofInt r_47).toInt64)) * 31)]) ∧ decide (kd < 6) = true := by rcases hcn_51 with rfl | rfl | rfl <;> exact zinv_u hw_50 rfl rfl rfl rfl rfl rfl rfl
  obtain ⟨kd_53, hz_52⟩ := hz_52
  obtain ⟨r_56, w_54, hk_55, h⟩ := h
  refine rn_cal0 (ins := .invokevirtual 131) (rest := [.long (((((((2657 * 31) + ((Int32.ofInt f7_21).toInt64)) * 31) + ((Int32.ofInt r_30).toInt64)) * 31) + ((Int32.ofInt r_47).toInt64)) * 31)]) rfl rfl rfl rfl hz_52.1 rfl hz_52.2 hk_55 ?_
  show Zr sc 100 57 [zp a0, zp p_12, .long ((((((2657 * 31) + ((Int32.ofInt f7_21).toInt64)) * 31) + ((Int32.ofInt r_30).toInt64)) * 31) + ((Int32.ofInt r_47).toInt64)), zmk, zmk, zmk] [zj r_56, .long (((((((2657 * 31) + ((Int32.ofInt f7_21).toInt64)) * 31) + ((Int32.ofInt r_30).toInt64)) * 31) + ((Int32.ofInt r_47).toInt64)) * 31)] w_54 ov w' c s
  refine rl_i2l rfl ?_
  show Zr sc 100 58 [zp a0, zp p_12, .long ((((((2657 * 31) + ((Int32.ofInt f7_21).toInt64)) * 31) + ((Int32.ofInt r_30).toInt64)) * 31) + ((Int32.ofInt r_47).toInt64)), zmk, zmk, zmk] [.long ((Int32.ofInt r_56).toInt64), .long (((((((2657 * 31) + ((Int32.ofInt f7_21).toInt64)) * 31) + ((Int32.ofInt r_30).toInt64)) * 31) + ((Int32.ofInt r_47).toInt64)) * 31)] w_54 ov w' c s
  refine rl_ladd rfl ?_
  show Zr sc 100 59 [zp a0, zp p_12, .long ((((((2657 * 31) + ((Int32.ofInt f7_21).toInt64)) * 31) + ((Int32.ofInt r_30).toInt64)) * 31) + ((Int32.ofInt r_47).toInt64)), zmk, zmk, zmk] [.long ((((((((2657 * 31) + ((Int32.ofInt f7_21).toInt64)) * 31) + ((Int32.ofInt r_30).toInt64)) * 31) + ((Int32.ofInt r_47).toInt64)) * 31) + ((Int32.ofInt r_56).toInt64))] w_54 ov w' c s
  refine Zr_st (q := (60, [zp a0, zp p_12, .long ((((((((2657 * 31) + ((Int32.ofInt f7_21).toInt64)) * 31) + ((Int32.ofInt r_30).toInt64)) * 31) + ((Int32.ofInt r_47).toInt64)) * 31) + ((Int32.ofInt r_56).toInt64)), zmk, zmk, zmk], [])) rfl rfl rfl ?_
  show Zr sc 100 60 [zp a0, zp p_12, .long ((((((((2657 * 31) + ((Int32.ofInt f7_21).toInt64)) * 31) + ((Int32.ofInt r_30).toInt64)) * 31) + ((Int32.ofInt r_47).toInt64)) * 31) + ((Int32.ofInt r_56).toInt64)), zmk, zmk, zmk] [] w_54 ov w' c s
  refine Zr_st (q := (61, [zp a0, zp p_12, .long ((((((((2657 * 31) + ((Int32.ofInt f7_21).toInt64)) * 31) + ((Int32.ofInt r_30).toInt64)) * 31) + ((Int32.ofInt r_47).toInt64)) * 31) + ((Int32.ofInt r_56).toInt64)), zmk, zmk, zmk], [.long ((((((((2657 * 31) + ((Int32.ofInt f7_21).toInt64)) * 31) + ((Int32.ofInt r_30).toInt64)) * 31) + ((Int32.ofInt r_47).toInt64)) * 31) + ((Int32.ofInt r_56).toInt64))])) rfl rfl rfl ?_
  show Zr sc 100 61 [zp a0, zp p_12, .long ((((((((2657 * 31) + ((Int32.ofInt f7_21).toInt64)) * 31) + ((Int32.ofInt r_30).toInt64)) * 31) + ((Int32.ofInt r_47).toInt64)) * 31) + ((Int32.ofInt r_56).toInt64)), zmk, zmk, zmk] [.long ((((((((2657 * 31) + ((Int32.ofInt f7_21).toInt64)) * 31) + ((Int32.ofInt r_30).toInt64)) * 31) + ((Int32.ofInt r_47).toInt64)) * 31) + ((Int32.ofInt r_56).toInt64))] w_54 ov w' c s
  refine rl_lc (z := 31) rfl rfl (by decide) ?_
  show Zr sc 100 64 [zp a0, zp p_12, .long ((((((((2657 * 31) + ((Int32.ofInt f7_21).toInt64)) * 31) + ((Int32.ofInt r_30).toInt64)) * 31) + ((Int32.ofInt r_47).toInt64)) * 31) + ((Int32.ofInt r_56).toInt64)), zmk, zmk, zmk] [.long 31, .long ((((((((2657 * 31) + ((Int32.ofInt f7_21).toInt64)) * 31) + ((Int32.ofInt r_30).toInt64)) * 31) + ((Int32.ofInt r_47).toInt64)) * 31) + ((Int32.ofInt r_56).toInt64))] w_54 ov w' c s
  refine rl_lmul rfl ?_
  show Zr sc 100 65 [zp a0, zp p_12, .long ((((((((2657 * 31) + ((Int32.ofInt f7_21).toInt64)) * 31) + ((Int32.ofInt r_30).toInt64)) * 31) + ((Int32.ofInt r_47).toInt64)) * 31) + ((Int32.ofInt r_56).toInt64)), zmk, zmk, zmk] [.long (((((((((2657 * 31) + ((Int32.ofInt f7_21).toInt64)) * 31) + ((Int32.ofInt r_30).toInt64)) * 31) + ((Int32.ofInt r_47).toInt64)) * 31) + ((Int32.ofInt r_56).toInt64)) * 31)] w_54 ov w' c s
  refine Zr_st (q := (66, [zp a0, zp p_12, .long ((((((((2657 * 31) + ((Int32.ofInt f7_21).toInt64)) * 31) + ((Int32.ofInt r_30).toInt64)) * 31) + ((Int32.ofInt r_47).toInt64)) * 31) + ((Int32.ofInt r_56).toInt64)), zmk, zmk, zmk], [zp p_12, .long (((((((((2657 * 31) + ((Int32.ofInt f7_21).toInt64)) * 31) + ((Int32.ofInt r_30).toInt64)) * 31) + ((Int32.ofInt r_47).toInt64)) * 31) + ((Int32.ofInt r_56).toInt64)) * 31)])) rfl rfl rfl ?_
  show Zr sc 100 66 [zp a0, zp p_12, .long ((((((((2657 * 31) + ((Int32.ofInt f7_21).toInt64)) * 31) + ((Int32.ofInt r_30).toInt64)) * 31) + ((Int32.ofInt r_47).toInt64)) * 31) + ((Int32.ofInt r_56).toInt64)), zmk, zmk, zmk] [zp p_12, .long (((((((((2657 * 31) + ((Int32.ofInt f7_21).toInt64)) * 31) + ((Int32.ofInt r_30).toInt64)) * 31) + ((Int32.ofInt r_47).toInt64)) * 31) + ((Int32.ofInt r_56).toInt64)) * 31)] w_54 ov w' c s
  obtain ⟨cn_57, fs_58, hw_59, hcn_60, h⟩ := h
  have hz_61 : ∃ kd, zinv 100 (.invokevirtual 113) [zp p_12, .long (((((((((2657 * 31) + ((Int32.ofInt f7_21).toInt64)) * 31) + ((Int32.ofInt r_30).toInt64)) * 31) + ((Int32.ofInt r_47).toInt64)) * 31) + ((Int32.ofInt r_56).toInt64)) * 31)] (false, w_54) = some (kd, 6, [zp p_12], [.long (((((((((2657 * 31) + ((Int32.ofInt f7_21).toInt64)) * 31) + ((Int32.ofInt r_30).toInt64)) * 31) + ((Int32.ofInt r_47).toInt64)) * 31) + ((Int32.ofInt r_56).toInt64)) * 31)]) ∧ decide (kd < 6) = true := by rcases hcn_60 with rfl | rfl | rfl <;> exact zinv_u hw_59 rfl rfl rfl rfl rfl rfl rfl
  obtain ⟨kd_62, hz_61⟩ := hz_61
  obtain ⟨p_65, w_63, hk_64, h⟩ := h
  refine rn_cal0 (ins := .invokevirtual 113) (rest := [.long (((((((((2657 * 31) + ((Int32.ofInt f7_21).toInt64)) * 31) + ((Int32.ofInt r_30).toInt64)) * 31) + ((Int32.ofInt r_47).toInt64)) * 31) + ((Int32.ofInt r_56).toInt64)) * 31)]) rfl rfl rfl rfl hz_61.1 rfl hz_61.2 hk_64 ?_
  show Zr sc 100 69 [zp a0, zp p_12, .long ((((((((2657 * 31) + ((Int32.ofInt f7_21).toInt64)) * 31) + ((Int32.ofInt r_30).toInt64)) * 31) + ((Int32.ofInt r_47).toInt64)) * 31) + ((Int32.ofInt r_56).toInt64)), zmk, zmk, zmk] [zp p_65, .long (((((((((2657 * 31) + ((Int32.ofInt f7_21).toInt64)) * 31) + ((Int32.ofInt r_30).toInt64)) * 31) + ((Int32.ofInt r_47).toInt64)) * 31) + ((Int32.ofInt r_56).toInt64)) * 31)] w_63 ov w' c s
  obtain ⟨f0_67, f1_68, f2_69, f3_70, f4_71, f5_72, hw_66, h⟩ := h
  obtain ⟨r_75, w_73, hk_74, h⟩ := h
  refine rn_cal0 (ins := .invokevirtual 138) (rest := [.long (((((((((2657 * 31) + ((Int32.ofInt f7_21).toInt64)) * 31) + ((Int32.ofInt r_30).toInt64)) * 31) + ((Int32.ofInt r_47).toInt64)) * 31) + ((Int32.ofInt r_56).toInt64)) * 31)]) rfl rfl rfl rfl (zinv_v (fs := _) hw_66 rfl rfl rfl rfl) rfl rfl hk_74 ?_
  show Zr sc 100 72 [zp a0, zp p_12, .long ((((((((2657 * 31) + ((Int32.ofInt f7_21).toInt64)) * 31) + ((Int32.ofInt r_30).toInt64)) * 31) + ((Int32.ofInt r_47).toInt64)) * 31) + ((Int32.ofInt r_56).toInt64)), zmk, zmk, zmk] [zj r_75, .long (((((((((2657 * 31) + ((Int32.ofInt f7_21).toInt64)) * 31) + ((Int32.ofInt r_30).toInt64)) * 31) + ((Int32.ofInt r_47).toInt64)) * 31) + ((Int32.ofInt r_56).toInt64)) * 31)] w_73 ov w' c s
  refine rl_i2l rfl ?_
  show Zr sc 100 73 [zp a0, zp p_12, .long ((((((((2657 * 31) + ((Int32.ofInt f7_21).toInt64)) * 31) + ((Int32.ofInt r_30).toInt64)) * 31) + ((Int32.ofInt r_47).toInt64)) * 31) + ((Int32.ofInt r_56).toInt64)), zmk, zmk, zmk] [.long ((Int32.ofInt r_75).toInt64), .long (((((((((2657 * 31) + ((Int32.ofInt f7_21).toInt64)) * 31) + ((Int32.ofInt r_30).toInt64)) * 31) + ((Int32.ofInt r_47).toInt64)) * 31) + ((Int32.ofInt r_56).toInt64)) * 31)] w_73 ov w' c s
  refine rl_ladd rfl ?_
  show Zr sc 100 74 [zp a0, zp p_12, .long ((((((((2657 * 31) + ((Int32.ofInt f7_21).toInt64)) * 31) + ((Int32.ofInt r_30).toInt64)) * 31) + ((Int32.ofInt r_47).toInt64)) * 31) + ((Int32.ofInt r_56).toInt64)), zmk, zmk, zmk] [.long ((((((((((2657 * 31) + ((Int32.ofInt f7_21).toInt64)) * 31) + ((Int32.ofInt r_30).toInt64)) * 31) + ((Int32.ofInt r_47).toInt64)) * 31) + ((Int32.ofInt r_56).toInt64)) * 31) + ((Int32.ofInt r_75).toInt64))] w_73 ov w' c s
  refine Zr_st (q := (75, [zp a0, zp p_12, .long ((((((((((2657 * 31) + ((Int32.ofInt f7_21).toInt64)) * 31) + ((Int32.ofInt r_30).toInt64)) * 31) + ((Int32.ofInt r_47).toInt64)) * 31) + ((Int32.ofInt r_56).toInt64)) * 31) + ((Int32.ofInt r_75).toInt64)), zmk, zmk, zmk], [])) rfl rfl rfl ?_
  show Zr sc 100 75 [zp a0, zp p_12, .long ((((((((((2657 * 31) + ((Int32.ofInt f7_21).toInt64)) * 31) + ((Int32.ofInt r_30).toInt64)) * 31) + ((Int32.ofInt r_47).toInt64)) * 31) + ((Int32.ofInt r_56).toInt64)) * 31) + ((Int32.ofInt r_75).toInt64)), zmk, zmk, zmk] [] w_73 ov w' c s
  refine Zr_st (q := (76, [zp a0, zp p_12, .long ((((((((((2657 * 31) + ((Int32.ofInt f7_21).toInt64)) * 31) + ((Int32.ofInt r_30).toInt64)) * 31) + ((Int32.ofInt r_47).toInt64)) * 31) + ((Int32.ofInt r_56).toInt64)) * 31) + ((Int32.ofInt r_75).toInt64)), zmk, zmk, zmk], [.long ((((((((((2657 * 31) + ((Int32.ofInt f7_21).toInt64)) * 31) + ((Int32.ofInt r_30).toInt64)) * 31) + ((Int32.ofInt r_47).toInt64)) * 31) + ((Int32.ofInt r_56).toInt64)) * 31) + ((Int32.ofInt r_75).toInt64))])) rfl rfl rfl ?_
  show Zr sc 100 76 [zp a0, zp p_12, .long ((((((((((2657 * 31) + ((Int32.ofInt f7_21).toInt64)) * 31) + ((Int32.ofInt r_30).toInt64)) * 31) + ((Int32.ofInt r_47).toInt64)) * 31) + ((Int32.ofInt r_56).toInt64)) * 31) + ((Int32.ofInt r_75).toInt64)), zmk, zmk, zmk] [.long ((((((((((2657 * 31) + ((Int32.ofInt f7_21).toInt64)) * 31) + ((Int32.ofInt r_30).toInt64)) * 31) + ((Int32.ofInt r_47).toInt64)) * 31) + ((Int32.ofInt r_56).toInt64)) * 31) + ((Int32.ofInt r_75).toInt64))] w_73 ov w' c s
  refine rl_lc (z := 31) rfl rfl (by decide) ?_
  show Zr sc 100 79 [zp a0, zp p_12, .long ((((((((((2657 * 31) + ((Int32.ofInt f7_21).toInt64)) * 31) + ((Int32.ofInt r_30).toInt64)) * 31) + ((Int32.ofInt r_47).toInt64)) * 31) + ((Int32.ofInt r_56).toInt64)) * 31) + ((Int32.ofInt r_75).toInt64)), zmk, zmk, zmk] [.long 31, .long ((((((((((2657 * 31) + ((Int32.ofInt f7_21).toInt64)) * 31) + ((Int32.ofInt r_30).toInt64)) * 31) + ((Int32.ofInt r_47).toInt64)) * 31) + ((Int32.ofInt r_56).toInt64)) * 31) + ((Int32.ofInt r_75).toInt64))] w_73 ov w' c s
  refine rl_lmul rfl ?_
  show Zr sc 100 80 [zp a0, zp p_12, .long ((((((((((2657 * 31) + ((Int32.ofInt f7_21).toInt64)) * 31) + ((Int32.ofInt r_30).toInt64)) * 31) + ((Int32.ofInt r_47).toInt64)) * 31) + ((Int32.ofInt r_56).toInt64)) * 31) + ((Int32.ofInt r_75).toInt64)), zmk, zmk, zmk] [.long (((((((((((2657 * 31) + ((Int32.ofInt f7_21).toInt64)) * 31) + ((Int32.ofInt r_30).toInt64)) * 31) + ((Int32.ofInt r_47).toInt64)) * 31) + ((Int32.ofInt r_56).toInt64)) * 31) + ((Int32.ofInt r_75).toInt64)) * 31)] w_73 ov w' c s
  refine Zr_st (q := (81, [zp a0, zp p_12, .long ((((((((((2657 * 31) + ((Int32.ofInt f7_21).toInt64)) * 31) + ((Int32.ofInt r_30).toInt64)) * 31) + ((Int32.ofInt r_47).toInt64)) * 31) + ((Int32.ofInt r_56).toInt64)) * 31) + ((Int32.ofInt r_75).toInt64)), zmk, zmk, zmk], [zp a0, .long (((((((((((2657 * 31) + ((Int32.ofInt f7_21).toInt64)) * 31) + ((Int32.ofInt r_30).toInt64)) * 31) + ((Int32.ofInt r_47).toInt64)) * 31) + ((Int32.ofInt r_56).toInt64)) * 31) + ((Int32.ofInt r_75).toInt64)) * 31)])) rfl rfl rfl ?_
  show Zr sc 100 81 [zp a0, zp p_12, .long ((((((((((2657 * 31) + ((Int32.ofInt f7_21).toInt64)) * 31) + ((Int32.ofInt r_30).toInt64)) * 31) + ((Int32.ofInt r_47).toInt64)) * 31) + ((Int32.ofInt r_56).toInt64)) * 31) + ((Int32.ofInt r_75).toInt64)), zmk, zmk, zmk] [zp a0, .long (((((((((((2657 * 31) + ((Int32.ofInt f7_21).toInt64)) * 31) + ((Int32.ofInt r_30).toInt64)) * 31) + ((Int32.ofInt r_47).toInt64)) * 31) + ((Int32.ofInt r_56).toInt64)) * 31) + ((Int32.ofInt r_75).toInt64)) * 31)] w_73 ov w' c s
  obtain ⟨f0_77, f1_78, f2_79, f3_80, f4_81, f5_82, f6_83, f7_84, hw_76, h⟩ := h
  obtain ⟨r_87, w_85, hk_86, h⟩ := h
  refine rn_cal0 (ins := .invokevirtual 208) (rest := [.long (((((((((((2657 * 31) + ((Int32.ofInt f7_21).toInt64)) * 31) + ((Int32.ofInt r_30).toInt64)) * 31) + ((Int32.ofInt r_47).toInt64)) * 31) + ((Int32.ofInt r_56).toInt64)) * 31) + ((Int32.ofInt r_75).toInt64)) * 31)]) rfl rfl rfl rfl (zinv_v (fs := _) hw_76 rfl rfl rfl rfl) rfl rfl hk_86 ?_
  show Zr sc 100 84 [zp a0, zp p_12, .long ((((((((((2657 * 31) + ((Int32.ofInt f7_21).toInt64)) * 31) + ((Int32.ofInt r_30).toInt64)) * 31) + ((Int32.ofInt r_47).toInt64)) * 31) + ((Int32.ofInt r_56).toInt64)) * 31) + ((Int32.ofInt r_75).toInt64)), zmk, zmk, zmk] [zj r_87, .long (((((((((((2657 * 31) + ((Int32.ofInt f7_21).toInt64)) * 31) + ((Int32.ofInt r_30).toInt64)) * 31) + ((Int32.ofInt r_47).toInt64)) * 31) + ((Int32.ofInt r_56).toInt64)) * 31) + ((Int32.ofInt r_75).toInt64)) * 31)] w_85 ov w' c s
  refine rl_i2l rfl ?_
  show Zr sc 100 85 [zp a0, zp p_12, .long ((((((((((2657 * 31) + ((Int32.ofInt f7_21).toInt64)) * 31) + ((Int32.ofInt r_30).toInt64)) * 31) + ((Int32.ofInt r_47).toInt64)) * 31) + ((Int32.ofInt r_56).toInt64)) * 31) + ((Int32.ofInt r_75).toInt64)), zmk, zmk, zmk] [.long ((Int32.ofInt r_87).toInt64), .long (((((((((((2657 * 31) + ((Int32.ofInt f7_21).toInt64)) * 31) + ((Int32.ofInt r_30).toInt64)) * 31) + ((Int32.ofInt r_47).toInt64)) * 31) + ((Int32.ofInt r_56).toInt64)) * 31) + ((Int32.ofInt r_75).toInt64)) * 31)] w_85 ov w' c s
  refine rl_ladd rfl ?_
  show Zr sc 100 86 [zp a0, zp p_12, .long ((((((((((2657 * 31) + ((Int32.ofInt f7_21).toInt64)) * 31) + ((Int32.ofInt r_30).toInt64)) * 31) + ((Int32.ofInt r_47).toInt64)) * 31) + ((Int32.ofInt r_56).toInt64)) * 31) + ((Int32.ofInt r_75).toInt64)), zmk, zmk, zmk] [.long ((((((((((((2657 * 31) + ((Int32.ofInt f7_21).toInt64)) * 31) + ((Int32.ofInt r_30).toInt64)) * 31) + ((Int32.ofInt r_47).toInt64)) * 31) + ((Int32.ofInt r_56).toInt64)) * 31) + ((Int32.ofInt r_75).toInt64)) * 31) + ((Int32.ofInt r_87).toInt64))] w_85 ov w' c s
  refine Zr_st (q := (87, [zp a0, zp p_12, .long ((((((((((((2657 * 31) + ((Int32.ofInt f7_21).toInt64)) * 31) + ((Int32.ofInt r_30).toInt64)) * 31) + ((Int32.ofInt r_47).toInt64)) * 31) + ((Int32.ofInt r_56).toInt64)) * 31) + ((Int32.ofInt r_75).toInt64)) * 31) + ((Int32.ofInt r_87).toInt64)), zmk, zmk, zmk], [])) rfl rfl rfl ?_
  show Zr sc 100 87 [zp a0, zp p_12, .long ((((((((((((2657 * 31) + ((Int32.ofInt f7_21).toInt64)) * 31) + ((Int32.ofInt r_30).toInt64)) * 31) + ((Int32.ofInt r_47).toInt64)) * 31) + ((Int32.ofInt r_56).toInt64)) * 31) + ((Int32.ofInt r_75).toInt64)) * 31) + ((Int32.ofInt r_87).toInt64)), zmk, zmk, zmk] [] w_85 ov w' c s
  refine Zr_st (q := (88, [zp a0, zp p_12, .long ((((((((((((2657 * 31) + ((Int32.ofInt f7_21).toInt64)) * 31) + ((Int32.ofInt r_30).toInt64)) * 31) + ((Int32.ofInt r_47).toInt64)) * 31) + ((Int32.ofInt r_56).toInt64)) * 31) + ((Int32.ofInt r_75).toInt64)) * 31) + ((Int32.ofInt r_87).toInt64)), zmk, zmk, zmk], [.long ((((((((((((2657 * 31) + ((Int32.ofInt f7_21).toInt64)) * 31) + ((Int32.ofInt r_30).toInt64)) * 31) + ((Int32.ofInt r_47).toInt64)) * 31) + ((Int32.ofInt r_56).toInt64)) * 31) + ((Int32.ofInt r_75).toInt64)) * 31) + ((Int32.ofInt r_87).toInt64))])) rfl rfl rfl ?_
  show Zr sc 100 88 [zp a0, zp p_12, .long ((((((((((((2657 * 31) + ((Int32.ofInt f7_21).toInt64)) * 31) + ((Int32.ofInt r_30).toInt64)) * 31) + ((Int32.ofInt r_47).toInt64)) * 31) + ((Int32.ofInt r_56).toInt64)) * 31) + ((Int32.ofInt r_75).toInt64)) * 31) + ((Int32.ofInt r_87).toInt64)), zmk, zmk, zmk] [.long ((((((((((((2657 * 31) + ((Int32.ofInt f7_21).toInt64)) * 31) + ((Int32.ofInt r_30).toInt64)) * 31) + ((Int32.ofInt r_47).toInt64)) * 31) + ((Int32.ofInt r_56).toInt64)) * 31) + ((Int32.ofInt r_75).toInt64)) * 31) + ((Int32.ofInt r_87).toInt64))] w_85 ov w' c s
  refine rl_lc (z := 31) rfl rfl (by decide) ?_
  show Zr sc 100 91 [zp a0, zp p_12, .long ((((((((((((2657 * 31) + ((Int32.ofInt f7_21).toInt64)) * 31) + ((Int32.ofInt r_30).toInt64)) * 31) + ((Int32.ofInt r_47).toInt64)) * 31) + ((Int32.ofInt r_56).toInt64)) * 31) + ((Int32.ofInt r_75).toInt64)) * 31) + ((Int32.ofInt r_87).toInt64)), zmk, zmk, zmk] [.long 31, .long ((((((((((((2657 * 31) + ((Int32.ofInt f7_21).toInt64)) * 31) + ((Int32.ofInt r_30).toInt64)) * 31) + ((Int32.ofInt r_47).toInt64)) * 31) + ((Int32.ofInt r_56).toInt64)) * 31) + ((Int32.ofInt r_75).toInt64)) * 31) + ((Int32.ofInt r_87).toInt64))] w_85 ov w' c s
  refine rl_lmul rfl ?_
  show Zr sc 100 92 [zp a0, zp p_12, .long ((((((((((((2657 * 31) + ((Int32.ofInt f7_21).toInt64)) * 31) + ((Int32.ofInt r_30).toInt64)) * 31) + ((Int32.ofInt r_47).toInt64)) * 31) + ((Int32.ofInt r_56).toInt64)) * 31) + ((Int32.ofInt r_75).toInt64)) * 31) + ((Int32.ofInt r_87).toInt64)), zmk, zmk, zmk] [.long (((((((((((((2657 * 31) + ((Int32.ofInt f7_21).toInt64)) * 31) + ((Int32.ofInt r_30).toInt64)) * 31) + ((Int32.ofInt r_47).toInt64)) * 31) + ((Int32.ofInt r_56).toInt64)) * 31) + ((Int32.ofInt r_75).toInt64)) * 31) + ((Int32.ofInt r_87).toInt64)) * 31)] w_85 ov w' c s
  refine Zr_st (q := (93, [zp a0, zp p_12, .long ((((((((((((2657 * 31) + ((Int32.ofInt f7_21).toInt64)) * 31) + ((Int32.ofInt r_30).toInt64)) * 31) + ((Int32.ofInt r_47).toInt64)) * 31) + ((Int32.ofInt r_56).toInt64)) * 31) + ((Int32.ofInt r_75).toInt64)) * 31) + ((Int32.ofInt r_87).toInt64)), zmk, zmk, zmk], [zp a0, .long (((((((((((((2657 * 31) + ((Int32.ofInt f7_21).toInt64)) * 31) + ((Int32.ofInt r_30).toInt64)) * 31) + ((Int32.ofInt r_47).toInt64)) * 31) + ((Int32.ofInt r_56).toInt64)) * 31) + ((Int32.ofInt r_75).toInt64)) * 31) + ((Int32.ofInt r_87).toInt64)) * 31)])) rfl rfl rfl ?_
  show Zr sc 100 93 [zp a0, zp p_12, .long ((((((((((((2657 * 31) + ((Int32.ofInt f7_21).toInt64)) * 31) + ((Int32.ofInt r_30).toInt64)) * 31) + ((Int32.ofInt r_47).toInt64)) * 31) + ((Int32.ofInt r_56).toInt64)) * 31) + ((Int32.ofInt r_75).toInt64)) * 31) + ((Int32.ofInt r_87).toInt64)), zmk, zmk, zmk] [zp a0, .long (((((((((((((2657 * 31) + ((Int32.ofInt f7_21).toInt64)) * 31) + ((Int32.ofInt r_30).toInt64)) * 31) + ((Int32.ofInt r_47).toInt64)) * 31) + ((Int32.ofInt r_56).toInt64)) * 31) + ((Int32.ofInt r_75).toInt64)) * 31) + ((Int32.ofInt r_87).toInt64)) * 31)] w_85 ov w' c s
  obtain ⟨f0_89, f1_90, f2_91, f3_92, f4_93, f5_94, f6_95, f7_96, hw_88, h⟩ := h
  obtain ⟨r_99, w_97, hk_98, h⟩ := h
  refine rn_cal0 (ins := .invokevirtual 211) (rest := [.long (((((((((((((2657 * 31) + ((Int32.ofInt f7_21).toInt64)) * 31) + ((Int32.ofInt r_30).toInt64)) * 31) + ((Int32.ofInt r_47).toInt64)) * 31) + ((Int32.ofInt r_56).toInt64)) * 31) + ((Int32.ofInt r_75).toInt64)) * 31) + ((Int32.ofInt r_87).toInt64)) * 31)]) rfl rfl rfl rfl (zinv_v (fs := _) hw_88 rfl rfl rfl rfl) rfl rfl hk_98 ?_
  show Zr sc 100 96 [zp a0, zp p_12, .long ((((((((((((2657 * 31) + ((Int32.ofInt f7_21).toInt64)) * 31) + ((Int32.ofInt r_30).toInt64)) * 31) + ((Int32.ofInt r_47).toInt64)) * 31) + ((Int32.ofInt r_56).toInt64)) * 31) + ((Int32.ofInt r_75).toInt64)) * 31) + ((Int32.ofInt r_87).toInt64)), zmk, zmk, zmk] [zj r_99, .long (((((((((((((2657 * 31) + ((Int32.ofInt f7_21).toInt64)) * 31) + ((Int32.ofInt r_30).toInt64)) * 31) + ((Int32.ofInt r_47).toInt64)) * 31) + ((Int32.ofInt r_56).toInt64)) * 31) + ((Int32.ofInt r_75).toInt64)) * 31) + ((Int32.ofInt r_87).toInt64)) * 31)] w_97 ov w' c s
  refine rl_i2l rfl ?_
  show Zr sc 100 97 [zp a0, zp p_12, .long ((((((((((((2657 * 31) + ((Int32.ofInt f7_21).toInt64)) * 31) + ((Int32.ofInt r_30).toInt64)) * 31) + ((Int32.ofInt r_47).toInt64)) * 31) + ((Int32.ofInt r_56).toInt64)) * 31) + ((Int32.ofInt r_75).toInt64)) * 31) + ((Int32.ofInt r_87).toInt64)), zmk, zmk, zmk] [.long ((Int32.ofInt r_99).toInt64), .long (((((((((((((2657 * 31) + ((Int32.ofInt f7_21).toInt64)) * 31) + ((Int32.ofInt r_30).toInt64)) * 31) + ((Int32.ofInt r_47).toInt64)) * 31) + ((Int32.ofInt r_56).toInt64)) * 31) + ((Int32.ofInt r_75).toInt64)) * 31) + ((Int32.ofInt r_87).toInt64)) * 31)] w_97 ov w' c s
  refine rl_ladd rfl ?_
  show Zr sc 100 98 [zp a0, zp p_12, .long ((((((((((((2657 * 31) + ((Int32.ofInt f7_21).toInt64)) * 31) + ((Int32.ofInt r_30).toInt64)) * 31) + ((Int32.ofInt r_47).toInt64)) * 31) + ((Int32.ofInt r_56).toInt64)) * 31) + ((Int32.ofInt r_75).toInt64)) * 31) + ((Int32.ofInt r_87).toInt64)), zmk, zmk, zmk] [.long ((((((((((((((2657 * 31) + ((Int32.ofInt f7_21).toInt64)) * 31) + ((Int32.ofInt r_30).toInt64)) * 31) + ((Int32.ofInt r_47).toInt64)) * 31) + ((Int32.ofInt r_56).toInt64)) * 31) + ((Int32.ofInt r_75).toInt64)) * 31) + ((Int32.ofInt r_87).toInt64)) * 31) + ((Int32.ofInt r_99).toInt64))] w_97 ov w' c s
  refine Zr_st (q := (99, [zp a0, zp p_12, .long ((((((((((((((2657 * 31) + ((Int32.ofInt f7_21).toInt64)) * 31) + ((Int32.ofInt r_30).toInt64)) * 31) + ((Int32.ofInt r_47).toInt64)) * 31) + ((Int32.ofInt r_56).toInt64)) * 31) + ((Int32.ofInt r_75).toInt64)) * 31) + ((Int32.ofInt r_87).toInt64)) * 31) + ((Int32.ofInt r_99).toInt64)), zmk, zmk, zmk], [])) rfl rfl rfl ?_
  show Zr sc 100 99 [zp a0, zp p_12, .long ((((((((((((((2657 * 31) + ((Int32.ofInt f7_21).toInt64)) * 31) + ((Int32.ofInt r_30).toInt64)) * 31) + ((Int32.ofInt r_47).toInt64)) * 31) + ((Int32.ofInt r_56).toInt64)) * 31) + ((Int32.ofInt r_75).toInt64)) * 31) + ((Int32.ofInt r_87).toInt64)) * 31) + ((Int32.ofInt r_99).toInt64)), zmk, zmk, zmk] [] w_97 ov w' c s
  refine Zr_st (q := (100, [zp a0, zp p_12, .long ((((((((((((((2657 * 31) + ((Int32.ofInt f7_21).toInt64)) * 31) + ((Int32.ofInt r_30).toInt64)) * 31) + ((Int32.ofInt r_47).toInt64)) * 31) + ((Int32.ofInt r_56).toInt64)) * 31) + ((Int32.ofInt r_75).toInt64)) * 31) + ((Int32.ofInt r_87).toInt64)) * 31) + ((Int32.ofInt r_99).toInt64)), zmk, zmk, zmk], [.long ((((((((((((((2657 * 31) + ((Int32.ofInt f7_21).toInt64)) * 31) + ((Int32.ofInt r_30).toInt64)) * 31) + ((Int32.ofInt r_47).toInt64)) * 31) + ((Int32.ofInt r_56).toInt64)) * 31) + ((Int32.ofInt r_75).toInt64)) * 31) + ((Int32.ofInt r_87).toInt64)) * 31) + ((Int32.ofInt r_99).toInt64))])) rfl rfl rfl ?_
  show Zr sc 100 100 [zp a0, zp p_12, .long ((((((((((((((2657 * 31) + ((Int32.ofInt f7_21).toInt64)) * 31) + ((Int32.ofInt r_30).toInt64)) * 31) + ((Int32.ofInt r_47).toInt64)) * 31) + ((Int32.ofInt r_56).toInt64)) * 31) + ((Int32.ofInt r_75).toInt64)) * 31) + ((Int32.ofInt r_87).toInt64)) * 31) + ((Int32.ofInt r_99).toInt64)), zmk, zmk, zmk] [.long ((((((((((((((2657 * 31) + ((Int32.ofInt f7_21).toInt64)) * 31) + ((Int32.ofInt r_30).toInt64)) * 31) + ((Int32.ofInt r_47).toInt64)) * 31) + ((Int32.ofInt r_56).toInt64)) * 31) + ((Int32.ofInt r_75).toInt64)) * 31) + ((Int32.ofInt r_87).toInt64)) * 31) + ((Int32.ofInt r_99).toInt64))] w_97 ov w' c s
  refine rl_lc (z := 31) rfl rfl (by decide) ?_
  show Zr sc 100 103 [zp a0, zp p_12, .long ((((((((((((((2657 * 31) + ((Int32.ofInt f7_21).toInt64)) * 31) + ((Int32.ofInt r_30).toInt64)) * 31) + ((Int32.ofInt r_47).toInt64)) * 31) + ((Int32.ofInt r_56).toInt64)) * 31) + ((Int32.ofInt r_75).toInt64)) * 31) + ((Int32.ofInt r_87).toInt64)) * 31) + ((Int32.ofInt r_99).toInt64)), zmk, zmk, zmk] [.long 31, .long ((((((((((((((2657 * 31) + ((Int32.ofInt f7_21).toInt64)) * 31) + ((Int32.ofInt r_30).toInt64)) * 31) + ((Int32.ofInt r_47).toInt64)) * 31) + ((Int32.ofInt r_56).toInt64)) * 31) + ((Int32.ofInt r_75).toInt64)) * 31) + ((Int32.ofInt r_87).toInt64)) * 31) + ((Int32.ofInt r_99).toInt64))] w_97 ov w' c s
  refine rl_lmul rfl ?_
  show Zr sc 100 104 [zp a0, zp p_12, .long ((((((((((((((2657 * 31) + ((Int32.ofInt f7_21).toInt64)) * 31) + ((Int32.ofInt r_30).toInt64)) * 31) + ((Int32.ofInt r_47).toInt64)) * 31) + ((Int32.ofInt r_56).toInt64)) * 31) + ((Int32.ofInt r_75).toInt64)) * 31) + ((Int32.ofInt r_87).toInt64)) * 31) + ((Int32.ofInt r_99).toInt64)), zmk, zmk, zmk] [.long (((((((((((((((2657 * 31) + ((Int32.ofInt f7_21).toInt64)) * 31) + ((Int32.ofInt r_30).toInt64)) * 31) + ((Int32.ofInt r_47).toInt64)) * 31) + ((Int32.ofInt r_56).toInt64)) * 31) + ((Int32.ofInt r_75).toInt64)) * 31) + ((Int32.ofInt r_87).toInt64)) * 31) + ((Int32.ofInt r_99).toInt64)) * 31)] w_97 ov w' c s
  refine Zr_st (q := (105, [zp a0, zp p_12, .long ((((((((((((((2657 * 31) + ((Int32.ofInt f7_21).toInt64)) * 31) + ((Int32.ofInt r_30).toInt64)) * 31) + ((Int32.ofInt r_47).toInt64)) * 31) + ((Int32.ofInt r_56).toInt64)) * 31) + ((Int32.ofInt r_75).toInt64)) * 31) + ((Int32.ofInt r_87).toInt64)) * 31) + ((Int32.ofInt r_99).toInt64)), zmk, zmk, zmk], [zp a0, .long (((((((((((((((2657 * 31) + ((Int32.ofInt f7_21).toInt64)) * 31) + ((Int32.ofInt r_30).toInt64)) * 31) + ((Int32.ofInt r_47).toInt64)) * 31) + ((Int32.ofInt r_56).toInt64)) * 31) + ((Int32.ofInt r_75).toInt64)) * 31) + ((Int32.ofInt r_87).toInt64)) * 31) + ((Int32.ofInt r_99).toInt64)) * 31)])) rfl rfl rfl ?_
  show Zr sc 100 105 [zp a0, zp p_12, .long ((((((((((((((2657 * 31) + ((Int32.ofInt f7_21).toInt64)) * 31) + ((Int32.ofInt r_30).toInt64)) * 31) + ((Int32.ofInt r_47).toInt64)) * 31) + ((Int32.ofInt r_56).toInt64)) * 31) + ((Int32.ofInt r_75).toInt64)) * 31) + ((Int32.ofInt r_87).toInt64)) * 31) + ((Int32.ofInt r_99).toInt64)), zmk, zmk, zmk] [zp a0, .long (((((((((((((((2657 * 31) + ((Int32.ofInt f7_21).toInt64)) * 31) + ((Int32.ofInt r_30).toInt64)) * 31) + ((Int32.ofInt r_47).toInt64)) * 31) + ((Int32.ofInt r_56).toInt64)) * 31) + ((Int32.ofInt r_75).toInt64)) * 31) + ((Int32.ofInt r_87).toInt64)) * 31) + ((Int32.ofInt r_99).toInt64)) * 31)] w_97 ov w' c s
  obtain ⟨f0_101, f1_102, f2_103, f3_104, f4_105, f5_106, f6_107, f7_108, hw_100, h⟩ := h
  obtain ⟨r_111, w_109, hk_110, h⟩ := h
  refine rn_cal0 (ins := .invokevirtual 214) (rest := [.long (((((((((((((((2657 * 31) + ((Int32.ofInt f7_21).toInt64)) * 31) + ((Int32.ofInt r_30).toInt64)) * 31) + ((Int32.ofInt r_47).toInt64)) * 31) + ((Int32.ofInt r_56).toInt64)) * 31) + ((Int32.ofInt r_75).toInt64)) * 31) + ((Int32.ofInt r_87).toInt64)) * 31) + ((Int32.ofInt r_99).toInt64)) * 31)]) rfl rfl rfl rfl (zinv_v (fs := _) hw_100 rfl rfl rfl rfl) rfl rfl hk_110 ?_
  show Zr sc 100 108 [zp a0, zp p_12, .long ((((((((((((((2657 * 31) + ((Int32.ofInt f7_21).toInt64)) * 31) + ((Int32.ofInt r_30).toInt64)) * 31) + ((Int32.ofInt r_47).toInt64)) * 31) + ((Int32.ofInt r_56).toInt64)) * 31) + ((Int32.ofInt r_75).toInt64)) * 31) + ((Int32.ofInt r_87).toInt64)) * 31) + ((Int32.ofInt r_99).toInt64)), zmk, zmk, zmk] [zj r_111, .long (((((((((((((((2657 * 31) + ((Int32.ofInt f7_21).toInt64)) * 31) + ((Int32.ofInt r_30).toInt64)) * 31) + ((Int32.ofInt r_47).toInt64)) * 31) + ((Int32.ofInt r_56).toInt64)) * 31) + ((Int32.ofInt r_75).toInt64)) * 31) + ((Int32.ofInt r_87).toInt64)) * 31) + ((Int32.ofInt r_99).toInt64)) * 31)] w_109 ov w' c s
  refine rl_i2l rfl ?_
  show Zr sc 100 109 [zp a0, zp p_12, .long ((((((((((((((2657 * 31) + ((Int32.ofInt f7_21).toInt64)) * 31) + ((Int32.ofInt r_30).toInt64)) * 31) + ((Int32.ofInt r_47).toInt64)) * 31) + ((Int32.ofInt r_56).toInt64)) * 31) + ((Int32.ofInt r_75).toInt64)) * 31) + ((Int32.ofInt r_87).toInt64)) * 31) + ((Int32.ofInt r_99).toInt64)), zmk, zmk, zmk] [.long ((Int32.ofInt r_111).toInt64), .long (((((((((((((((2657 * 31) + ((Int32.ofInt f7_21).toInt64)) * 31) + ((Int32.ofInt r_30).toInt64)) * 31) + ((Int32.ofInt r_47).toInt64)) * 31) + ((Int32.ofInt r_56).toInt64)) * 31) + ((Int32.ofInt r_75).toInt64)) * 31) + ((Int32.ofInt r_87).toInt64)) * 31) + ((Int32.ofInt r_99).toInt64)) * 31)] w_109 ov w' c s
  refine rl_ladd rfl ?_
  show Zr sc 100 110 [zp a0, zp p_12, .long ((((((((((((((2657 * 31) + ((Int32.ofInt f7_21).toInt64)) * 31) + ((Int32.ofInt r_30).toInt64)) * 31) + ((Int32.ofInt r_47).toInt64)) * 31) + ((Int32.ofInt r_56).toInt64)) * 31) + ((Int32.ofInt r_75).toInt64)) * 31) + ((Int32.ofInt r_87).toInt64)) * 31) + ((Int32.ofInt r_99).toInt64)), zmk, zmk, zmk] [.long ((((((((((((((((2657 * 31) + ((Int32.ofInt f7_21).toInt64)) * 31) + ((Int32.ofInt r_30).toInt64)) * 31) + ((Int32.ofInt r_47).toInt64)) * 31) + ((Int32.ofInt r_56).toInt64)) * 31) + ((Int32.ofInt r_75).toInt64)) * 31) + ((Int32.ofInt r_87).toInt64)) * 31) + ((Int32.ofInt r_99).toInt64)) * 31) + ((Int32.ofInt r_111).toInt64))] w_109 ov w' c s
  refine Zr_st (q := (111, [zp a0, zp p_12, .long ((((((((((((((((2657 * 31) + ((Int32.ofInt f7_21).toInt64)) * 31) + ((Int32.ofInt r_30).toInt64)) * 31) + ((Int32.ofInt r_47).toInt64)) * 31) + ((Int32.ofInt r_56).toInt64)) * 31) + ((Int32.ofInt r_75).toInt64)) * 31) + ((Int32.ofInt r_87).toInt64)) * 31) + ((Int32.ofInt r_99).toInt64)) * 31) + ((Int32.ofInt r_111).toInt64)), zmk, zmk, zmk], [])) rfl rfl rfl ?_
  show Zr sc 100 111 [zp a0, zp p_12, .long ((((((((((((((((2657 * 31) + ((Int32.ofInt f7_21).toInt64)) * 31) + ((Int32.ofInt r_30).toInt64)) * 31) + ((Int32.ofInt r_47).toInt64)) * 31) + ((Int32.ofInt r_56).toInt64)) * 31) + ((Int32.ofInt r_75).toInt64)) * 31) + ((Int32.ofInt r_87).toInt64)) * 31) + ((Int32.ofInt r_99).toInt64)) * 31) + ((Int32.ofInt r_111).toInt64)), zmk, zmk, zmk] [] w_109 ov w' c s
  refine Zr_st (q := (112, [zp a0, zp p_12, .long ((((((((((((((((2657 * 31) + ((Int32.ofInt f7_21).toInt64)) * 31) + ((Int32.ofInt r_30).toInt64)) * 31) + ((Int32.ofInt r_47).toInt64)) * 31) + ((Int32.ofInt r_56).toInt64)) * 31) + ((Int32.ofInt r_75).toInt64)) * 31) + ((Int32.ofInt r_87).toInt64)) * 31) + ((Int32.ofInt r_99).toInt64)) * 31) + ((Int32.ofInt r_111).toInt64)), zmk, zmk, zmk], [.long ((((((((((((((((2657 * 31) + ((Int32.ofInt f7_21).toInt64)) * 31) + ((Int32.ofInt r_30).toInt64)) * 31) + ((Int32.ofInt r_47).toInt64)) * 31) + ((Int32.ofInt r_56).toInt64)) * 31) + ((Int32.ofInt r_75).toInt64)) * 31) + ((Int32.ofInt r_87).toInt64)) * 31) + ((Int32.ofInt r_99).toInt64)) * 31) + ((Int32.ofInt r_111).toInt64))])) rfl rfl rfl ?_
  show Zr sc 100 112 [zp a0, zp p_12, .long ((((((((((((((((2657 * 31) + ((Int32.ofInt f7_21).toInt64)) * 31) + ((Int32.ofInt r_30).toInt64)) * 31) + ((Int32.ofInt r_47).toInt64)) * 31) + ((Int32.ofInt r_56).toInt64)) * 31) + ((Int32.ofInt r_75).toInt64)) * 31) + ((Int32.ofInt r_87).toInt64)) * 31) + ((Int32.ofInt r_99).toInt64)) * 31) + ((Int32.ofInt r_111).toInt64)), zmk, zmk, zmk] [.long ((((((((((((((((2657 * 31) + ((Int32.ofInt f7_21).toInt64)) * 31) + ((Int32.ofInt r_30).toInt64)) * 31) + ((Int32.ofInt r_47).toInt64)) * 31) + ((Int32.ofInt r_56).toInt64)) * 31) + ((Int32.ofInt r_75).toInt64)) * 31) + ((Int32.ofInt r_87).toInt64)) * 31) + ((Int32.ofInt r_99).toInt64)) * 31) + ((Int32.ofInt r_111).toInt64))] w_109 ov w' c s
  refine rl_lc (z := 31) rfl rfl (by decide) ?_
  show Zr sc 100 115 [zp a0, zp p_12, .long ((((((((((((((((2657 * 31) + ((Int32.ofInt f7_21).toInt64)) * 31) + ((Int32.ofInt r_30).toInt64)) * 31) + ((Int32.ofInt r_47).toInt64)) * 31) + ((Int32.ofInt r_56).toInt64)) * 31) + ((Int32.ofInt r_75).toInt64)) * 31) + ((Int32.ofInt r_87).toInt64)) * 31) + ((Int32.ofInt r_99).toInt64)) * 31) + ((Int32.ofInt r_111).toInt64)), zmk, zmk, zmk] [.long 31, .long ((((((((((((((((2657 * 31) + ((Int32.ofInt f7_21).toInt64)) * 31) + ((Int32.ofInt r_30).toInt64)) * 31) + ((Int32.ofInt r_47).toInt64)) * 31) + ((Int32.ofInt r_56).toInt64)) * 31) + ((Int32.ofInt r_75).toInt64)) * 31) + ((Int32.ofInt r_87).toInt64)) * 31) + ((Int32.ofInt r_99).toInt64)) * 31) + ((Int32.ofInt r_111).toInt64))] w_109 ov w' c s
  refine rl_lmul rfl ?_
  show Zr sc 100 116 [zp a0, zp p_12, .long ((((((((((((((((2657 * 31) + ((Int32.ofInt f7_21).toInt64)) * 31) + ((Int32.ofInt r_30).toInt64)) * 31) + ((Int32.ofInt r_47).toInt64)) * 31) + ((Int32.ofInt r_56).toInt64)) * 31) + ((Int32.ofInt r_75).toInt64)) * 31) + ((Int32.ofInt r_87).toInt64)) * 31) + ((Int32.ofInt r_99).toInt64)) * 31) + ((Int32.ofInt r_111).toInt64)), zmk, zmk, zmk] [.long (((((((((((((((((2657 * 31) + ((Int32.ofInt f7_21).toInt64)) * 31) + ((Int32.ofInt r_30).toInt64)) * 31) + ((Int32.ofInt r_47).toInt64)) * 31) + ((Int32.ofInt r_56).toInt64)) * 31) + ((Int32.ofInt r_75).toInt64)) * 31) + ((Int32.ofInt r_87).toInt64)) * 31) + ((Int32.ofInt r_99).toInt64)) * 31) + ((Int32.ofInt r_111).toInt64)) * 31)] w_109 ov w' c s
  refine Zr_st (q := (117, [zp a0, zp p_12, .long ((((((((((((((((2657 * 31) + ((Int32.ofInt f7_21).toInt64)) * 31) + ((Int32.ofInt r_30).toInt64)) * 31) + ((Int32.ofInt r_47).toInt64)) * 31) + ((Int32.ofInt r_56).toInt64)) * 31) + ((Int32.ofInt r_75).toInt64)) * 31) + ((Int32.ofInt r_87).toInt64)) * 31) + ((Int32.ofInt r_99).toInt64)) * 31) + ((Int32.ofInt r_111).toInt64)), zmk, zmk, zmk], [zp a0, .long (((((((((((((((((2657 * 31) + ((Int32.ofInt f7_21).toInt64)) * 31) + ((Int32.ofInt r_30).toInt64)) * 31) + ((Int32.ofInt r_47).toInt64)) * 31) + ((Int32.ofInt r_56).toInt64)) * 31) + ((Int32.ofInt r_75).toInt64)) * 31) + ((Int32.ofInt r_87).toInt64)) * 31) + ((Int32.ofInt r_99).toInt64)) * 31) + ((Int32.ofInt r_111).toInt64)) * 31)])) rfl rfl rfl ?_
  show Zr sc 100 117 [zp a0, zp p_12, .long ((((((((((((((((2657 * 31) + ((Int32.ofInt f7_21).toInt64)) * 31) + ((Int32.ofInt r_30).toInt64)) * 31) + ((Int32.ofInt r_47).toInt64)) * 31) + ((Int32.ofInt r_56).toInt64)) * 31) + ((Int32.ofInt r_75).toInt64)) * 31) + ((Int32.ofInt r_87).toInt64)) * 31) + ((Int32.ofInt r_99).toInt64)) * 31) + ((Int32.ofInt r_111).toInt64)), zmk, zmk, zmk] [zp a0, .long (((((((((((((((((2657 * 31) + ((Int32.ofInt f7_21).toInt64)) * 31) + ((Int32.ofInt r_30).toInt64)) * 31) + ((Int32.ofInt r_47).toInt64)) * 31) + ((Int32.ofInt r_56).toInt64)) * 31) + ((Int32.ofInt r_75).toInt64)) * 31) + ((Int32.ofInt r_87).toInt64)) * 31) + ((Int32.ofInt r_99).toInt64)) * 31) + ((Int32.ofInt r_111).toInt64)) * 31)] w_109 ov w' c s
  obtain ⟨f0_113, f1_114, f2_115, f3_116, f4_117, f5_118, f6_119, f7_120, hw_112, h⟩ := h
  obtain ⟨r_123, w_121, hk_122, h⟩ := h
  refine rn_cal0 (ins := .invokevirtual 217) (rest := [.long (((((((((((((((((2657 * 31) + ((Int32.ofInt f7_21).toInt64)) * 31) + ((Int32.ofInt r_30).toInt64)) * 31) + ((Int32.ofInt r_47).toInt64)) * 31) + ((Int32.ofInt r_56).toInt64)) * 31) + ((Int32.ofInt r_75).toInt64)) * 31) + ((Int32.ofInt r_87).toInt64)) * 31) + ((Int32.ofInt r_99).toInt64)) * 31) + ((Int32.ofInt r_111).toInt64)) * 31)]) rfl rfl rfl rfl (zinv_v (fs := _) hw_112 rfl rfl rfl rfl) rfl rfl hk_122 ?_
  show Zr sc 100 120 [zp a0, zp p_12, .long ((((((((((((((((2657 * 31) + ((Int32.ofInt f7_21).toInt64)) * 31) + ((Int32.ofInt r_30).toInt64)) * 31) + ((Int32.ofInt r_47).toInt64)) * 31) + ((Int32.ofInt r_56).toInt64)) * 31) + ((Int32.ofInt r_75).toInt64)) * 31) + ((Int32.ofInt r_87).toInt64)) * 31) + ((Int32.ofInt r_99).toInt64)) * 31) + ((Int32.ofInt r_111).toInt64)), zmk, zmk, zmk] [zj r_123, .long (((((((((((((((((2657 * 31) + ((Int32.ofInt f7_21).toInt64)) * 31) + ((Int32.ofInt r_30).toInt64)) * 31) + ((Int32.ofInt r_47).toInt64)) * 31) + ((Int32.ofInt r_56).toInt64)) * 31) + ((Int32.ofInt r_75).toInt64)) * 31) + ((Int32.ofInt r_87).toInt64)) * 31) + ((Int32.ofInt r_99).toInt64)) * 31) + ((Int32.ofInt r_111).toInt64)) * 31)] w_121 ov w' c s
  refine rl_i2l rfl ?_
  show Zr sc 100 121 [zp a0, zp p_12, .long ((((((((((((((((2657 * 31) + ((Int32.ofInt f7_21).toInt64)) * 31) + ((Int32.ofInt r_30).toInt64)) * 31) + ((Int32.ofInt r_47).toInt64)) * 31) + ((Int32.ofInt r_56).toInt64)) * 31) + ((Int32.ofInt r_75).toInt64)) * 31) + ((Int32.ofInt r_87).toInt64)) * 31) + ((Int32.ofInt r_99).toInt64)) * 31) + ((Int32.ofInt r_111).toInt64)), zmk, zmk, zmk] [.long ((Int32.ofInt r_123).toInt64), .long (((((((((((((((((2657 * 31) + ((Int32.ofInt f7_21).toInt64)) * 31) + ((Int32.ofInt r_30).toInt64)) * 31) + ((Int32.ofInt r_47).toInt64)) * 31) + ((Int32.ofInt r_56).toInt64)) * 31) + ((Int32.ofInt r_75).toInt64)) * 31) + ((Int32.ofInt r_87).toInt64)) * 31) + ((Int32.ofInt r_99).toInt64)) * 31) + ((Int32.ofInt r_111).toInt64)) * 31)] w_121 ov w' c s
  refine rl_ladd rfl ?_
  show Zr sc 100 122 [zp a0, zp p_12, .long ((((((((((((((((2657 * 31) + ((Int32.ofInt f7_21).toInt64)) * 31) + ((Int32.ofInt r_30).toInt64)) * 31) + ((Int32.ofInt r_47).toInt64)) * 31) + ((Int32.ofInt r_56).toInt64)) * 31) + ((Int32.ofInt r_75).toInt64)) * 31) + ((Int32.ofInt r_87).toInt64)) * 31) + ((Int32.ofInt r_99).toInt64)) * 31) + ((Int32.ofInt r_111).toInt64)), zmk, zmk, zmk] [.long ((((((((((((((((((2657 * 31) + ((Int32.ofInt f7_21).toInt64)) * 31) + ((Int32.ofInt r_30).toInt64)) * 31) + ((Int32.ofInt r_47).toInt64)) * 31) + ((Int32.ofInt r_56).toInt64)) * 31) + ((Int32.ofInt r_75).toInt64)) * 31) + ((Int32.ofInt r_87).toInt64)) * 31) + ((Int32.ofInt r_99).toInt64)) * 31) + ((Int32.ofInt r_111).toInt64)) * 31) + ((Int32.ofInt r_123).toInt64))] w_121 ov w' c s
  refine Zr_st (q := (123, [zp a0, zp p_12, .long ((((((((((((((((((2657 * 31) + ((Int32.ofInt f7_21).toInt64)) * 31) + ((Int32.ofInt r_30).toInt64)) * 31) + ((Int32.ofInt r_47).toInt64)) * 31) + ((Int32.ofInt r_56).toInt64)) * 31) + ((Int32.ofInt r_75).toInt64)) * 31) + ((Int32.ofInt r_87).toInt64)) * 31) + ((Int32.ofInt r_99).toInt64)) * 31) + ((Int32.ofInt r_111).toInt64)) * 31) + ((Int32.ofInt r_123).toInt64)), zmk, zmk, zmk], [])) rfl rfl rfl ?_
  show Zr sc 100 123 [zp a0, zp p_12, .long ((((((((((((((((((2657 * 31) + ((Int32.ofInt f7_21).toInt64)) * 31) + ((Int32.ofInt r_30).toInt64)) * 31) + ((Int32.ofInt r_47).toInt64)) * 31) + ((Int32.ofInt r_56).toInt64)) * 31) + ((Int32.ofInt r_75).toInt64)) * 31) + ((Int32.ofInt r_87).toInt64)) * 31) + ((Int32.ofInt r_99).toInt64)) * 31) + ((Int32.ofInt r_111).toInt64)) * 31) + ((Int32.ofInt r_123).toInt64)), zmk, zmk, zmk] [] w_121 ov w' c s
  refine Zr_st (q := (124, [zp a0, zp p_12, .long ((((((((((((((((((2657 * 31) + ((Int32.ofInt f7_21).toInt64)) * 31) + ((Int32.ofInt r_30).toInt64)) * 31) + ((Int32.ofInt r_47).toInt64)) * 31) + ((Int32.ofInt r_56).toInt64)) * 31) + ((Int32.ofInt r_75).toInt64)) * 31) + ((Int32.ofInt r_87).toInt64)) * 31) + ((Int32.ofInt r_99).toInt64)) * 31) + ((Int32.ofInt r_111).toInt64)) * 31) + ((Int32.ofInt r_123).toInt64)), zmk, zmk, zmk], [.long ((((((((((((((((((2657 * 31) + ((Int32.ofInt f7_21).toInt64)) * 31) + ((Int32.ofInt r_30).toInt64)) * 31) + ((Int32.ofInt r_47).toInt64)) * 31) + ((Int32.ofInt r_56).toInt64)) * 31) + ((Int32.ofInt r_75).toInt64)) * 31) + ((Int32.ofInt r_87).toInt64)) * 31) + ((Int32.ofInt r_99).toInt64)) * 31) + ((Int32.ofInt r_111).toInt64)) * 31) + ((Int32.ofInt r_123).toInt64))])) rfl rfl rfl ?_
  show Zr sc 100 124 [zp a0, zp p_12, .long ((((((((((((((((((2657 * 31) + ((Int32.ofInt f7_21).toInt64)) * 31) + ((Int32.ofInt r_30).toInt64)) * 31) + ((Int32.ofInt r_47).toInt64)) * 31) + ((Int32.ofInt r_56).toInt64)) * 31) + ((Int32.ofInt r_75).toInt64)) * 31) + ((Int32.ofInt r_87).toInt64)) * 31) + ((Int32.ofInt r_99).toInt64)) * 31) + ((Int32.ofInt r_111).toInt64)) * 31) + ((Int32.ofInt r_123).toInt64)), zmk, zmk, zmk] [.long ((((((((((((((((((2657 * 31) + ((Int32.ofInt f7_21).toInt64)) * 31) + ((Int32.ofInt r_30).toInt64)) * 31) + ((Int32.ofInt r_47).toInt64)) * 31) + ((Int32.ofInt r_56).toInt64)) * 31) + ((Int32.ofInt r_75).toInt64)) * 31) + ((Int32.ofInt r_87).toInt64)) * 31) + ((Int32.ofInt r_99).toInt64)) * 31) + ((Int32.ofInt r_111).toInt64)) * 31) + ((Int32.ofInt r_123).toInt64))] w_121 ov w' c s
  refine rl_lc (z := 31) rfl rfl (by decide) ?_
  show Zr sc 100 127 [zp a0, zp p_12, .long ((((((((((((((((((2657 * 31) + ((Int32.ofInt f7_21).toInt64)) * 31) + ((Int32.ofInt r_30).toInt64)) * 31) + ((Int32.ofInt r_47).toInt64)) * 31) + ((Int32.ofInt r_56).toInt64)) * 31) + ((Int32.ofInt r_75).toInt64)) * 31) + ((Int32.ofInt r_87).toInt64)) * 31) + ((Int32.ofInt r_99).toInt64)) * 31) + ((Int32.ofInt r_111).toInt64)) * 31) + ((Int32.ofInt r_123).toInt64)), zmk, zmk, zmk] [.long 31, .long ((((((((((((((((((2657 * 31) + ((Int32.ofInt f7_21).toInt64)) * 31) + ((Int32.ofInt r_30).toInt64)) * 31) + ((Int32.ofInt r_47).toInt64)) * 31) + ((Int32.ofInt r_56).toInt64)) * 31) + ((Int32.ofInt r_75).toInt64)) * 31) + ((Int32.ofInt r_87).toInt64)) * 31) + ((Int32.ofInt r_99).toInt64)) * 31) + ((Int32.ofInt r_111).toInt64)) * 31) + ((Int32.ofInt r_123).toInt64))] w_121 ov w' c s
  refine rl_lmul rfl ?_
  show Zr sc 100 128 [zp a0, zp p_12, .long ((((((((((((((((((2657 * 31) + ((Int32.ofInt f7_21).toInt64)) * 31) + ((Int32.ofInt r_30).toInt64)) * 31) + ((Int32.ofInt r_47).toInt64)) * 31) + ((Int32.ofInt r_56).toInt64)) * 31) + ((Int32.ofInt r_75).toInt64)) * 31) + ((Int32.ofInt r_87).toInt64)) * 31) + ((Int32.ofInt r_99).toInt64)) * 31) + ((Int32.ofInt r_111).toInt64)) * 31) + ((Int32.ofInt r_123).toInt64)), zmk, zmk, zmk] [.long (((((((((((((((((((2657 * 31) + ((Int32.ofInt f7_21).toInt64)) * 31) + ((Int32.ofInt r_30).toInt64)) * 31) + ((Int32.ofInt r_47).toInt64)) * 31) + ((Int32.ofInt r_56).toInt64)) * 31) + ((Int32.ofInt r_75).toInt64)) * 31) + ((Int32.ofInt r_87).toInt64)) * 31) + ((Int32.ofInt r_99).toInt64)) * 31) + ((Int32.ofInt r_111).toInt64)) * 31) + ((Int32.ofInt r_123).toInt64)) * 31)] w_121 ov w' c s
  refine Zr_st (q := (129, [zp a0, zp p_12, .long ((((((((((((((((((2657 * 31) + ((Int32.ofInt f7_21).toInt64)) * 31) + ((Int32.ofInt r_30).toInt64)) * 31) + ((Int32.ofInt r_47).toInt64)) * 31) + ((Int32.ofInt r_56).toInt64)) * 31) + ((Int32.ofInt r_75).toInt64)) * 31) + ((Int32.ofInt r_87).toInt64)) * 31) + ((Int32.ofInt r_99).toInt64)) * 31) + ((Int32.ofInt r_111).toInt64)) * 31) + ((Int32.ofInt r_123).toInt64)), zmk, zmk, zmk], [zp p_12, .long (((((((((((((((((((2657 * 31) + ((Int32.ofInt f7_21).toInt64)) * 31) + ((Int32.ofInt r_30).toInt64)) * 31) + ((Int32.ofInt r_47).toInt64)) * 31) + ((Int32.ofInt r_56).toInt64)) * 31) + ((Int32.ofInt r_75).toInt64)) * 31) + ((Int32.ofInt r_87).toInt64)) * 31) + ((Int32.ofInt r_99).toInt64)) * 31) + ((Int32.ofInt r_111).toInt64)) * 31) + ((Int32.ofInt r_123).toInt64)) * 31)])) rfl rfl rfl ?_
  show Zr sc 100 129 [zp a0, zp p_12, .long ((((((((((((((((((2657 * 31) + ((Int32.ofInt f7_21).toInt64)) * 31) + ((Int32.ofInt r_30).toInt64)) * 31) + ((Int32.ofInt r_47).toInt64)) * 31) + ((Int32.ofInt r_56).toInt64)) * 31) + ((Int32.ofInt r_75).toInt64)) * 31) + ((Int32.ofInt r_87).toInt64)) * 31) + ((Int32.ofInt r_99).toInt64)) * 31) + ((Int32.ofInt r_111).toInt64)) * 31) + ((Int32.ofInt r_123).toInt64)), zmk, zmk, zmk] [zp p_12, .long (((((((((((((((((((2657 * 31) + ((Int32.ofInt f7_21).toInt64)) * 31) + ((Int32.ofInt r_30).toInt64)) * 31) + ((Int32.ofInt r_47).toInt64)) * 31) + ((Int32.ofInt r_56).toInt64)) * 31) + ((Int32.ofInt r_75).toInt64)) * 31) + ((Int32.ofInt r_87).toInt64)) * 31) + ((Int32.ofInt r_99).toInt64)) * 31) + ((Int32.ofInt r_111).toInt64)) * 31) + ((Int32.ofInt r_123).toInt64)) * 31)] w_121 ov w' c s
  obtain ⟨cn_124, fs_125, hw_126, hcn_127, h⟩ := h
  have hz_128 : ∃ kd, zinv 100 (.invokevirtual 175) [zp p_12, .long (((((((((((((((((((2657 * 31) + ((Int32.ofInt f7_21).toInt64)) * 31) + ((Int32.ofInt r_30).toInt64)) * 31) + ((Int32.ofInt r_47).toInt64)) * 31) + ((Int32.ofInt r_56).toInt64)) * 31) + ((Int32.ofInt r_75).toInt64)) * 31) + ((Int32.ofInt r_87).toInt64)) * 31) + ((Int32.ofInt r_99).toInt64)) * 31) + ((Int32.ofInt r_111).toInt64)) * 31) + ((Int32.ofInt r_123).toInt64)) * 31)] (false, w_121) = some (kd, 102, [zp p_12], [.long (((((((((((((((((((2657 * 31) + ((Int32.ofInt f7_21).toInt64)) * 31) + ((Int32.ofInt r_30).toInt64)) * 31) + ((Int32.ofInt r_47).toInt64)) * 31) + ((Int32.ofInt r_56).toInt64)) * 31) + ((Int32.ofInt r_75).toInt64)) * 31) + ((Int32.ofInt r_87).toInt64)) * 31) + ((Int32.ofInt r_99).toInt64)) * 31) + ((Int32.ofInt r_111).toInt64)) * 31) + ((Int32.ofInt r_123).toInt64)) * 31)]) ∧ decide (kd < 6) = true := by rcases hcn_127 with rfl | rfl | rfl <;> exact zinv_u hw_126 rfl rfl rfl rfl rfl rfl rfl
  obtain ⟨kd_129, hz_128⟩ := hz_128
  obtain ⟨r_132, w_130, hk_131, h⟩ := h
  refine rn_cal0 (ins := .invokevirtual 175) (rest := [.long (((((((((((((((((((2657 * 31) + ((Int32.ofInt f7_21).toInt64)) * 31) + ((Int32.ofInt r_30).toInt64)) * 31) + ((Int32.ofInt r_47).toInt64)) * 31) + ((Int32.ofInt r_56).toInt64)) * 31) + ((Int32.ofInt r_75).toInt64)) * 31) + ((Int32.ofInt r_87).toInt64)) * 31) + ((Int32.ofInt r_99).toInt64)) * 31) + ((Int32.ofInt r_111).toInt64)) * 31) + ((Int32.ofInt r_123).toInt64)) * 31)]) rfl rfl rfl rfl hz_128.1 rfl hz_128.2 hk_131 ?_
  show Zr sc 100 132 [zp a0, zp p_12, .long ((((((((((((((((((2657 * 31) + ((Int32.ofInt f7_21).toInt64)) * 31) + ((Int32.ofInt r_30).toInt64)) * 31) + ((Int32.ofInt r_47).toInt64)) * 31) + ((Int32.ofInt r_56).toInt64)) * 31) + ((Int32.ofInt r_75).toInt64)) * 31) + ((Int32.ofInt r_87).toInt64)) * 31) + ((Int32.ofInt r_99).toInt64)) * 31) + ((Int32.ofInt r_111).toInt64)) * 31) + ((Int32.ofInt r_123).toInt64)), zmk, zmk, zmk] [zj r_132, .long (((((((((((((((((((2657 * 31) + ((Int32.ofInt f7_21).toInt64)) * 31) + ((Int32.ofInt r_30).toInt64)) * 31) + ((Int32.ofInt r_47).toInt64)) * 31) + ((Int32.ofInt r_56).toInt64)) * 31) + ((Int32.ofInt r_75).toInt64)) * 31) + ((Int32.ofInt r_87).toInt64)) * 31) + ((Int32.ofInt r_99).toInt64)) * 31) + ((Int32.ofInt r_111).toInt64)) * 31) + ((Int32.ofInt r_123).toInt64)) * 31)] w_130 ov w' c s
  refine rl_i2l rfl ?_
  show Zr sc 100 133 [zp a0, zp p_12, .long ((((((((((((((((((2657 * 31) + ((Int32.ofInt f7_21).toInt64)) * 31) + ((Int32.ofInt r_30).toInt64)) * 31) + ((Int32.ofInt r_47).toInt64)) * 31) + ((Int32.ofInt r_56).toInt64)) * 31) + ((Int32.ofInt r_75).toInt64)) * 31) + ((Int32.ofInt r_87).toInt64)) * 31) + ((Int32.ofInt r_99).toInt64)) * 31) + ((Int32.ofInt r_111).toInt64)) * 31) + ((Int32.ofInt r_123).toInt64)), zmk, zmk, zmk] [.long ((Int32.ofInt r_132).toInt64), .long (((((((((((((((((((2657 * 31) + ((Int32.ofInt f7_21).toInt64)) * 31) + ((Int32.ofInt r_30).toInt64)) * 31) + ((Int32.ofInt r_47).toInt64)) * 31) + ((Int32.ofInt r_56).toInt64)) * 31) + ((Int32.ofInt r_75).toInt64)) * 31) + ((Int32.ofInt r_87).toInt64)) * 31) + ((Int32.ofInt r_99).toInt64)) * 31) + ((Int32.ofInt r_111).toInt64)) * 31) + ((Int32.ofInt r_123).toInt64)) * 31)] w_130 ov w' c s
  refine rl_ladd rfl ?_
  show Zr sc 100 134 [zp a0, zp p_12, .long ((((((((((((((((((2657 * 31) + ((Int32.ofInt f7_21).toInt64)) * 31) + ((Int32.ofInt r_30).toInt64)) * 31) + ((Int32.ofInt r_47).toInt64)) * 31) + ((Int32.ofInt r_56).toInt64)) * 31) + ((Int32.ofInt r_75).toInt64)) * 31) + ((Int32.ofInt r_87).toInt64)) * 31) + ((Int32.ofInt r_99).toInt64)) * 31) + ((Int32.ofInt r_111).toInt64)) * 31) + ((Int32.ofInt r_123).toInt64)), zmk, zmk, zmk] [.long ((((((((((((((((((((2657 * 31) + ((Int32.ofInt f7_21).toInt64)) * 31) + ((Int32.ofInt r_30).toInt64)) * 31) + ((Int32.ofInt r_47).toInt64)) * 31) + ((Int32.ofInt r_56).toInt64)) * 31) + ((Int32.ofInt r_75).toInt64)) * 31) + ((Int32.ofInt r_87).toInt64)) * 31) + ((Int32.ofInt r_99).toInt64)) * 31) + ((Int32.ofInt r_111).toInt64)) * 31) + ((Int32.ofInt r_123).toInt64)) * 31) + ((Int32.ofInt r_132).toInt64))] w_130 ov w' c s
  refine Zr_st (q := (135, [zp a0, zp p_12, .long ((((((((((((((((((((2657 * 31) + ((Int32.ofInt f7_21).toInt64)) * 31) + ((Int32.ofInt r_30).toInt64)) * 31) + ((Int32.ofInt r_47).toInt64)) * 31) + ((Int32.ofInt r_56).toInt64)) * 31) + ((Int32.ofInt r_75).toInt64)) * 31) + ((Int32.ofInt r_87).toInt64)) * 31) + ((Int32.ofInt r_99).toInt64)) * 31) + ((Int32.ofInt r_111).toInt64)) * 31) + ((Int32.ofInt r_123).toInt64)) * 31) + ((Int32.ofInt r_132).toInt64)), zmk, zmk, zmk], [])) rfl rfl rfl ?_
  show Zr sc 100 135 [zp a0, zp p_12, .long ((((((((((((((((((((2657 * 31) + ((Int32.ofInt f7_21).toInt64)) * 31) + ((Int32.ofInt r_30).toInt64)) * 31) + ((Int32.ofInt r_47).toInt64)) * 31) + ((Int32.ofInt r_56).toInt64)) * 31) + ((Int32.ofInt r_75).toInt64)) * 31) + ((Int32.ofInt r_87).toInt64)) * 31) + ((Int32.ofInt r_99).toInt64)) * 31) + ((Int32.ofInt r_111).toInt64)) * 31) + ((Int32.ofInt r_123).toInt64)) * 31) + ((Int32.ofInt r_132).toInt64)), zmk, zmk, zmk] [] w_130 ov w' c s
  refine rl_ic rfl ?_
  show Zr sc 100 136 [zp a0, zp p_12, .long ((((((((((((((((((((2657 * 31) + ((Int32.ofInt f7_21).toInt64)) * 31) + ((Int32.ofInt r_30).toInt64)) * 31) + ((Int32.ofInt r_47).toInt64)) * 31) + ((Int32.ofInt r_56).toInt64)) * 31) + ((Int32.ofInt r_75).toInt64)) * 31) + ((Int32.ofInt r_87).toInt64)) * 31) + ((Int32.ofInt r_99).toInt64)) * 31) + ((Int32.ofInt r_111).toInt64)) * 31) + ((Int32.ofInt r_123).toInt64)) * 31) + ((Int32.ofInt r_132).toInt64)), zmk, zmk, zmk] [zj 0] w_130 ov w' c s
  refine Zr_st (q := (138, [zp a0, zp p_12, .long ((((((((((((((((((((2657 * 31) + ((Int32.ofInt f7_21).toInt64)) * 31) + ((Int32.ofInt r_30).toInt64)) * 31) + ((Int32.ofInt r_47).toInt64)) * 31) + ((Int32.ofInt r_56).toInt64)) * 31) + ((Int32.ofInt r_75).toInt64)) * 31) + ((Int32.ofInt r_87).toInt64)) * 31) + ((Int32.ofInt r_99).toInt64)) * 31) + ((Int32.ofInt r_111).toInt64)) * 31) + ((Int32.ofInt r_123).toInt64)) * 31) + ((Int32.ofInt r_132).toInt64)), zmk, zj 0, zmk], [])) rfl rfl rfl ?_
  show Zr sc 100 138 [zp a0, zp p_12, .long ((((((((((((((((((((2657 * 31) + ((Int32.ofInt f7_21).toInt64)) * 31) + ((Int32.ofInt r_30).toInt64)) * 31) + ((Int32.ofInt r_47).toInt64)) * 31) + ((Int32.ofInt r_56).toInt64)) * 31) + ((Int32.ofInt r_75).toInt64)) * 31) + ((Int32.ofInt r_87).toInt64)) * 31) + ((Int32.ofInt r_99).toInt64)) * 31) + ((Int32.ofInt r_111).toInt64)) * 31) + ((Int32.ofInt r_123).toInt64)) * 31) + ((Int32.ofInt r_132).toInt64)), zmk, zj 0, zmk] [] w_130 ov w' c s
  exact h
set_option maxRecDepth 100000 in
theorem V100_138 {sc : List Value} {w w' : List zE} {ov : Option Value} {c s : Nat} {a0 : Nat} {a1 : Nat} {z2 : Int64} {x4 : Int} (h : ((zrg x4 ∧ zrg 4) ∧ ((4 < x4 → (∃ z_4 : Int64, ∃ w_2 : List zE, Zc sc 103 [.long z2, zp a1] w (some (.long z_4)) w_2 0 0 ∧ (∃ cn_5 : Nat, ∃ fs_6 : List Value, w_2[a1]? = some (zob cn_5 fs_6) ∧ (cn_5 = 1 ∨ cn_5 = 2 ∨ cn_5 = 4) ∧ (∃ r_13 : Int, ∃ w_11 : List zE, Zc sc 38 [zp a1, zj 1] w_2 (some (zj r_13)) w_11 0 0 ∧ (∃ cn_14 : Nat, ∃ fs_15 : List Value, w_11[a1]? = some (zob cn_14 fs_15) ∧ (cn_14 = 1 ∨ cn_14 = 2 ∨ cn_14 = 4) ∧ (∃ r_22 : Int, ∃ w_20 : List zE, Zc sc 38 [zp a1, zj 30] w_11 (some (zj r_22)) w_20 0 0 ∧ (∃ cn_23 : Nat, ∃ fs_24 : List Value, w_20[a1]? = some (zob cn_23 fs_24) ∧ (cn_23 = 1 ∨ cn_23 = 2 ∨ cn_23 = 4) ∧ (∃ r_31 : Int, ∃ w_29 : List zE, Zc sc 38 [zp a1, zj 120] w_20 (some (zj r_31)) w_29 0 0 ∧ Zr sc 100 214 [zp a0, zp a1, .long ((((((z_4 * 31) + ((Int32.ofInt r_13).toInt64)) * 31) + ((Int32.ofInt r_22).toInt64)) * 31) + ((Int32.ofInt r_31).toInt64)), zmk, zj 0, zmk] [] w_29 ov w' c s)))))))) ∧ (¬ (4 < x4) → (∃ cn_32 : Nat, ∃ fs_33 : List Value, w[a1]? = some (zob cn_32 fs_33) ∧ (cn_32 = 1 ∨ cn_32 = 2 ∨ cn_32 = 4) ∧ (∃ r_40 : Int, ∃ w_38 : List zE, Zc sc 34 [zp a1, zj x4] w (some (zj r_40)) w_38 0 0 ∧ Zr sc 100 138 [zp a0, zp a1, .long ((z2 * 31) + ((Int32.ofInt r_40).toInt64)), zmk, zj (x4 + 1), zmk] [] w_38 ov w' c s)))))) : Zr sc 100 138 [zp a0, zp a1, .long z2, zmk, zj x4, zmk] [] w ov w' c s := by
  refine Zr_st (q := (140, [zp a0, zp a1, .long z2, zmk, zj x4, zmk], [zj x4])) rfl rfl rfl ?_
  show Zr sc 100 140 [zp a0, zp a1, .long z2, zmk, zj x4, zmk] [zj x4] w ov w' c s
  refine rl_ic rfl ?_
  show Zr sc 100 141 [zp a0, zp a1, .long z2, zmk, zj x4, zmk] [zj 4, zj x4] w ov w' c s
  obtain ⟨hr_1, h⟩ := h
  refine Zr_br (p := 4 < x4) rfl rfl (zcmp_j (cnd := .gt) hr_1.1 hr_1.2) (fun hp => ?_) (fun hp => ?_)
  · replace h := h.1 hp
    show Zr sc 100 164 [zp a0, zp a1, .long z2, zmk, zj x4, zmk] [] w ov w' c s
    refine Zr_st (q := (165, [zp a0, zp a1, .long z2, zmk, zj x4, zmk], [.long z2])) rfl rfl rfl ?_
    show Zr sc 100 165 [zp a0, zp a1, .long z2, zmk, zj x4, zmk] [.long z2] w ov w' c s
    refine Zr_st (q := (166, [zp a0, zp a1, .long z2, zmk, zj x4, zmk], [zp a1, .long z2])) rfl rfl rfl ?_
    show Zr sc 100 166 [zp a0, zp a1, .long z2, zmk, zj x4, zmk] [zp a1, .long z2] w ov w' c s
    obtain ⟨z_4, w_2, hk_3, h⟩ := h
    refine rn_cal0 (ins := .invokestatic 220) (rest := []) rfl rfl rfl rfl (zinv_t rfl rfl rfl rfl) rfl rfl hk_3 ?_
    show Zr sc 100 169 [zp a0, zp a1, .long z2, zmk, zj x4, zmk] [.long z_4] w_2 ov w' c s
    refine Zr_st (q := (170, [zp a0, zp a1, .long z_4, zmk, zj x4, zmk], [])) rfl rfl rfl ?_
    show Zr sc 100 170 [zp a0, zp a1, .long z_4, zmk, zj x4, zmk] [] w_2 ov w' c s
    refine Zr_st (q := (171, [zp a0, zp a1, .long z_4, zmk, zj x4, zmk], [.long z_4])) rfl rfl rfl ?_
    show Zr sc 100 171 [zp a0, zp a1, .long z_4, zmk, zj x4, zmk] [.long z_4] w_2 ov w' c s
    refine rl_lc (z := 31) rfl rfl (by decide) ?_
    show Zr sc 100 174 [zp a0, zp a1, .long z_4, zmk, zj x4, zmk] [.long 31, .long z_4] w_2 ov w' c s
    refine rl_lmul rfl ?_
    show Zr sc 100 175 [zp a0, zp a1, .long z_4, zmk, zj x4, zmk] [.long (z_4 * 31)] w_2 ov w' c s
    refine Zr_st (q := (176, [zp a0, zp a1, .long z_4, zmk, zj x4, zmk], [zp a1, .long (z_4 * 31)])) rfl rfl rfl ?_
    show Zr sc 100 176 [zp a0, zp a1, .long z_4, zmk, zj x4, zmk] [zp a1, .long (z_4 * 31)] w_2 ov w' c s
    refine rl_ic rfl ?_
    show Zr sc 100 177 [zp a0, zp a1, .long z_4, zmk, zj x4, zmk] [zj 1, zp a1, .long (z_4 * 31)] w_2 ov w' c s
    obtain ⟨cn_5, fs_6, hw_7, hcn_8, h⟩ := h
    have hz_9 : ∃ kd, zinv 100 (.invokevirtual 189) [zj 1, zp a1, .long (z_4 * 31)] (false, w_2) = some (kd, 38, [zp a1, zj 1], [.long (z_4 * 31)]) ∧ decide (kd < 6) = true := by rcases hcn_8 with rfl | rfl | rfl <;> exact zinv_u hw_7 rfl rfl rfl rfl rfl rfl rfl
    obtain ⟨kd_10, hz_9⟩ := hz_9
    obtain ⟨r_13, w_11, hk_12, h⟩ := h
    refine rn_cal0 (ins := .invokevirtual 189) (rest := [.long (z_4 * 31)]) rfl rfl rfl rfl hz_9.1 rfl hz_9.2 hk_12 ?_
    show Zr sc 100 180 [zp a0, zp a1, .long z_4, zmk, zj x4, zmk] [zj r_13, .long (z_4 * 31)] w_11 ov w' c s
    refine rl_i2l rfl ?_
    show Zr sc 100 181 [zp a0, zp a1, .long z_4, zmk, zj x4, zmk] [.long ((Int32.ofInt r_13).toInt64), .long (z_4 * 31)] w_11 ov w' c s
    refine rl_ladd rfl ?_
    show Zr sc 100 182 [zp a0, zp a1, .long z_4, zmk, zj x4, zmk] [.long ((z_4 * 31) + ((Int32.ofInt r_13).toInt64))] w_11 ov w' c s
    refine Zr_st (q := (183, [zp a0, zp a1, .long ((z_4 * 31) + ((Int32.ofInt r_13).toInt64)), zmk, zj x4, zmk], [])) rfl rfl rfl ?_
    show Zr sc 100 183 [zp a0, zp a1, .long ((z_4 * 31) + ((Int32.ofInt r_13).toInt64)), zmk, zj x4, zmk] [] w_11 ov w' c s
    refine Zr_st (q := (184, [zp a0, zp a1, .long ((z_4 * 31) + ((Int32.ofInt r_13).toInt64)), zmk, zj x4, zmk], [.long ((z_4 * 31) + ((Int32.ofInt r_13).toInt64))])) rfl rfl rfl ?_
    show Zr sc 100 184 [zp a0, zp a1, .long ((z_4 * 31) + ((Int32.ofInt r_13).toInt64)), zmk, zj x4, zmk] [.long ((z_4 * 31) + ((Int32.ofInt r_13).toInt64))] w_11 ov w' c s
    refine rl_lc (z := 31) rfl rfl (by decide) ?_
    show Zr sc 100 187 [zp a0, zp a1, .long ((z_4 * 31) + ((Int32.ofInt r_13).toInt64)), zmk, zj x4, zmk] [.long 31, .long ((z_4 * 31) + ((Int32.ofInt r_13).toInt64))] w_11 ov w' c s
    refine rl_lmul rfl ?_
    show Zr sc 100 188 [zp a0, zp a1, .long ((z_4 * 31) + ((Int32.ofInt r_13).toInt64)), zmk, zj x4, zmk] [.long (((z_4 * 31) + ((Int32.ofInt r_13).toInt64)) * 31)] w_11 ov w' c s
    refine Zr_st (q := (189, [zp a0, zp a1, .long ((z_4 * 31) + ((Int32.ofInt r_13).toInt64)), zmk, zj x4, zmk], [zp a1, .long (((z_4 * 31) + ((Int32.ofInt r_13).toInt64)) * 31)])) rfl rfl rfl ?_
    show Zr sc 100 189 [zp a0, zp a1, .long ((z_4 * 31) + ((Int32.ofInt r_13).toInt64)), zmk, zj x4, zmk] [zp a1, .long (((z_4 * 31) + ((Int32.ofInt r_13).toInt64)) * 31)] w_11 ov w' c s
    refine rl_bi rfl (by decide) ?_
    show Zr sc 100 191 [zp a0, zp a1, .long ((z_4 * 31) + ((Int32.ofInt r_13).toInt64)), zmk, zj x4, zmk] [zj 30, zp a1, .long (((z_4 * 31) + ((Int32.ofInt r_13).toInt64)) * 31)] w_11 ov w' c s
    obtain ⟨cn_14, fs_15, hw_16, hcn_17, h⟩ := h
    have hz_18 : ∃ kd, zinv 100 (.invokevirtual 189) [zj 30, zp a1, .long (((z_4 * 31) + ((Int32.ofInt r_13).toInt64)) * 31)] (false, w_11) = some (kd, 38, [zp a1, zj 30], [.long (((z_4 * 31) + ((Int32.ofInt r_13).toInt64)) * 31)]) ∧ decide (kd < 6) = true := by rcases hcn_17 with rfl | rfl | rfl <;> exact zinv_u hw_16 rfl rfl rfl rfl rfl rfl rfl
    obtain ⟨kd_19, hz_18⟩ := hz_18
    obtain ⟨r_22, w_20, hk_21, h⟩ := h
    refine rn_cal0 (ins := .invokevirtual 189) (rest := [.long (((z_4 * 31) + ((Int32.ofInt r_13).toInt64)) * 31)]) rfl rfl rfl rfl hz_18.1 rfl hz_18.2 hk_21 ?_
    show Zr sc 100 194 [zp a0, zp a1, .long ((z_4 * 31) + ((Int32.ofInt r_13).toInt64)), zmk, zj x4, zmk] [zj r_22, .long (((z_4 * 31) + ((Int32.ofInt r_13).toInt64)) * 31)] w_20 ov w' c s
    refine rl_i2l rfl ?_
    show Zr sc 100 195 [zp a0, zp a1, .long ((z_4 * 31) + ((Int32.ofInt r_13).toInt64)), zmk, zj x4, zmk] [.long ((Int32.ofInt r_22).toInt64), .long (((z_4 * 31) + ((Int32.ofInt r_13).toInt64)) * 31)] w_20 ov w' c s
    refine rl_ladd rfl ?_
    show Zr sc 100 196 [zp a0, zp a1, .long ((z_4 * 31) + ((Int32.ofInt r_13).toInt64)), zmk, zj x4, zmk] [.long ((((z_4 * 31) + ((Int32.ofInt r_13).toInt64)) * 31) + ((Int32.ofInt r_22).toInt64))] w_20 ov w' c s
    refine Zr_st (q := (197, [zp a0, zp a1, .long ((((z_4 * 31) + ((Int32.ofInt r_13).toInt64)) * 31) + ((Int32.ofInt r_22).toInt64)), zmk, zj x4, zmk], [])) rfl rfl rfl ?_
    show Zr sc 100 197 [zp a0, zp a1, .long ((((z_4 * 31) + ((Int32.ofInt r_13).toInt64)) * 31) + ((Int32.ofInt r_22).toInt64)), zmk, zj x4, zmk] [] w_20 ov w' c s
    refine Zr_st (q := (198, [zp a0, zp a1, .long ((((z_4 * 31) + ((Int32.ofInt r_13).toInt64)) * 31) + ((Int32.ofInt r_22).toInt64)), zmk, zj x4, zmk], [.long ((((z_4 * 31) + ((Int32.ofInt r_13).toInt64)) * 31) + ((Int32.ofInt r_22).toInt64))])) rfl rfl rfl ?_
    show Zr sc 100 198 [zp a0, zp a1, .long ((((z_4 * 31) + ((Int32.ofInt r_13).toInt64)) * 31) + ((Int32.ofInt r_22).toInt64)), zmk, zj x4, zmk] [.long ((((z_4 * 31) + ((Int32.ofInt r_13).toInt64)) * 31) + ((Int32.ofInt r_22).toInt64))] w_20 ov w' c s
    refine rl_lc (z := 31) rfl rfl (by decide) ?_
    show Zr sc 100 201 [zp a0, zp a1, .long ((((z_4 * 31) + ((Int32.ofInt r_13).toInt64)) * 31) + ((Int32.ofInt r_22).toInt64)), zmk, zj x4, zmk] [.long 31, .long ((((z_4 * 31) + ((Int32.ofInt r_13).toInt64)) * 31) + ((Int32.ofInt r_22).toInt64))] w_20 ov w' c s
    refine rl_lmul rfl ?_
    show Zr sc 100 202 [zp a0, zp a1, .long ((((z_4 * 31) + ((Int32.ofInt r_13).toInt64)) * 31) + ((Int32.ofInt r_22).toInt64)), zmk, zj x4, zmk] [.long (((((z_4 * 31) + ((Int32.ofInt r_13).toInt64)) * 31) + ((Int32.ofInt r_22).toInt64)) * 31)] w_20 ov w' c s
    refine Zr_st (q := (203, [zp a0, zp a1, .long ((((z_4 * 31) + ((Int32.ofInt r_13).toInt64)) * 31) + ((Int32.ofInt r_22).toInt64)), zmk, zj x4, zmk], [zp a1, .long (((((z_4 * 31) + ((Int32.ofInt r_13).toInt64)) * 31) + ((Int32.ofInt r_22).toInt64)) * 31)])) rfl rfl rfl ?_
    show Zr sc 100 203 [zp a0, zp a1, .long ((((z_4 * 31) + ((Int32.ofInt r_13).toInt64)) * 31) + ((Int32.ofInt r_22).toInt64)), zmk, zj x4, zmk] [zp a1, .long (((((z_4 * 31) + ((Int32.ofInt r_13).toInt64)) * 31) + ((Int32.ofInt r_22).toInt64)) * 31)] w_20 ov w' c s
    refine rl_bi rfl (by decide) ?_
    show Zr sc 100 205 [zp a0, zp a1, .long ((((z_4 * 31) + ((Int32.ofInt r_13).toInt64)) * 31) + ((Int32.ofInt r_22).toInt64)), zmk, zj x4, zmk] [zj 120, zp a1, .long (((((z_4 * 31) + ((Int32.ofInt r_13).toInt64)) * 31) + ((Int32.ofInt r_22).toInt64)) * 31)] w_20 ov w' c s
    obtain ⟨cn_23, fs_24, hw_25, hcn_26, h⟩ := h
    have hz_27 : ∃ kd, zinv 100 (.invokevirtual 189) [zj 120, zp a1, .long (((((z_4 * 31) + ((Int32.ofInt r_13).toInt64)) * 31) + ((Int32.ofInt r_22).toInt64)) * 31)] (false, w_20) = some (kd, 38, [zp a1, zj 120], [.long (((((z_4 * 31) + ((Int32.ofInt r_13).toInt64)) * 31) + ((Int32.ofInt r_22).toInt64)) * 31)]) ∧ decide (kd < 6) = true := by rcases hcn_26 with rfl | rfl | rfl <;> exact zinv_u hw_25 rfl rfl rfl rfl rfl rfl rfl
    obtain ⟨kd_28, hz_27⟩ := hz_27
    obtain ⟨r_31, w_29, hk_30, h⟩ := h
    refine rn_cal0 (ins := .invokevirtual 189) (rest := [.long (((((z_4 * 31) + ((Int32.ofInt r_13).toInt64)) * 31) + ((Int32.ofInt r_22).toInt64)) * 31)]) rfl rfl rfl rfl hz_27.1 rfl hz_27.2 hk_30 ?_
    show Zr sc 100 208 [zp a0, zp a1, .long ((((z_4 * 31) + ((Int32.ofInt r_13).toInt64)) * 31) + ((Int32.ofInt r_22).toInt64)), zmk, zj x4, zmk] [zj r_31, .long (((((z_4 * 31) + ((Int32.ofInt r_13).toInt64)) * 31) + ((Int32.ofInt r_22).toInt64)) * 31)] w_29 ov w' c s
    refine rl_i2l rfl ?_
    show Zr sc 100 209 [zp a0, zp a1, .long ((((z_4 * 31) + ((Int32.ofInt r_13).toInt64)) * 31) + ((Int32.ofInt r_22).toInt64)), zmk, zj x4, zmk] [.long ((Int32.ofInt r_31).toInt64), .long (((((z_4 * 31) + ((Int32.ofInt r_13).toInt64)) * 31) + ((Int32.ofInt r_22).toInt64)) * 31)] w_29 ov w' c s
    refine rl_ladd rfl ?_
    show Zr sc 100 210 [zp a0, zp a1, .long ((((z_4 * 31) + ((Int32.ofInt r_13).toInt64)) * 31) + ((Int32.ofInt r_22).toInt64)), zmk, zj x4, zmk] [.long ((((((z_4 * 31) + ((Int32.ofInt r_13).toInt64)) * 31) + ((Int32.ofInt r_22).toInt64)) * 31) + ((Int32.ofInt r_31).toInt64))] w_29 ov w' c s
    refine Zr_st (q := (211, [zp a0, zp a1, .long ((((((z_4 * 31) + ((Int32.ofInt r_13).toInt64)) * 31) + ((Int32.ofInt r_22).toInt64)) * 31) + ((Int32.ofInt r_31).toInt64)), zmk, zj x4, zmk], [])) rfl rfl rfl ?_
    show Zr sc 100 211 [zp a0, zp a1, .long ((((((z_4 * 31) + ((Int32.ofInt r_13).toInt64)) * 31) + ((Int32.ofInt r_22).toInt64)) * 31) + ((Int32.ofInt r_31).toInt64)), zmk, zj x4, zmk] [] w_29 ov w' c s
    refine rl_ic rfl ?_
    show Zr sc 100 212 [zp a0, zp a1, .long ((((((z_4 * 31) + ((Int32.ofInt r_13).toInt64)) * 31) + ((Int32.ofInt r_22).toInt64)) * 31) + ((Int32.ofInt r_31).toInt64)), zmk, zj x4, zmk] [zj 0] w_29 ov w' c s
    refine Zr_st (q := (214, [zp a0, zp a1, .long ((((((z_4 * 31) + ((Int32.ofInt r_13).toInt64)) * 31) + ((Int32.ofInt r_22).toInt64)) * 31) + ((Int32.ofInt r_31).toInt64)), zmk, zj 0, zmk], [])) rfl rfl rfl ?_
    show Zr sc 100 214 [zp a0, zp a1, .long ((((((z_4 * 31) + ((Int32.ofInt r_13).toInt64)) * 31) + ((Int32.ofInt r_22).toInt64)) * 31) + ((Int32.ofInt r_31).toInt64)), zmk, zj 0, zmk] [] w_29 ov w' c s
    exact h
  · replace h := h.2 hp
    show Zr sc 100 144 [zp a0, zp a1, .long z2, zmk, zj x4, zmk] [] w ov w' c s
    refine Zr_st (q := (145, [zp a0, zp a1, .long z2, zmk, zj x4, zmk], [.long z2])) rfl rfl rfl ?_
    show Zr sc 100 145 [zp a0, zp a1, .long z2, zmk, zj x4, zmk] [.long z2] w ov w' c s
    refine rl_lc (z := 31) rfl rfl (by decide) ?_
    show Zr sc 100 148 [zp a0, zp a1, .long z2, zmk, zj x4, zmk] [.long 31, .long z2] w ov w' c s
    refine rl_lmul rfl ?_
    show Zr sc 100 149 [zp a0, zp a1, .long z2, zmk, zj x4, zmk] [.long (z2 * 31)] w ov w' c s
    refine Zr_st (q := (150, [zp a0, zp a1, .long z2, zmk, zj x4, zmk], [zp a1, .long (z2 * 31)])) rfl rfl rfl ?_
    show Zr sc 100 150 [zp a0, zp a1, .long z2, zmk, zj x4, zmk] [zp a1, .long (z2 * 31)] w ov w' c s
    refine Zr_st (q := (152, [zp a0, zp a1, .long z2, zmk, zj x4, zmk], [zj x4, zp a1, .long (z2 * 31)])) rfl rfl rfl ?_
    show Zr sc 100 152 [zp a0, zp a1, .long z2, zmk, zj x4, zmk] [zj x4, zp a1, .long (z2 * 31)] w ov w' c s
    obtain ⟨cn_32, fs_33, hw_34, hcn_35, h⟩ := h
    have hz_36 : ∃ kd, zinv 100 (.invokevirtual 128) [zj x4, zp a1, .long (z2 * 31)] (false, w) = some (kd, 34, [zp a1, zj x4], [.long (z2 * 31)]) ∧ decide (kd < 6) = true := by rcases hcn_35 with rfl | rfl | rfl <;> exact zinv_u hw_34 rfl rfl rfl rfl rfl rfl rfl
    obtain ⟨kd_37, hz_36⟩ := hz_36
    obtain ⟨r_40, w_38, hk_39, h⟩ := h
    refine rn_cal0 (ins := .invokevirtual 128) (rest := [.long (z2 * 31)]) rfl rfl rfl rfl hz_36.1 rfl hz_36.2 hk_39 ?_
    show Zr sc 100 155 [zp a0, zp a1, .long z2, zmk, zj x4, zmk] [zj r_40, .long (z2 * 31)] w_38 ov w' c s
    refine rl_i2l rfl ?_
    show Zr sc 100 156 [zp a0, zp a1, .long z2, zmk, zj x4, zmk] [.long ((Int32.ofInt r_40).toInt64), .long (z2 * 31)] w_38 ov w' c s
    refine rl_ladd rfl ?_
    show Zr sc 100 157 [zp a0, zp a1, .long z2, zmk, zj x4, zmk] [.long ((z2 * 31) + ((Int32.ofInt r_40).toInt64))] w_38 ov w' c s
    refine Zr_st (q := (158, [zp a0, zp a1, .long ((z2 * 31) + ((Int32.ofInt r_40).toInt64)), zmk, zj x4, zmk], [])) rfl rfl rfl ?_
    show Zr sc 100 158 [zp a0, zp a1, .long ((z2 * 31) + ((Int32.ofInt r_40).toInt64)), zmk, zj x4, zmk] [] w_38 ov w' c s
    refine rl_inc rfl rfl rfl rfl ?_
    show Zr sc 100 161 [zp a0, zp a1, .long ((z2 * 31) + ((Int32.ofInt r_40).toInt64)), zmk, zj (x4 + 1), zmk] [] w_38 ov w' c s
    refine Zr_st (q := (138, [zp a0, zp a1, .long ((z2 * 31) + ((Int32.ofInt r_40).toInt64)), zmk, zj (x4 + 1), zmk], [])) rfl rfl rfl ?_
    show Zr sc 100 138 [zp a0, zp a1, .long ((z2 * 31) + ((Int32.ofInt r_40).toInt64)), zmk, zj (x4 + 1), zmk] [] w_38 ov w' c s
    exact h
set_option maxRecDepth 100000 in
theorem V100_214 {sc : List Value} {w w' : List zE} {ov : Option Value} {c s : Nat} {a0 : Nat} {a1 : Nat} {z2 : Int64} {x4 : Int} {v5 : Value} (h : ((zrg x4 ∧ zrg 6) ∧ ((6 ≤ x4 → (ov = some (.long z2) ∧ w' = w ∧ c = 0 ∧ s = 0)) ∧ (¬ (6 ≤ x4) → (∃ f0_3 : Nat, ∃ f1_4 : Nat, ∃ f2_5 : Nat, ∃ f3_6 : Nat, ∃ f4_7 : Nat, ∃ f5_8 : Nat, ∃ f6_9 : Nat, ∃ f7_10 : Int, w[a0]? = some (zob 6 [zp f0_3, zp f1_4, zp f2_5, zp f3_6, zp f4_7, zp f5_8, zp f6_9, zj f7_10]) ∧ (∃ p_13 : Nat, ∃ w_11 : List zE, Zc sc 2 [zp a0, zj x4] w (some (zp p_13)) w_11 0 0 ∧ (∃ f0_15 : Nat, ∃ f1_16 : Nat, ∃ f2_17 : Nat, ∃ f3_18 : Nat, ∃ f4_19 : Nat, ∃ f5_20 : Nat, ∃ f6_21 : Nat, ∃ f7_22 : Int, w_11[a0]? = some (zob 6 [zp f0_15, zp f1_16, zp f2_17, zp f3_18, zp f4_19, zp f5_20, zp f6_21, zj f7_22]) ∧ (∃ cn_23 : Nat, ∃ fs_24 : List Value, w_11[p_13]? = some (zob cn_23 fs_24) ∧ (cn_23 = 1 ∨ cn_23 = 2 ∨ cn_23 = 4) ∧ (∃ p_31 : Nat, ∃ w_29 : List zE, Zc sc 57 [zp p_13, zp f0_15] w_11 (some (zp p_31)) w_29 0 0 ∧ (∃ cn_32 : Nat, ∃ fs_33 : List Value, w_29[p_31]? = some (zob cn_32 fs_33) ∧ (cn_32 = 1 ∨ cn_32 = 2 ∨ cn_32 = 4) ∧ (∃ r_40 : Int, ∃ w_38 : List zE, Zc sc 34 [zp p_31, zj 4] w_29 (some (zj r_40)) w_38 0 0 ∧ (∃ cn_41 : Nat, ∃ fs_42 : List Value, w_38[p_31]? = some (zob cn_41 fs_42) ∧ (cn_41 = 1 ∨ cn_41 = 2 ∨ cn_41 = 4) ∧ (∃ r_49 : Int, ∃ w_47 : List zE, Zc sc 34 [zp p_31, zj 5] w_38 (some (zj r_49)) w_47 0 0 ∧ Zr sc 100 214 [zp a0, zp a1, .long ((((z2 * 31) + ((Int32.ofInt r_40).toInt64)) * 31) + ((Int32.ofInt r_49).toInt64)), zmk, zj (x4 + 1), zp p_31] [] w_47 ov w' c s))))))))))))) : Zr sc 100 214 [zp a0, zp a1, .long z2, zmk, zj x4, v5] [] w ov w' c s := by
  refine Zr_st (q := (216, [zp a0, zp a1, .long z2, zmk, zj x4, v5], [zj x4])) rfl rfl rfl ?_
  show Zr sc 100 216 [zp a0, zp a1, .long z2, zmk, zj x4, v5] [zj x4] w ov w' c s
  refine rl_bi rfl (by decide) ?_
  show Zr sc 100 218 [zp a0, zp a1, .long z2, zmk, zj x4, v5] [zj 6, zj x4] w ov w' c s
  obtain ⟨hr_1, h⟩ := h
  refine Zr_br (p := 6 ≤ x4) rfl rfl (zcmp_j (cnd := .ge) hr_1.1 hr_1.2) (fun hp => ?_) (fun hp => ?_)
  · replace h := h.1 hp
    show Zr sc 100 270 [zp a0, zp a1, .long z2, zmk, zj x4, v5] [] w ov w' c s
    refine Zr_st (q := (271, [zp a0, zp a1, .long z2, zmk, zj x4, v5], [.long z2])) rfl rfl rfl ?_
    show Zr sc 100 271 [zp a0, zp a1, .long z2, zmk, zj x4, v5] [.long z2] w ov w' c s
    obtain ⟨h1, h2, h3, h4⟩ := h
    subst h1; subst h2; subst h3; subst h4
    exact Zr_ret (ins := .lreturn) rfl rfl
  · replace h := h.2 hp
    show Zr sc 100 221 [zp a0, zp a1, .long z2, zmk, zj x4, v5] [] w ov w' c s
    refine Zr_st (q := (222, [zp a0, zp a1, .long z2, zmk, zj x4, v5], [zp a0])) rfl rfl rfl ?_
    show Zr sc 100 222 [zp a0, zp a1, .long z2, zmk, zj x4, v5] [zp a0] w ov w' c s
    refine Zr_st (q := (224, [zp a0, zp a1, .long z2, zmk, zj x4, v5], [zj x4, zp a0])) rfl rfl rfl ?_
    show Zr sc 100 224 [zp a0, zp a1, .long z2, zmk, zj x4, v5] [zj x4, zp a0] w ov w' c s
    obtain ⟨f0_3, f1_4, f2_5, f3_6, f4_7, f5_8, f6_9, f7_10, hw_2, h⟩ := h
    obtain ⟨p_13, w_11, hk_12, h⟩ := h
    refine rn_cal0 (ins := .invokevirtual 70) (rest := []) rfl rfl rfl rfl (zinv_v (fs := _) hw_2 rfl rfl rfl rfl) rfl rfl hk_12 ?_
    show Zr sc 100 227 [zp a0, zp a1, .long z2, zmk, zj x4, v5] [zp p_13] w_11 ov w' c s
    refine Zr_st (q := (228, [zp a0, zp a1, .long z2, zmk, zj x4, v5], [zp a0, zp p_13])) rfl rfl rfl ?_
    show Zr sc 100 228 [zp a0, zp a1, .long z2, zmk, zj x4, v5] [zp a0, zp p_13] w_11 ov w' c s
    obtain ⟨f0_15, f1_16, f2_17, f3_18, f4_19, f5_20, f6_21, f7_22, hw_14, h⟩ := h
    refine rl_gf rfl hw_14 rfl rfl ?_
    show Zr sc 100 231 [zp a0, zp a1, .long z2, zmk, zj x4, v5] [zp f0_15, zp p_13] w_11 ov w' c s
    obtain ⟨cn_23, fs_24, hw_25, hcn_26, h⟩ := h
    have hz_27 : ∃ kd, zinv 100 (.invokevirtual 103) [zp f0_15, zp p_13] (false, w_11) = some (kd, 57, [zp p_13, zp f0_15], []) ∧ decide (kd < 6) = true := by rcases hcn_26 with rfl | rfl | rfl <;> exact zinv_u hw_25 rfl rfl rfl rfl rfl rfl rfl
    obtain ⟨kd_28, hz_27⟩ := hz_27
    obtain ⟨p_31, w_29, hk_30, h⟩ := h
    refine rn_cal0 (ins := .invokevirtual 103) (rest := []) rfl rfl rfl rfl hz_27.1 rfl hz_27.2 hk_30 ?_
    show Zr sc 100 234 [zp a0, zp a1, .long z2, zmk, zj x4, v5] [zp p_31] w_29 ov w' c s
    refine Zr_st (q := (236, [zp a0, zp a1, .long z2, zmk, zj x4, zp p_31], [])) rfl rfl rfl ?_
    show Zr sc 100 236 [zp a0, zp a1, .long z2, zmk, zj x4, zp p_31] [] w_29 ov w' c s
    refine Zr_st (q := (237, [zp a0, zp a1, .long z2, zmk, zj x4, zp p_31], [.long z2])) rfl rfl rfl ?_
    show Zr sc 100 237 [zp a0, zp a1, .long z2, zmk, zj x4, zp p_31] [.long z2] w_29 ov w' c s
    refine rl_lc (z := 31) rfl rfl (by decide) ?_
    show Zr sc 100 240 [zp a0, zp a1, .long z2, zmk, zj x4, zp p_31] [.long 31, .long z2] w_29 ov w' c s
    refine rl_lmul rfl ?_
    show Zr sc 100 241 [zp a0, zp a1, .long z2, zmk, zj x4, zp p_31] [.long (z2 * 31)] w_29 ov w' c s
    refine Zr_st (q := (243, [zp a0, zp a1, .long z2, zmk, zj x4, zp p_31], [zp p_31, .long (z2 * 31)])) rfl rfl rfl ?_
    show Zr sc 100 243 [zp a0, zp a1, .long z2, zmk, zj x4, zp p_31] [zp p_31, .long (z2 * 31)] w_29 ov w' c s
    refine rl_ic rfl ?_
    show Zr sc 100 244 [zp a0, zp a1, .long z2, zmk, zj x4, zp p_31] [zj 4, zp p_31, .long (z2 * 31)] w_29 ov w' c s
    obtain ⟨cn_32, fs_33, hw_34, hcn_35, h⟩ := h
    have hz_36 : ∃ kd, zinv 100 (.invokevirtual 128) [zj 4, zp p_31, .long (z2 * 31)] (false, w_29) = some (kd, 34, [zp p_31, zj 4], [.long (z2 * 31)]) ∧ decide (kd < 6) = true := by rcases hcn_35 with rfl | rfl | rfl <;> exact zinv_u hw_34 rfl rfl rfl rfl rfl rfl rfl
    obtain ⟨kd_37, hz_36⟩ := hz_36
    obtain ⟨r_40, w_38, hk_39, h⟩ := h
    refine rn_cal0 (ins := .invokevirtual 128) (rest := [.long (z2 * 31)]) rfl rfl rfl rfl hz_36.1 rfl hz_36.2 hk_39 ?_
    show Zr sc 100 247 [zp a0, zp a1, .long z2, zmk, zj x4, zp p_31] [zj r_40, .long (z2 * 31)] w_38 ov w' c s
    refine rl_i2l rfl ?_
    show Zr sc 100 248 [zp a0, zp a1, .long z2, zmk, zj x4, zp p_31] [.long ((Int32.ofInt r_40).toInt64), .long (z2 * 31)] w_38 ov w' c s
    refine rl_ladd rfl ?_
    show Zr sc 100 249 [zp a0, zp a1, .long z2, zmk, zj x4, zp p_31] [.long ((z2 * 31) + ((Int32.ofInt r_40).toInt64))] w_38 ov w' c s
    refine Zr_st (q := (250, [zp a0, zp a1, .long ((z2 * 31) + ((Int32.ofInt r_40).toInt64)), zmk, zj x4, zp p_31], [])) rfl rfl rfl ?_
    show Zr sc 100 250 [zp a0, zp a1, .long ((z2 * 31) + ((Int32.ofInt r_40).toInt64)), zmk, zj x4, zp p_31] [] w_38 ov w' c s
    refine Zr_st (q := (251, [zp a0, zp a1, .long ((z2 * 31) + ((Int32.ofInt r_40).toInt64)), zmk, zj x4, zp p_31], [.long ((z2 * 31) + ((Int32.ofInt r_40).toInt64))])) rfl rfl rfl ?_
    show Zr sc 100 251 [zp a0, zp a1, .long ((z2 * 31) + ((Int32.ofInt r_40).toInt64)), zmk, zj x4, zp p_31] [.long ((z2 * 31) + ((Int32.ofInt r_40).toInt64))] w_38 ov w' c s
    refine rl_lc (z := 31) rfl rfl (by decide) ?_
    show Zr sc 100 254 [zp a0, zp a1, .long ((z2 * 31) + ((Int32.ofInt r_40).toInt64)), zmk, zj x4, zp p_31] [.long 31, .long ((z2 * 31) + ((Int32.ofInt r_40).toInt64))] w_38 ov w' c s
    refine rl_lmul rfl ?_
    show Zr sc 100 255 [zp a0, zp a1, .long ((z2 * 31) + ((Int32.ofInt r_40).toInt64)), zmk, zj x4, zp p_31] [.long (((z2 * 31) + ((Int32.ofInt r_40).toInt64)) * 31)] w_38 ov w' c s
    refine Zr_st (q := (257, [zp a0, zp a1, .long ((z2 * 31) + ((Int32.ofInt r_40).toInt64)), zmk, zj x4, zp p_31], [zp p_31, .long (((z2 * 31) + ((Int32.ofInt r_40).toInt64)) * 31)])) rfl rfl rfl ?_
    show Zr sc 100 257 [zp a0, zp a1, .long ((z2 * 31) + ((Int32.ofInt r_40).toInt64)), zmk, zj x4, zp p_31] [zp p_31, .long (((z2 * 31) + ((Int32.ofInt r_40).toInt64)) * 31)] w_38 ov w' c s
    refine rl_ic rfl ?_
    show Zr sc 100 258 [zp a0, zp a1, .long ((z2 * 31) + ((Int32.ofInt r_40).toInt64)), zmk, zj x4, zp p_31] [zj 5, zp p_31, .long (((z2 * 31) + ((Int32.ofInt r_40).toInt64)) * 31)] w_38 ov w' c s
    obtain ⟨cn_41, fs_42, hw_43, hcn_44, h⟩ := h
    have hz_45 : ∃ kd, zinv 100 (.invokevirtual 128) [zj 5, zp p_31, .long (((z2 * 31) + ((Int32.ofInt r_40).toInt64)) * 31)] (false, w_38) = some (kd, 34, [zp p_31, zj 5], [.long (((z2 * 31) + ((Int32.ofInt r_40).toInt64)) * 31)]) ∧ decide (kd < 6) = true := by rcases hcn_44 with rfl | rfl | rfl <;> exact zinv_u hw_43 rfl rfl rfl rfl rfl rfl rfl
    obtain ⟨kd_46, hz_45⟩ := hz_45
    obtain ⟨r_49, w_47, hk_48, h⟩ := h
    refine rn_cal0 (ins := .invokevirtual 128) (rest := [.long (((z2 * 31) + ((Int32.ofInt r_40).toInt64)) * 31)]) rfl rfl rfl rfl hz_45.1 rfl hz_45.2 hk_48 ?_
    show Zr sc 100 261 [zp a0, zp a1, .long ((z2 * 31) + ((Int32.ofInt r_40).toInt64)), zmk, zj x4, zp p_31] [zj r_49, .long (((z2 * 31) + ((Int32.ofInt r_40).toInt64)) * 31)] w_47 ov w' c s
    refine rl_i2l rfl ?_
    show Zr sc 100 262 [zp a0, zp a1, .long ((z2 * 31) + ((Int32.ofInt r_40).toInt64)), zmk, zj x4, zp p_31] [.long ((Int32.ofInt r_49).toInt64), .long (((z2 * 31) + ((Int32.ofInt r_40).toInt64)) * 31)] w_47 ov w' c s
    refine rl_ladd rfl ?_
    show Zr sc 100 263 [zp a0, zp a1, .long ((z2 * 31) + ((Int32.ofInt r_40).toInt64)), zmk, zj x4, zp p_31] [.long ((((z2 * 31) + ((Int32.ofInt r_40).toInt64)) * 31) + ((Int32.ofInt r_49).toInt64))] w_47 ov w' c s
    refine Zr_st (q := (264, [zp a0, zp a1, .long ((((z2 * 31) + ((Int32.ofInt r_40).toInt64)) * 31) + ((Int32.ofInt r_49).toInt64)), zmk, zj x4, zp p_31], [])) rfl rfl rfl ?_
    show Zr sc 100 264 [zp a0, zp a1, .long ((((z2 * 31) + ((Int32.ofInt r_40).toInt64)) * 31) + ((Int32.ofInt r_49).toInt64)), zmk, zj x4, zp p_31] [] w_47 ov w' c s
    refine rl_inc rfl rfl rfl rfl ?_
    show Zr sc 100 267 [zp a0, zp a1, .long ((((z2 * 31) + ((Int32.ofInt r_40).toInt64)) * 31) + ((Int32.ofInt r_49).toInt64)), zmk, zj (x4 + 1), zp p_31] [] w_47 ov w' c s
    refine Zr_st (q := (214, [zp a0, zp a1, .long ((((z2 * 31) + ((Int32.ofInt r_40).toInt64)) * 31) + ((Int32.ofInt r_49).toInt64)), zmk, zj (x4 + 1), zp p_31], [])) rfl rfl rfl ?_
    show Zr sc 100 214 [zp a0, zp a1, .long ((((z2 * 31) + ((Int32.ofInt r_40).toInt64)) * 31) + ((Int32.ofInt r_49).toInt64)), zmk, zj (x4 + 1), zp p_31] [] w_47 ov w' c s
    exact h

-- HeapwrightLab$Memory.arenasOpen()I
set_option maxRecDepth 100000 in
theorem V101_0_1 {sc : List Value} {w w' : List zE} {ov : Option Value} {c s : Nat} {a0 : Nat} (h : (∃ f0_2 : Nat, ∃ f1_3 : Nat, ∃ f2_4 : Int, ∃ f3_5 : Int, ∃ f4_6 : Int, ∃ f5_7 : Int, ∃ f6_8 : Int, ∃ f7_9 : Nat, ∃ f8_10 : Nat, ∃ f9_11 : Int, ∃ f10_12 : Int, ∃ f11_13 : Int, ∃ f12_14 : Int, w[a0]? = some (zob 1 [zp f0_2, zp f1_3, zj f2_4, zj f3_5, zj f4_6, zj f5_7, zj f6_8, zp f7_9, zp f8_10, zj f9_11, zj f10_12, zj f11_13, zj f12_14]) ∧ (ov = some (zj f10_12) ∧ w' = w ∧ c = 0 ∧ s = 0))) : Zr sc 101 0 [zp a0] [] w ov w' c s := by
  refine Zr_st (q := (1, [zp a0], [zp a0])) rfl rfl rfl ?_
  show Zr sc 101 1 [zp a0] [zp a0] w ov w' c s
  obtain ⟨f0_2, f1_3, f2_4, f3_5, f4_6, f5_7, f6_8, f7_9, f8_10, f9_11, f10_12, f11_13, f12_14, hw_1, h⟩ := h
  refine rl_gf rfl hw_1 rfl rfl ?_
  show Zr sc 101 4 [zp a0] [zj f10_12] w ov w' c s
  obtain ⟨h1, h2, h3, h4⟩ := h
  subst h1; subst h2; subst h3; subst h4
  exact Zr_ret (ins := .ireturn) rfl rfl

-- HeapwrightLab$Memory.arenasOpen()I
set_option maxRecDepth 100000 in
theorem V101_0_2 {sc : List Value} {w w' : List zE} {ov : Option Value} {c s : Nat} {a0 : Nat} (h : (∃ f0_2 : Nat, ∃ f1_3 : Nat, ∃ f2_4 : Int, ∃ f3_5 : Int, ∃ f4_6 : Int, ∃ f5_7 : Int, ∃ f6_8 : Int, ∃ f7_9 : Nat, ∃ f8_10 : Nat, ∃ f9_11 : Int, ∃ f10_12 : Int, ∃ f11_13 : Int, ∃ f12_14 : Int, w[a0]? = some (zob 2 [zp f0_2, zp f1_3, zj f2_4, zj f3_5, zj f4_6, zj f5_7, zj f6_8, zp f7_9, zp f8_10, zj f9_11, zj f10_12, zj f11_13, zj f12_14]) ∧ (ov = some (zj f10_12) ∧ w' = w ∧ c = 0 ∧ s = 0))) : Zr sc 101 0 [zp a0] [] w ov w' c s := by
  refine Zr_st (q := (1, [zp a0], [zp a0])) rfl rfl rfl ?_
  show Zr sc 101 1 [zp a0] [zp a0] w ov w' c s
  obtain ⟨f0_2, f1_3, f2_4, f3_5, f4_6, f5_7, f6_8, f7_9, f8_10, f9_11, f10_12, f11_13, f12_14, hw_1, h⟩ := h
  refine rl_gf rfl hw_1 rfl rfl ?_
  show Zr sc 101 4 [zp a0] [zj f10_12] w ov w' c s
  obtain ⟨h1, h2, h3, h4⟩ := h
  subst h1; subst h2; subst h3; subst h4
  exact Zr_ret (ins := .ireturn) rfl rfl

-- HeapwrightLab$Memory.arenasOpen()I
set_option maxRecDepth 100000 in
theorem V101_0_4 {sc : List Value} {w w' : List zE} {ov : Option Value} {c s : Nat} {a0 : Nat} (h : (∃ f0_2 : Nat, ∃ f1_3 : Nat, ∃ f2_4 : Int, ∃ f3_5 : Int, ∃ f4_6 : Int, ∃ f5_7 : Int, ∃ f6_8 : Int, ∃ f7_9 : Nat, ∃ f8_10 : Nat, ∃ f9_11 : Int, ∃ f10_12 : Int, ∃ f11_13 : Int, ∃ f12_14 : Int, ∃ f13_15 : Nat, w[a0]? = some (zob 4 [zp f0_2, zp f1_3, zj f2_4, zj f3_5, zj f4_6, zj f5_7, zj f6_8, zp f7_9, zp f8_10, zj f9_11, zj f10_12, zj f11_13, zj f12_14, zp f13_15]) ∧ (ov = some (zj f10_12) ∧ w' = w ∧ c = 0 ∧ s = 0))) : Zr sc 101 0 [zp a0] [] w ov w' c s := by
  refine Zr_st (q := (1, [zp a0], [zp a0])) rfl rfl rfl ?_
  show Zr sc 101 1 [zp a0] [zp a0] w ov w' c s
  obtain ⟨f0_2, f1_3, f2_4, f3_5, f4_6, f5_7, f6_8, f7_9, f8_10, f9_11, f10_12, f11_13, f12_14, f13_15, hw_1, h⟩ := h
  refine rl_gf rfl hw_1 rfl rfl ?_
  show Zr sc 101 4 [zp a0] [zj f10_12] w ov w' c s
  obtain ⟨h1, h2, h3, h4⟩ := h
  subst h1; subst h2; subst h3; subst h4
  exact Zr_ret (ins := .ireturn) rfl rfl

-- HeapwrightLab$Memory.handPlace()I
set_option maxRecDepth 100000 in
theorem V102_0_1 {sc : List Value} {w w' : List zE} {ov : Option Value} {c s : Nat} {a0 : Nat} (h : (∃ f0_2 : Nat, ∃ f1_3 : Nat, ∃ f2_4 : Int, ∃ f3_5 : Int, ∃ f4_6 : Int, ∃ f5_7 : Int, ∃ f6_8 : Int, ∃ f7_9 : Nat, ∃ f8_10 : Nat, ∃ f9_11 : Int, ∃ f10_12 : Int, ∃ f11_13 : Int, ∃ f12_14 : Int, w[a0]? = some (zob 1 [zp f0_2, zp f1_3, zj f2_4, zj f3_5, zj f4_6, zj f5_7, zj f6_8, zp f7_9, zp f8_10, zj f9_11, zj f10_12, zj f11_13, zj f12_14]) ∧ (ov = some (zj f5_7) ∧ w' = w ∧ c = 0 ∧ s = 0))) : Zr sc 102 0 [zp a0] [] w ov w' c s := by
  refine Zr_st (q := (1, [zp a0], [zp a0])) rfl rfl rfl ?_
  show Zr sc 102 1 [zp a0] [zp a0] w ov w' c s
  obtain ⟨f0_2, f1_3, f2_4, f3_5, f4_6, f5_7, f6_8, f7_9, f8_10, f9_11, f10_12, f11_13, f12_14, hw_1, h⟩ := h
  refine rl_gf rfl hw_1 rfl rfl ?_
  show Zr sc 102 4 [zp a0] [zj f5_7] w ov w' c s
  obtain ⟨h1, h2, h3, h4⟩ := h
  subst h1; subst h2; subst h3; subst h4
  exact Zr_ret (ins := .ireturn) rfl rfl

-- HeapwrightLab$Memory.handPlace()I
set_option maxRecDepth 100000 in
theorem V102_0_2 {sc : List Value} {w w' : List zE} {ov : Option Value} {c s : Nat} {a0 : Nat} (h : (∃ f0_2 : Nat, ∃ f1_3 : Nat, ∃ f2_4 : Int, ∃ f3_5 : Int, ∃ f4_6 : Int, ∃ f5_7 : Int, ∃ f6_8 : Int, ∃ f7_9 : Nat, ∃ f8_10 : Nat, ∃ f9_11 : Int, ∃ f10_12 : Int, ∃ f11_13 : Int, ∃ f12_14 : Int, w[a0]? = some (zob 2 [zp f0_2, zp f1_3, zj f2_4, zj f3_5, zj f4_6, zj f5_7, zj f6_8, zp f7_9, zp f8_10, zj f9_11, zj f10_12, zj f11_13, zj f12_14]) ∧ (ov = some (zj f5_7) ∧ w' = w ∧ c = 0 ∧ s = 0))) : Zr sc 102 0 [zp a0] [] w ov w' c s := by
  refine Zr_st (q := (1, [zp a0], [zp a0])) rfl rfl rfl ?_
  show Zr sc 102 1 [zp a0] [zp a0] w ov w' c s
  obtain ⟨f0_2, f1_3, f2_4, f3_5, f4_6, f5_7, f6_8, f7_9, f8_10, f9_11, f10_12, f11_13, f12_14, hw_1, h⟩ := h
  refine rl_gf rfl hw_1 rfl rfl ?_
  show Zr sc 102 4 [zp a0] [zj f5_7] w ov w' c s
  obtain ⟨h1, h2, h3, h4⟩ := h
  subst h1; subst h2; subst h3; subst h4
  exact Zr_ret (ins := .ireturn) rfl rfl

-- HeapwrightLab$Memory.handPlace()I
set_option maxRecDepth 100000 in
theorem V102_0_4 {sc : List Value} {w w' : List zE} {ov : Option Value} {c s : Nat} {a0 : Nat} (h : (∃ f0_2 : Nat, ∃ f1_3 : Nat, ∃ f2_4 : Int, ∃ f3_5 : Int, ∃ f4_6 : Int, ∃ f5_7 : Int, ∃ f6_8 : Int, ∃ f7_9 : Nat, ∃ f8_10 : Nat, ∃ f9_11 : Int, ∃ f10_12 : Int, ∃ f11_13 : Int, ∃ f12_14 : Int, ∃ f13_15 : Nat, w[a0]? = some (zob 4 [zp f0_2, zp f1_3, zj f2_4, zj f3_5, zj f4_6, zj f5_7, zj f6_8, zp f7_9, zp f8_10, zj f9_11, zj f10_12, zj f11_13, zj f12_14, zp f13_15]) ∧ (ov = some (zj f5_7) ∧ w' = w ∧ c = 0 ∧ s = 0))) : Zr sc 102 0 [zp a0] [] w ov w' c s := by
  refine Zr_st (q := (1, [zp a0], [zp a0])) rfl rfl rfl ?_
  show Zr sc 102 1 [zp a0] [zp a0] w ov w' c s
  obtain ⟨f0_2, f1_3, f2_4, f3_5, f4_6, f5_7, f6_8, f7_9, f8_10, f9_11, f10_12, f11_13, f12_14, f13_15, hw_1, h⟩ := h
  refine rl_gf rfl hw_1 rfl rfl ?_
  show Zr sc 102 4 [zp a0] [zj f5_7] w ov w' c s
  obtain ⟨h1, h2, h3, h4⟩ := h
  subst h1; subst h2; subst h3; subst h4
  exact Zr_ret (ins := .ireturn) rfl rfl

-- HeapwrightLab.withEverything(JLHeapwrightLab$Memory;)J
set_option maxRecDepth 100000 in
theorem V103_0 {sc : List Value} {w w' : List zE} {ov : Option Value} {c s : Nat} {x0 : Int64} {a2 : Nat} (h : (∃ cn_1 : Nat, ∃ fs_2 : List Value, w[a2]? = some (zob cn_1 fs_2) ∧ (cn_1 = 1 ∨ cn_1 = 2 ∨ cn_1 = 4) ∧ (∃ p_9 : Nat, ∃ w_7 : List zE, Zc sc 6 [zp a2] w (some (zp p_9)) w_7 0 0 ∧ Zr sc 103 11 [.long x0, zmk, zp a2, .long x0, zmk, zp p_9, zj 0, zmk] [] w_7 ov w' c s))) : Zr sc 103 0 [.long x0, zmk, zp a2, zmk, zmk, zmk, zmk, zmk] [] w ov w' c s := by
  refine Zr_st (q := (1, [.long x0, zmk, zp a2, zmk, zmk, zmk, zmk, zmk], [.long x0])) rfl rfl rfl ?_
  show Zr sc 103 1 [.long x0, zmk, zp a2, zmk, zmk, zmk, zmk, zmk] [.long x0] w ov w' c s
  refine Zr_st (q := (2, [.long x0, zmk, zp a2, .long x0, zmk, zmk, zmk, zmk], [])) rfl rfl rfl ?_
  show Zr sc 103 2 [.long x0, zmk, zp a2, .long x0, zmk, zmk, zmk, zmk] [] w ov w' c s
  refine Zr_st (q := (3, [.long x0, zmk, zp a2, .long x0, zmk, zmk, zmk, zmk], [zp a2])) rfl rfl rfl ?_
  show Zr sc 103 3 [.long x0, zmk, zp a2, .long x0, zmk, zmk, zmk, zmk] [zp a2] w ov w' c s
  obtain ⟨cn_1, fs_2, hw_3, hcn_4, h⟩ := h
  have hz_5 : ∃ kd, zinv 103 (.invokevirtual 113) [zp a2] (false, w) = some (kd, 6, [zp a2], []) ∧ decide (kd < 6) = true := by rcases hcn_4 with rfl | rfl | rfl <;> exact zinv_u hw_3 rfl rfl rfl rfl rfl rfl rfl
  obtain ⟨kd_6, hz_5⟩ := hz_5
  obtain ⟨p_9, w_7, hk_8, h⟩ := h
  refine rn_cal0 (ins := .invokevirtual 113) (rest := []) rfl rfl rfl rfl hz_5.1 rfl hz_5.2 hk_8 ?_
  show Zr sc 103 6 [.long x0, zmk, zp a2, .long x0, zmk, zmk, zmk, zmk] [zp p_9] w_7 ov w' c s
  refine Zr_st (q := (8, [.long x0, zmk, zp a2, .long x0, zmk, zp p_9, zmk, zmk], [])) rfl rfl rfl ?_
  show Zr sc 103 8 [.long x0, zmk, zp a2, .long x0, zmk, zp p_9, zmk, zmk] [] w_7 ov w' c s
  refine rl_ic rfl ?_
  show Zr sc 103 9 [.long x0, zmk, zp a2, .long x0, zmk, zp p_9, zmk, zmk] [zj 0] w_7 ov w' c s
  refine Zr_st (q := (11, [.long x0, zmk, zp a2, .long x0, zmk, zp p_9, zj 0, zmk], [])) rfl rfl rfl ?_
  show Zr sc 103 11 [.long x0, zmk, zp a2, .long x0, zmk, zp p_9, zj 0, zmk] [] w_7 ov w' c s
  exact h
set_option maxRecDepth 100000 in
theorem V103_11 {sc : List Value} {w w' : List zE} {ov : Option Value} {c s : Nat} {z0 : Int64} {a2 : Nat} {z3 : Int64} {a5 : Nat} {x6 : Int} (h : (∃ cn_1 : Nat, ∃ fs_2 : List Value, w[a2]? = some (zob cn_1 fs_2) ∧ (cn_1 = 1 ∨ cn_1 = 2 ∨ cn_1 = 4) ∧ (∃ r_9 : Int, ∃ w_7 : List zE, Zc sc 3 [zp a2] w (some (zj r_9)) w_7 0 0 ∧ ((zrg x6 ∧ zrg r_9) ∧ ((r_9 ≤ x6 → (∃ cn_11 : Nat, ∃ fs_12 : List Value, w_7[a2]? = some (zob cn_11 fs_12) ∧ (cn_11 = 1 ∨ cn_11 = 2 ∨ cn_11 = 4) ∧ (∃ p_19 : Nat, ∃ w_17 : List zE, Zc sc 20 [zp a2] w_7 (some (zp p_19)) w_17 0 0 ∧ (∃ f0_21 : Nat, ∃ f1_22 : Nat, ∃ f2_23 : Int, w_17[p_19]? = some (zob 3 [zp f0_21, zp f1_22, zj f2_23]) ∧ (∃ r_26 : Int, ∃ w_24 : List zE, Zc sc 21 [zp p_19] w_17 (some (zj r_26)) w_24 0 0 ∧ Zr sc 103 93 [.long z0, zmk, zp a2, .long ((z3 * 31) + ((Int32.ofInt r_26).toInt64)), zmk, zp a5, zp p_19, zj 0] [] w_24 ov w' c s))))) ∧ (¬ (r_9 ≤ x6) → (∃ f0_28 : Nat, ∃ f1_29 : Nat, ∃ f2_30 : Nat, ∃ f3_31 : Nat, ∃ f4_32 : Int, ∃ f5_33 : Int, w_7[a5]? = some (zob 0 [zp f0_28, zp f1_29, zp f2_30, zp f3_31, zj f4_32, zj f5_33]) ∧ (∃ r_36 : Int, ∃ w_34 : List zE, Zc sc 9 [zp a5, zj x6] w_7 (some (zj r_36)) w_34 0 0 ∧ (∃ f0_38 : Nat, ∃ f1_39 : Nat, ∃ f2_40 : Nat, ∃ f3_41 : Nat, ∃ f4_42 : Int, ∃ f5_43 : Int, w_34[a5]? = some (zob 0 [zp f0_38, zp f1_39, zp f2_40, zp f3_41, zj f4_42, zj f5_43]) ∧ (∃ r_46 : Int, ∃ w_44 : List zE, Zc sc 11 [zp a5, zj x6] w_34 (some (zj r_46)) w_44 0 0 ∧ (∃ f0_48 : Nat, ∃ f1_49 : Nat, ∃ f2_50 : Nat, ∃ f3_51 : Nat, ∃ f4_52 : Int, ∃ f5_53 : Int, w_44[a5]? = some (zob 0 [zp f0_48, zp f1_49, zp f2_50, zp f3_51, zj f4_52, zj f5_53]) ∧ (∃ r_56 : Int, ∃ w_54 : List zE, Zc sc 13 [zp a5, zj x6] w_44 (some (zj r_56)) w_54 0 0 ∧ Zr sc 103 11 [.long z0, zmk, zp a2, .long ((((((z3 * 31) + ((Int32.ofInt r_36).toInt64)) * 31) + ((Int32.ofInt r_46).toInt64)) * 31) + ((Int32.ofInt r_56).toInt64)), zmk, zp a5, zj (x6 + 1), zmk] [] w_54 ov w' c s)))))))))))) : Zr sc 103 11 [.long z0, zmk, zp a2, .long z3, zmk, zp a5, zj x6, zmk] [] w ov w' c s := by
  refine Zr_st (q := (13, [.long z0, zmk, zp a2, .long z3, zmk, zp a5, zj x6, zmk], [zj x6])) rfl rfl rfl ?_
  show Zr sc 103 13 [.long z0, zmk, zp a2, .long z3, zmk, zp a5, zj x6, zmk] [zj x6] w ov w' c s
  refine Zr_st (q := (14, [.long z0, zmk, zp a2, .long z3, zmk, zp a5, zj x6, zmk], [zp a2, zj x6])) rfl rfl rfl ?_
  show Zr sc 103 14 [.long z0, zmk, zp a2, .long z3, zmk, zp a5, zj x6, zmk] [zp a2, zj x6] w ov w' c s
  obtain ⟨cn_1, fs_2, hw_3, hcn_4, h⟩ := h
  have hz_5 : ∃ kd, zinv 103 (.invokevirtual 87) [zp a2, zj x6] (false, w) = some (kd, 3, [zp a2], [zj x6]) ∧ decide (kd < 6) = true := by rcases hcn_4 with rfl | rfl | rfl <;> exact zinv_u hw_3 rfl rfl rfl rfl rfl rfl rfl
  obtain ⟨kd_6, hz_5⟩ := hz_5
  obtain ⟨r_9, w_7, hk_8, h⟩ := h
  refine rn_cal0 (ins := .invokevirtual 87) (rest := [zj x6]) rfl rfl rfl rfl hz_5.1 rfl hz_5.2 hk_8 ?_
  show Zr sc 103 17 [.long z0, zmk, zp a2, .long z3, zmk, zp a5, zj x6, zmk] [zj r_9, zj x6] w_7 ov w' c s
  obtain ⟨hr_10, h⟩ := h
  refine Zr_br (p := r_9 ≤ x6) rfl rfl (zcmp_j (cnd := .ge) hr_10.1 hr_10.2) (fun hp => ?_) (fun hp => ?_)
  · replace h := h.1 hp
    show Zr sc 103 71 [.long z0, zmk, zp a2, .long z3, zmk, zp a5, zj x6, zmk] [] w_7 ov w' c s
    refine Zr_st (q := (72, [.long z0, zmk, zp a2, .long z3, zmk, zp a5, zj x6, zmk], [zp a2])) rfl rfl rfl ?_
    show Zr sc 103 72 [.long z0, zmk, zp a2, .long z3, zmk, zp a5, zj x6, zmk] [zp a2] w_7 ov w' c s
    obtain ⟨cn_11, fs_12, hw_13, hcn_14, h⟩ := h
    have hz_15 : ∃ kd, zinv 103 (.invokevirtual 158) [zp a2] (false, w_7) = some (kd, 20, [zp a2], []) ∧ decide (kd < 6) = true := by rcases hcn_14 with rfl | rfl | rfl <;> exact zinv_u hw_13 rfl rfl rfl rfl rfl rfl rfl
    obtain ⟨kd_16, hz_15⟩ := hz_15
    obtain ⟨p_19, w_17, hk_18, h⟩ := h
    refine rn_cal0 (ins := .invokevirtual 158) (rest := []) rfl rfl rfl rfl hz_15.1 rfl hz_15.2 hk_18 ?_
    show Zr sc 103 75 [.long z0, zmk, zp a2, .long z3, zmk, zp a5, zj x6, zmk] [zp p_19] w_17 ov w' c s
    refine Zr_st (q := (77, [.long z0, zmk, zp a2, .long z3, zmk, zp a5, zp p_19, zmk], [])) rfl rfl rfl ?_
    show Zr sc 103 77 [.long z0, zmk, zp a2, .long z3, zmk, zp a5, zp p_19, zmk] [] w_17 ov w' c s
    refine Zr_st (q := (78, [.long z0, zmk, zp a2, .long z3, zmk, zp a5, zp p_19, zmk], [.long z3])) rfl rfl rfl ?_
    show Zr sc 103 78 [.long z0, zmk, zp a2, .long z3, zmk, zp a5, zp p_19, zmk] [.long z3] w_17 ov w' c s
    refine rl_lc (z := 31) rfl rfl (by decide) ?_
    show Zr sc 103 81 [.long z0, zmk, zp a2, .long z3, zmk, zp a5, zp p_19, zmk] [.long 31, .long z3] w_17 ov w' c s
    refine rl_lmul rfl ?_
    show Zr sc 103 82 [.long z0, zmk, zp a2, .long z3, zmk, zp a5, zp p_19, zmk] [.long (z3 * 31)] w_17 ov w' c s
    refine Zr_st (q := (84, [.long z0, zmk, zp a2, .long z3, zmk, zp a5, zp p_19, zmk], [zp p_19, .long (z3 * 31)])) rfl rfl rfl ?_
    show Zr sc 103 84 [.long z0, zmk, zp a2, .long z3, zmk, zp a5, zp p_19, zmk] [zp p_19, .long (z3 * 31)] w_17 ov w' c s
    obtain ⟨f0_21, f1_22, f2_23, hw_20, h⟩ := h
    obtain ⟨r_26, w_24, hk_25, h⟩ := h
    refine rn_cal0 (ins := .invokevirtual 162) (rest := [.long (z3 * 31)]) rfl rfl rfl rfl (zinv_v (fs := _) hw_20 rfl rfl rfl rfl) rfl rfl hk_25 ?_
    show Zr sc 103 87 [.long z0, zmk, zp a2, .long z3, zmk, zp a5, zp p_19, zmk] [zj r_26, .long (z3 * 31)] w_24 ov w' c s
    refine rl_i2l rfl ?_
    show Zr sc 103 88 [.long z0, zmk, zp a2, .long z3, zmk, zp a5, zp p_19, zmk] [.long ((Int32.ofInt r_26).toInt64), .long (z3 * 31)] w_24 ov w' c s
    refine rl_ladd rfl ?_
    show Zr sc 103 89 [.long z0, zmk, zp a2, .long z3, zmk, zp a5, zp p_19, zmk] [.long ((z3 * 31) + ((Int32.ofInt r_26).toInt64))] w_24 ov w' c s
    refine Zr_st (q := (90, [.long z0, zmk, zp a2, .long ((z3 * 31) + ((Int32.ofInt r_26).toInt64)), zmk, zp a5, zp p_19, zmk], [])) rfl rfl rfl ?_
    show Zr sc 103 90 [.long z0, zmk, zp a2, .long ((z3 * 31) + ((Int32.ofInt r_26).toInt64)), zmk, zp a5, zp p_19, zmk] [] w_24 ov w' c s
    refine rl_ic rfl ?_
    show Zr sc 103 91 [.long z0, zmk, zp a2, .long ((z3 * 31) + ((Int32.ofInt r_26).toInt64)), zmk, zp a5, zp p_19, zmk] [zj 0] w_24 ov w' c s
    refine Zr_st (q := (93, [.long z0, zmk, zp a2, .long ((z3 * 31) + ((Int32.ofInt r_26).toInt64)), zmk, zp a5, zp p_19, zj 0], [])) rfl rfl rfl ?_
    show Zr sc 103 93 [.long z0, zmk, zp a2, .long ((z3 * 31) + ((Int32.ofInt r_26).toInt64)), zmk, zp a5, zp p_19, zj 0] [] w_24 ov w' c s
    exact h
  · replace h := h.2 hp
    show Zr sc 103 20 [.long z0, zmk, zp a2, .long z3, zmk, zp a5, zj x6, zmk] [] w_7 ov w' c s
    refine Zr_st (q := (21, [.long z0, zmk, zp a2, .long z3, zmk, zp a5, zj x6, zmk], [.long z3])) rfl rfl rfl ?_
    show Zr sc 103 21 [.long z0, zmk, zp a2, .long z3, zmk, zp a5, zj x6, zmk] [.long z3] w_7 ov w' c s
    refine rl_lc (z := 31) rfl rfl (by decide) ?_
    show Zr sc 103 24 [.long z0, zmk, zp a2, .long z3, zmk, zp a5, zj x6, zmk] [.long 31, .long z3] w_7 ov w' c s
    refine rl_lmul rfl ?_
    show Zr sc 103 25 [.long z0, zmk, zp a2, .long z3, zmk, zp a5, zj x6, zmk] [.long (z3 * 31)] w_7 ov w' c s
    refine Zr_st (q := (27, [.long z0, zmk, zp a2, .long z3, zmk, zp a5, zj x6, zmk], [zp a5, .long (z3 * 31)])) rfl rfl rfl ?_
    show Zr sc 103 27 [.long z0, zmk, zp a2, .long z3, zmk, zp a5, zj x6, zmk] [zp a5, .long (z3 * 31)] w_7 ov w' c s
    refine Zr_st (q := (29, [.long z0, zmk, zp a2, .long z3, zmk, zp a5, zj x6, zmk], [zj x6, zp a5, .long (z3 * 31)])) rfl rfl rfl ?_
    show Zr sc 103 29 [.long z0, zmk, zp a2, .long z3, zmk, zp a5, zj x6, zmk] [zj x6, zp a5, .long (z3 * 31)] w_7 ov w' c s
    obtain ⟨f0_28, f1_29, f2_30, f3_31, f4_32, f5_33, hw_27, h⟩ := h
    obtain ⟨r_36, w_34, hk_35, h⟩ := h
    refine rn_cal0 (ins := .invokevirtual 123) (rest := [.long (z3 * 31)]) rfl rfl rfl rfl (zinv_v (fs := _) hw_27 rfl rfl rfl rfl) rfl rfl hk_35 ?_
    show Zr sc 103 32 [.long z0, zmk, zp a2, .long z3, zmk, zp a5, zj x6, zmk] [zj r_36, .long (z3 * 31)] w_34 ov w' c s
    refine rl_i2l rfl ?_
    show Zr sc 103 33 [.long z0, zmk, zp a2, .long z3, zmk, zp a5, zj x6, zmk] [.long ((Int32.ofInt r_36).toInt64), .long (z3 * 31)] w_34 ov w' c s
    refine rl_ladd rfl ?_
    show Zr sc 103 34 [.long z0, zmk, zp a2, .long z3, zmk, zp a5, zj x6, zmk] [.long ((z3 * 31) + ((Int32.ofInt r_36).toInt64))] w_34 ov w' c s
    refine Zr_st (q := (35, [.long z0, zmk, zp a2, .long ((z3 * 31) + ((Int32.ofInt r_36).toInt64)), zmk, zp a5, zj x6, zmk], [])) rfl rfl rfl ?_
    show Zr sc 103 35 [.long z0, zmk, zp a2, .long ((z3 * 31) + ((Int32.ofInt r_36).toInt64)), zmk, zp a5, zj x6, zmk] [] w_34 ov w' c s
    refine Zr_st (q := (36, [.long z0, zmk, zp a2, .long ((z3 * 31) + ((Int32.ofInt r_36).toInt64)), zmk, zp a5, zj x6, zmk], [.long ((z3 * 31) + ((Int32.ofInt r_36).toInt64))])) rfl rfl rfl ?_
    show Zr sc 103 36 [.long z0, zmk, zp a2, .long ((z3 * 31) + ((Int32.ofInt r_36).toInt64)), zmk, zp a5, zj x6, zmk] [.long ((z3 * 31) + ((Int32.ofInt r_36).toInt64))] w_34 ov w' c s
    refine rl_lc (z := 31) rfl rfl (by decide) ?_
    show Zr sc 103 39 [.long z0, zmk, zp a2, .long ((z3 * 31) + ((Int32.ofInt r_36).toInt64)), zmk, zp a5, zj x6, zmk] [.long 31, .long ((z3 * 31) + ((Int32.ofInt r_36).toInt64))] w_34 ov w' c s
    refine rl_lmul rfl ?_
    show Zr sc 103 40 [.long z0, zmk, zp a2, .long ((z3 * 31) + ((Int32.ofInt r_36).toInt64)), zmk, zp a5, zj x6, zmk] [.long (((z3 * 31) + ((Int32.ofInt r_36).toInt64)) * 31)] w_34 ov w' c s
    refine Zr_st (q := (42, [.long z0, zmk, zp a2, .long ((z3 * 31) + ((Int32.ofInt r_36).toInt64)), zmk, zp a5, zj x6, zmk], [zp a5, .long (((z3 * 31) + ((Int32.ofInt r_36).toInt64)) * 31)])) rfl rfl rfl ?_
    show Zr sc 103 42 [.long z0, zmk, zp a2, .long ((z3 * 31) + ((Int32.ofInt r_36).toInt64)), zmk, zp a5, zj x6, zmk] [zp a5, .long (((z3 * 31) + ((Int32.ofInt r_36).toInt64)) * 31)] w_34 ov w' c s
    refine Zr_st (q := (44, [.long z0, zmk, zp a2, .long ((z3 * 31) + ((Int32.ofInt r_36).toInt64)), zmk, zp a5, zj x6, zmk], [zj x6, zp a5, .long (((z3 * 31) + ((Int32.ofInt r_36).toInt64)) * 31)])) rfl rfl rfl ?_
    show Zr sc 103 44 [.long z0, zmk, zp a2, .long ((z3 * 31) + ((Int32.ofInt r_36).toInt64)), zmk, zp a5, zj x6, zmk] [zj x6, zp a5, .long (((z3 * 31) + ((Int32.ofInt r_36).toInt64)) * 31)] w_34 ov w' c s
    obtain ⟨f0_38, f1_39, f2_40, f3_41, f4_42, f5_43, hw_37, h⟩ := h
    obtain ⟨r_46, w_44, hk_45, h⟩ := h
    refine rn_cal0 (ins := .invokevirtual 147) (rest := [.long (((z3 * 31) + ((Int32.ofInt r_36).toInt64)) * 31)]) rfl rfl rfl rfl (zinv_v (fs := _) hw_37 rfl rfl rfl rfl) rfl rfl hk_45 ?_
    show Zr sc 103 47 [.long z0, zmk, zp a2, .long ((z3 * 31) + ((Int32.ofInt r_36).toInt64)), zmk, zp a5, zj x6, zmk] [zj r_46, .long (((z3 * 31) + ((Int32.ofInt r_36).toInt64)) * 31)] w_44 ov w' c s
    refine rl_i2l rfl ?_
    show Zr sc 103 48 [.long z0, zmk, zp a2, .long ((z3 * 31) + ((Int32.ofInt r_36).toInt64)), zmk, zp a5, zj x6, zmk] [.long ((Int32.ofInt r_46).toInt64), .long (((z3 * 31) + ((Int32.ofInt r_36).toInt64)) * 31)] w_44 ov w' c s
    refine rl_ladd rfl ?_
    show Zr sc 103 49 [.long z0, zmk, zp a2, .long ((z3 * 31) + ((Int32.ofInt r_36).toInt64)), zmk, zp a5, zj x6, zmk] [.long ((((z3 * 31) + ((Int32.ofInt r_36).toInt64)) * 31) + ((Int32.ofInt r_46).toInt64))] w_44 ov w' c s
    refine Zr_st (q := (50, [.long z0, zmk, zp a2, .long ((((z3 * 31) + ((Int32.ofInt r_36).toInt64)) * 31) + ((Int32.ofInt r_46).toInt64)), zmk, zp a5, zj x6, zmk], [])) rfl rfl rfl ?_
    show Zr sc 103 50 [.long z0, zmk, zp a2, .long ((((z3 * 31) + ((Int32.ofInt r_36).toInt64)) * 31) + ((Int32.ofInt r_46).toInt64)), zmk, zp a5, zj x6, zmk] [] w_44 ov w' c s
    refine Zr_st (q := (51, [.long z0, zmk, zp a2, .long ((((z3 * 31) + ((Int32.ofInt r_36).toInt64)) * 31) + ((Int32.ofInt r_46).toInt64)), zmk, zp a5, zj x6, zmk], [.long ((((z3 * 31) + ((Int32.ofInt r_36).toInt64)) * 31) + ((Int32.ofInt r_46).toInt64))])) rfl rfl rfl ?_
    show Zr sc 103 51 [.long z0, zmk, zp a2, .long ((((z3 * 31) + ((Int32.ofInt r_36).toInt64)) * 31) + ((Int32.ofInt r_46).toInt64)), zmk, zp a5, zj x6, zmk] [.long ((((z3 * 31) + ((Int32.ofInt r_36).toInt64)) * 31) + ((Int32.ofInt r_46).toInt64))] w_44 ov w' c s
    refine rl_lc (z := 31) rfl rfl (by decide) ?_
    show Zr sc 103 54 [.long z0, zmk, zp a2, .long ((((z3 * 31) + ((Int32.ofInt r_36).toInt64)) * 31) + ((Int32.ofInt r_46).toInt64)), zmk, zp a5, zj x6, zmk] [.long 31, .long ((((z3 * 31) + ((Int32.ofInt r_36).toInt64)) * 31) + ((Int32.ofInt r_46).toInt64))] w_44 ov w' c s
    refine rl_lmul rfl ?_
    show Zr sc 103 55 [.long z0, zmk, zp a2, .long ((((z3 * 31) + ((Int32.ofInt r_36).toInt64)) * 31) + ((Int32.ofInt r_46).toInt64)), zmk, zp a5, zj x6, zmk] [.long (((((z3 * 31) + ((Int32.ofInt r_36).toInt64)) * 31) + ((Int32.ofInt r_46).toInt64)) * 31)] w_44 ov w' c s
    refine Zr_st (q := (57, [.long z0, zmk, zp a2, .long ((((z3 * 31) + ((Int32.ofInt r_36).toInt64)) * 31) + ((Int32.ofInt r_46).toInt64)), zmk, zp a5, zj x6, zmk], [zp a5, .long (((((z3 * 31) + ((Int32.ofInt r_36).toInt64)) * 31) + ((Int32.ofInt r_46).toInt64)) * 31)])) rfl rfl rfl ?_
    show Zr sc 103 57 [.long z0, zmk, zp a2, .long ((((z3 * 31) + ((Int32.ofInt r_36).toInt64)) * 31) + ((Int32.ofInt r_46).toInt64)), zmk, zp a5, zj x6, zmk] [zp a5, .long (((((z3 * 31) + ((Int32.ofInt r_36).toInt64)) * 31) + ((Int32.ofInt r_46).toInt64)) * 31)] w_44 ov w' c s
    refine Zr_st (q := (59, [.long z0, zmk, zp a2, .long ((((z3 * 31) + ((Int32.ofInt r_36).toInt64)) * 31) + ((Int32.ofInt r_46).toInt64)), zmk, zp a5, zj x6, zmk], [zj x6, zp a5, .long (((((z3 * 31) + ((Int32.ofInt r_36).toInt64)) * 31) + ((Int32.ofInt r_46).toInt64)) * 31)])) rfl rfl rfl ?_
    show Zr sc 103 59 [.long z0, zmk, zp a2, .long ((((z3 * 31) + ((Int32.ofInt r_36).toInt64)) * 31) + ((Int32.ofInt r_46).toInt64)), zmk, zp a5, zj x6, zmk] [zj x6, zp a5, .long (((((z3 * 31) + ((Int32.ofInt r_36).toInt64)) * 31) + ((Int32.ofInt r_46).toInt64)) * 31)] w_44 ov w' c s
    obtain ⟨f0_48, f1_49, f2_50, f3_51, f4_52, f5_53, hw_47, h⟩ := h
    obtain ⟨r_56, w_54, hk_55, h⟩ := h
    refine rn_cal0 (ins := .invokevirtual 117) (rest := [.long (((((z3 * 31) + ((Int32.ofInt r_36).toInt64)) * 31) + ((Int32.ofInt r_46).toInt64)) * 31)]) rfl rfl rfl rfl (zinv_v (fs := _) hw_47 rfl rfl rfl rfl) rfl rfl hk_55 ?_
    show Zr sc 103 62 [.long z0, zmk, zp a2, .long ((((z3 * 31) + ((Int32.ofInt r_36).toInt64)) * 31) + ((Int32.ofInt r_46).toInt64)), zmk, zp a5, zj x6, zmk] [zj r_56, .long (((((z3 * 31) + ((Int32.ofInt r_36).toInt64)) * 31) + ((Int32.ofInt r_46).toInt64)) * 31)] w_54 ov w' c s
    refine rl_i2l rfl ?_
    show Zr sc 103 63 [.long z0, zmk, zp a2, .long ((((z3 * 31) + ((Int32.ofInt r_36).toInt64)) * 31) + ((Int32.ofInt r_46).toInt64)), zmk, zp a5, zj x6, zmk] [.long ((Int32.ofInt r_56).toInt64), .long (((((z3 * 31) + ((Int32.ofInt r_36).toInt64)) * 31) + ((Int32.ofInt r_46).toInt64)) * 31)] w_54 ov w' c s
    refine rl_ladd rfl ?_
    show Zr sc 103 64 [.long z0, zmk, zp a2, .long ((((z3 * 31) + ((Int32.ofInt r_36).toInt64)) * 31) + ((Int32.ofInt r_46).toInt64)), zmk, zp a5, zj x6, zmk] [.long ((((((z3 * 31) + ((Int32.ofInt r_36).toInt64)) * 31) + ((Int32.ofInt r_46).toInt64)) * 31) + ((Int32.ofInt r_56).toInt64))] w_54 ov w' c s
    refine Zr_st (q := (65, [.long z0, zmk, zp a2, .long ((((((z3 * 31) + ((Int32.ofInt r_36).toInt64)) * 31) + ((Int32.ofInt r_46).toInt64)) * 31) + ((Int32.ofInt r_56).toInt64)), zmk, zp a5, zj x6, zmk], [])) rfl rfl rfl ?_
    show Zr sc 103 65 [.long z0, zmk, zp a2, .long ((((((z3 * 31) + ((Int32.ofInt r_36).toInt64)) * 31) + ((Int32.ofInt r_46).toInt64)) * 31) + ((Int32.ofInt r_56).toInt64)), zmk, zp a5, zj x6, zmk] [] w_54 ov w' c s
    refine rl_inc rfl rfl rfl rfl ?_
    show Zr sc 103 68 [.long z0, zmk, zp a2, .long ((((((z3 * 31) + ((Int32.ofInt r_36).toInt64)) * 31) + ((Int32.ofInt r_46).toInt64)) * 31) + ((Int32.ofInt r_56).toInt64)), zmk, zp a5, zj (x6 + 1), zmk] [] w_54 ov w' c s
    refine Zr_st (q := (11, [.long z0, zmk, zp a2, .long ((((((z3 * 31) + ((Int32.ofInt r_36).toInt64)) * 31) + ((Int32.ofInt r_46).toInt64)) * 31) + ((Int32.ofInt r_56).toInt64)), zmk, zp a5, zj (x6 + 1), zmk], [])) rfl rfl rfl ?_
    show Zr sc 103 11 [.long z0, zmk, zp a2, .long ((((((z3 * 31) + ((Int32.ofInt r_36).toInt64)) * 31) + ((Int32.ofInt r_46).toInt64)) * 31) + ((Int32.ofInt r_56).toInt64)), zmk, zp a5, zj (x6 + 1), zmk] [] w_54 ov w' c s
    exact h
set_option maxRecDepth 100000 in
theorem V103_93 {sc : List Value} {w w' : List zE} {ov : Option Value} {c s : Nat} {z0 : Int64} {a2 : Nat} {z3 : Int64} {a5 : Nat} {a6 : Nat} {x7 : Int} (h : (∃ f0_2 : Nat, ∃ f1_3 : Nat, ∃ f2_4 : Int, w[a6]? = some (zob 3 [zp f0_2, zp f1_3, zj f2_4]) ∧ (∃ r_7 : Int, ∃ w_5 : List zE, Zc sc 21 [zp a6] w (some (zj r_7)) w_5 0 0 ∧ ((zrg x7 ∧ zrg r_7) ∧ ((r_7 ≤ x7 → Zr sc 103 142 [.long z0, zmk, zp a2, .long z3, zmk, zp a5, zp a6, zj 0] [] w_5 ov w' c s) ∧ (¬ (r_7 ≤ x7) → (∃ f0_10 : Nat, ∃ f1_11 : Nat, ∃ f2_12 : Int, w_5[a6]? = some (zob 3 [zp f0_10, zp f1_11, zj f2_12]) ∧ (∃ r_15 : Int, ∃ w_13 : List zE, Zc sc 24 [zp a6, zj x7] w_5 (some (zj r_15)) w_13 0 0 ∧ (∃ f0_17 : Nat, ∃ f1_18 : Nat, ∃ f2_19 : Int, w_13[a6]? = some (zob 3 [zp f0_17, zp f1_18, zj f2_19]) ∧ (∃ r_22 : Int, ∃ w_20 : List zE, Zc sc 26 [zp a6, zj x7] w_13 (some (zj r_22)) w_20 0 0 ∧ Zr sc 103 93 [.long z0, zmk, zp a2, .long ((((z3 * 31) + ((Int32.ofInt r_15).toInt64)) * 31) + ((Int32.ofInt r_22).toInt64)), zmk, zp a5, zp a6, zj (x7 + 1)] [] w_20 ov w' c s)))))))))) : Zr sc 103 93 [.long z0, zmk, zp a2, .long z3, zmk, zp a5, zp a6, zj x7] [] w ov w' c s := by
  refine Zr_st (q := (95, [.long z0, zmk, zp a2, .long z3, zmk, zp a5, zp a6, zj x7], [zj x7])) rfl rfl rfl ?_
  show Zr sc 103 95 [.long z0, zmk, zp a2, .long z3, zmk, zp a5, zp a6, zj x7] [zj x7] w ov w' c s
  refine Zr_st (q := (97, [.long z0, zmk, zp a2, .long z3, zmk, zp a5, zp a6, zj x7], [zp a6, zj x7])) rfl rfl rfl ?_
  show Zr sc 103 97 [.long z0, zmk, zp a2, .long z3, zmk, zp a5, zp a6, zj x7] [zp a6, zj x7] w ov w' c s
  obtain ⟨f0_2, f1_3, f2_4, hw_1, h⟩ := h
  obtain ⟨r_7, w_5, hk_6, h⟩ := h
  refine rn_cal0 (ins := .invokevirtual 162) (rest := [zj x7]) rfl rfl rfl rfl (zinv_v (fs := _) hw_1 rfl rfl rfl rfl) rfl rfl hk_6 ?_
  show Zr sc 103 100 [.long z0, zmk, zp a2, .long z3, zmk, zp a5, zp a6, zj x7] [zj r_7, zj x7] w_5 ov w' c s
  obtain ⟨hr_8, h⟩ := h
  refine Zr_br (p := r_7 ≤ x7) rfl rfl (zcmp_j (cnd := .ge) hr_8.1 hr_8.2) (fun hp => ?_) (fun hp => ?_)
  · replace h := h.1 hp
    show Zr sc 103 139 [.long z0, zmk, zp a2, .long z3, zmk, zp a5, zp a6, zj x7] [] w_5 ov w' c s
    refine rl_ic rfl ?_
    show Zr sc 103 140 [.long z0, zmk, zp a2, .long z3, zmk, zp a5, zp a6, zj x7] [zj 0] w_5 ov w' c s
    refine Zr_st (q := (142, [.long z0, zmk, zp a2, .long z3, zmk, zp a5, zp a6, zj 0], [])) rfl rfl rfl ?_
    show Zr sc 103 142 [.long z0, zmk, zp a2, .long z3, zmk, zp a5, zp a6, zj 0] [] w_5 ov w' c s
    exact h
  · replace h := h.2 hp
    show Zr sc 103 103 [.long z0, zmk, zp a2, .long z3, zmk, zp a5, zp a6, zj x7] [] w_5 ov w' c s
    refine Zr_st (q := (104, [.long z0, zmk, zp a2, .long z3, zmk, zp a5, zp a6, zj x7], [.long z3])) rfl rfl rfl ?_
    show Zr sc 103 104 [.long z0, zmk, zp a2, .long z3, zmk, zp a5, zp a6, zj x7] [.long z3] w_5 ov w' c s
    refine rl_lc (z := 31) rfl rfl (by decide) ?_
    show Zr sc 103 107 [.long z0, zmk, zp a2, .long z3, zmk, zp a5, zp a6, zj x7] [.long 31, .long z3] w_5 ov w' c s
    refine rl_lmul rfl ?_
    show Zr sc 103 108 [.long z0, zmk, zp a2, .long z3, zmk, zp a5, zp a6, zj x7] [.long (z3 * 31)] w_5 ov w' c s
    refine Zr_st (q := (110, [.long z0, zmk, zp a2, .long z3, zmk, zp a5, zp a6, zj x7], [zp a6, .long (z3 * 31)])) rfl rfl rfl ?_
    show Zr sc 103 110 [.long z0, zmk, zp a2, .long z3, zmk, zp a5, zp a6, zj x7] [zp a6, .long (z3 * 31)] w_5 ov w' c s
    refine Zr_st (q := (112, [.long z0, zmk, zp a2, .long z3, zmk, zp a5, zp a6, zj x7], [zj x7, zp a6, .long (z3 * 31)])) rfl rfl rfl ?_
    show Zr sc 103 112 [.long z0, zmk, zp a2, .long z3, zmk, zp a5, zp a6, zj x7] [zj x7, zp a6, .long (z3 * 31)] w_5 ov w' c s
    obtain ⟨f0_10, f1_11, f2_12, hw_9, h⟩ := h
    obtain ⟨r_15, w_13, hk_14, h⟩ := h
    refine rn_cal0 (ins := .invokevirtual 168) (rest := [.long (z3 * 31)]) rfl rfl rfl rfl (zinv_v (fs := _) hw_9 rfl rfl rfl rfl) rfl rfl hk_14 ?_
    show Zr sc 103 115 [.long z0, zmk, zp a2, .long z3, zmk, zp a5, zp a6, zj x7] [zj r_15, .long (z3 * 31)] w_13 ov w' c s
    refine rl_i2l rfl ?_
    show Zr sc 103 116 [.long z0, zmk, zp a2, .long z3, zmk, zp a5, zp a6, zj x7] [.long ((Int32.ofInt r_15).toInt64), .long (z3 * 31)] w_13 ov w' c s
    refine rl_ladd rfl ?_
    show Zr sc 103 117 [.long z0, zmk, zp a2, .long z3, zmk, zp a5, zp a6, zj x7] [.long ((z3 * 31) + ((Int32.ofInt r_15).toInt64))] w_13 ov w' c s
    refine Zr_st (q := (118, [.long z0, zmk, zp a2, .long ((z3 * 31) + ((Int32.ofInt r_15).toInt64)), zmk, zp a5, zp a6, zj x7], [])) rfl rfl rfl ?_
    show Zr sc 103 118 [.long z0, zmk, zp a2, .long ((z3 * 31) + ((Int32.ofInt r_15).toInt64)), zmk, zp a5, zp a6, zj x7] [] w_13 ov w' c s
    refine Zr_st (q := (119, [.long z0, zmk, zp a2, .long ((z3 * 31) + ((Int32.ofInt r_15).toInt64)), zmk, zp a5, zp a6, zj x7], [.long ((z3 * 31) + ((Int32.ofInt r_15).toInt64))])) rfl rfl rfl ?_
    show Zr sc 103 119 [.long z0, zmk, zp a2, .long ((z3 * 31) + ((Int32.ofInt r_15).toInt64)), zmk, zp a5, zp a6, zj x7] [.long ((z3 * 31) + ((Int32.ofInt r_15).toInt64))] w_13 ov w' c s
    refine rl_lc (z := 31) rfl rfl (by decide) ?_
    show Zr sc 103 122 [.long z0, zmk, zp a2, .long ((z3 * 31) + ((Int32.ofInt r_15).toInt64)), zmk, zp a5, zp a6, zj x7] [.long 31, .long ((z3 * 31) + ((Int32.ofInt r_15).toInt64))] w_13 ov w' c s
    refine rl_lmul rfl ?_
    show Zr sc 103 123 [.long z0, zmk, zp a2, .long ((z3 * 31) + ((Int32.ofInt r_15).toInt64)), zmk, zp a5, zp a6, zj x7] [.long (((z3 * 31) + ((Int32.ofInt r_15).toInt64)) * 31)] w_13 ov w' c s
    refine Zr_st (q := (125, [.long z0, zmk, zp a2, .long ((z3 * 31) + ((Int32.ofInt r_15).toInt64)), zmk, zp a5, zp a6, zj x7], [zp a6, .long (((z3 * 31) + ((Int32.ofInt r_15).toInt64)) * 31)])) rfl rfl rfl ?_
    show Zr sc 103 125 [.long z0, zmk, zp a2, .long ((z3 * 31) + ((Int32.ofInt r_15).toInt64)), zmk, zp a5, zp a6, zj x7] [zp a6, .long (((z3 * 31) + ((Int32.ofInt r_15).toInt64)) * 31)] w_13 ov w' c s
    refine Zr_st (q := (127, [.long z0, zmk, zp a2, .long ((z3 * 31) + ((Int32.ofInt r_15).toInt64)), zmk, zp a5, zp a6, zj x7], [zj x7, zp a6, .long (((z3 * 31) + ((Int32.ofInt r_15).toInt64)) * 31)])) rfl rfl rfl ?_
    show Zr sc 103 127 [.long z0, zmk, zp a2, .long ((z3 * 31) + ((Int32.ofInt r_15).toInt64)), zmk, zp a5, zp a6, zj x7] [zj x7, zp a6, .long (((z3 * 31) + ((Int32.ofInt r_15).toInt64)) * 31)] w_13 ov w' c s
    obtain ⟨f0_17, f1_18, f2_19, hw_16, h⟩ := h
    obtain ⟨r_22, w_20, hk_21, h⟩ := h
    refine rn_cal0 (ins := .invokevirtual 169) (rest := [.long (((z3 * 31) + ((Int32.ofInt r_15).toInt64)) * 31)]) rfl rfl rfl rfl (zinv_v (fs := _) hw_16 rfl rfl rfl rfl) rfl rfl hk_21 ?_
    show Zr sc 103 130 [.long z0, zmk, zp a2, .long ((z3 * 31) + ((Int32.ofInt r_15).toInt64)), zmk, zp a5, zp a6, zj x7] [zj r_22, .long (((z3 * 31) + ((Int32.ofInt r_15).toInt64)) * 31)] w_20 ov w' c s
    refine rl_i2l rfl ?_
    show Zr sc 103 131 [.long z0, zmk, zp a2, .long ((z3 * 31) + ((Int32.ofInt r_15).toInt64)), zmk, zp a5, zp a6, zj x7] [.long ((Int32.ofInt r_22).toInt64), .long (((z3 * 31) + ((Int32.ofInt r_15).toInt64)) * 31)] w_20 ov w' c s
    refine rl_ladd rfl ?_
    show Zr sc 103 132 [.long z0, zmk, zp a2, .long ((z3 * 31) + ((Int32.ofInt r_15).toInt64)), zmk, zp a5, zp a6, zj x7] [.long ((((z3 * 31) + ((Int32.ofInt r_15).toInt64)) * 31) + ((Int32.ofInt r_22).toInt64))] w_20 ov w' c s
    refine Zr_st (q := (133, [.long z0, zmk, zp a2, .long ((((z3 * 31) + ((Int32.ofInt r_15).toInt64)) * 31) + ((Int32.ofInt r_22).toInt64)), zmk, zp a5, zp a6, zj x7], [])) rfl rfl rfl ?_
    show Zr sc 103 133 [.long z0, zmk, zp a2, .long ((((z3 * 31) + ((Int32.ofInt r_15).toInt64)) * 31) + ((Int32.ofInt r_22).toInt64)), zmk, zp a5, zp a6, zj x7] [] w_20 ov w' c s
    refine rl_inc rfl rfl rfl rfl ?_
    show Zr sc 103 136 [.long z0, zmk, zp a2, .long ((((z3 * 31) + ((Int32.ofInt r_15).toInt64)) * 31) + ((Int32.ofInt r_22).toInt64)), zmk, zp a5, zp a6, zj (x7 + 1)] [] w_20 ov w' c s
    refine Zr_st (q := (93, [.long z0, zmk, zp a2, .long ((((z3 * 31) + ((Int32.ofInt r_15).toInt64)) * 31) + ((Int32.ofInt r_22).toInt64)), zmk, zp a5, zp a6, zj (x7 + 1)], [])) rfl rfl rfl ?_
    show Zr sc 103 93 [.long z0, zmk, zp a2, .long ((((z3 * 31) + ((Int32.ofInt r_15).toInt64)) * 31) + ((Int32.ofInt r_22).toInt64)), zmk, zp a5, zp a6, zj (x7 + 1)] [] w_20 ov w' c s
    exact h
set_option maxRecDepth 100000 in
theorem V103_142 {sc : List Value} {w w' : List zE} {ov : Option Value} {c s : Nat} {z0 : Int64} {a2 : Nat} {z3 : Int64} {a5 : Nat} {a6 : Nat} {x7 : Int} (h : ((zrg x7 ∧ zrg 8) ∧ ((8 ≤ x7 → (ov = some (.long z3) ∧ w' = w ∧ c = 0 ∧ s = 0)) ∧ (¬ (8 ≤ x7) → (∃ cn_2 : Nat, ∃ fs_3 : List Value, ∃ j_7 : Nat, w[a2]? = some (zob cn_2 fs_3) ∧ ((cn_2 = 1 ∧ j_7 = 104) ∨ (cn_2 = 2 ∧ j_7 = 104) ∨ (cn_2 = 4 ∧ j_7 = 80)) ∧ (∃ r_11 : Int, ∃ w_9 : List zE, Zc sc j_7 [zp a2, zj x7] w (some (zj r_11)) w_9 0 0 ∧ Zr sc 103 142 [.long z0, zmk, zp a2, .long ((z3 * 31) + ((Int32.ofInt r_11).toInt64)), zmk, zp a5, zp a6, zj (x7 + 1)] [] w_9 ov w' c s)))))) : Zr sc 103 142 [.long z0, zmk, zp a2, .long z3, zmk, zp a5, zp a6, zj x7] [] w ov w' c s := by
  refine Zr_st (q := (144, [.long z0, zmk, zp a2, .long z3, zmk, zp a5, zp a6, zj x7], [zj x7])) rfl rfl rfl ?_
  show Zr sc 103 144 [.long z0, zmk, zp a2, .long z3, zmk, zp a5, zp a6, zj x7] [zj x7] w ov w' c s
  refine rl_bi rfl (by decide) ?_
  show Zr sc 103 146 [.long z0, zmk, zp a2, .long z3, zmk, zp a5, zp a6, zj x7] [zj 8, zj x7] w ov w' c s
  obtain ⟨hr_1, h⟩ := h
  refine Zr_br (p := 8 ≤ x7) rfl rfl (zcmp_j (cnd := .ge) hr_1.1 hr_1.2) (fun hp => ?_) (fun hp => ?_)
  · replace h := h.1 hp
    show Zr sc 103 169 [.long z0, zmk, zp a2, .long z3, zmk, zp a5, zp a6, zj x7] [] w ov w' c s
    refine Zr_st (q := (170, [.long z0, zmk, zp a2, .long z3, zmk, zp a5, zp a6, zj x7], [.long z3])) rfl rfl rfl ?_
    show Zr sc 103 170 [.long z0, zmk, zp a2, .long z3, zmk, zp a5, zp a6, zj x7] [.long z3] w ov w' c s
    obtain ⟨h1, h2, h3, h4⟩ := h
    subst h1; subst h2; subst h3; subst h4
    exact Zr_ret (ins := .lreturn) rfl rfl
  · replace h := h.2 hp
    show Zr sc 103 149 [.long z0, zmk, zp a2, .long z3, zmk, zp a5, zp a6, zj x7] [] w ov w' c s
    refine Zr_st (q := (150, [.long z0, zmk, zp a2, .long z3, zmk, zp a5, zp a6, zj x7], [.long z3])) rfl rfl rfl ?_
    show Zr sc 103 150 [.long z0, zmk, zp a2, .long z3, zmk, zp a5, zp a6, zj x7] [.long z3] w ov w' c s
    refine rl_lc (z := 31) rfl rfl (by decide) ?_
    show Zr sc 103 153 [.long z0, zmk, zp a2, .long z3, zmk, zp a5, zp a6, zj x7] [.long 31, .long z3] w ov w' c s
    refine rl_lmul rfl ?_
    show Zr sc 103 154 [.long z0, zmk, zp a2, .long z3, zmk, zp a5, zp a6, zj x7] [.long (z3 * 31)] w ov w' c s
    refine Zr_st (q := (155, [.long z0, zmk, zp a2, .long z3, zmk, zp a5, zp a6, zj x7], [zp a2, .long (z3 * 31)])) rfl rfl rfl ?_
    show Zr sc 103 155 [.long z0, zmk, zp a2, .long z3, zmk, zp a5, zp a6, zj x7] [zp a2, .long (z3 * 31)] w ov w' c s
    refine Zr_st (q := (157, [.long z0, zmk, zp a2, .long z3, zmk, zp a5, zp a6, zj x7], [zj x7, zp a2, .long (z3 * 31)])) rfl rfl rfl ?_
    show Zr sc 103 157 [.long z0, zmk, zp a2, .long z3, zmk, zp a5, zp a6, zj x7] [zj x7, zp a2, .long (z3 * 31)] w ov w' c s
    obtain ⟨cn_2, fs_3, j_7, hw_4, hcn_5, h⟩ := h
    have hz_6 : ∃ kd, zinv 103 (.invokevirtual 172) [zj x7, zp a2, .long (z3 * 31)] (false, w) = some (kd, j_7, [zp a2, zj x7], [.long (z3 * 31)]) ∧ decide (kd < 6) = true := by rcases hcn_5 with ⟨rfl, rfl⟩ | ⟨rfl, rfl⟩ | ⟨rfl, rfl⟩ <;> exact zinv_u hw_4 rfl rfl rfl rfl rfl rfl rfl
    obtain ⟨kd_8, hz_6⟩ := hz_6
    obtain ⟨r_11, w_9, hk_10, h⟩ := h
    refine rn_cal0 (ins := .invokevirtual 172) (rest := [.long (z3 * 31)]) rfl rfl rfl rfl hz_6.1 rfl hz_6.2 hk_10 ?_
    show Zr sc 103 160 [.long z0, zmk, zp a2, .long z3, zmk, zp a5, zp a6, zj x7] [zj r_11, .long (z3 * 31)] w_9 ov w' c s
    refine rl_i2l rfl ?_
    show Zr sc 103 161 [.long z0, zmk, zp a2, .long z3, zmk, zp a5, zp a6, zj x7] [.long ((Int32.ofInt r_11).toInt64), .long (z3 * 31)] w_9 ov w' c s
    refine rl_ladd rfl ?_
    show Zr sc 103 162 [.long z0, zmk, zp a2, .long z3, zmk, zp a5, zp a6, zj x7] [.long ((z3 * 31) + ((Int32.ofInt r_11).toInt64))] w_9 ov w' c s
    refine Zr_st (q := (163, [.long z0, zmk, zp a2, .long ((z3 * 31) + ((Int32.ofInt r_11).toInt64)), zmk, zp a5, zp a6, zj x7], [])) rfl rfl rfl ?_
    show Zr sc 103 163 [.long z0, zmk, zp a2, .long ((z3 * 31) + ((Int32.ofInt r_11).toInt64)), zmk, zp a5, zp a6, zj x7] [] w_9 ov w' c s
    refine rl_inc rfl rfl rfl rfl ?_
    show Zr sc 103 166 [.long z0, zmk, zp a2, .long ((z3 * 31) + ((Int32.ofInt r_11).toInt64)), zmk, zp a5, zp a6, zj (x7 + 1)] [] w_9 ov w' c s
    refine Zr_st (q := (142, [.long z0, zmk, zp a2, .long ((z3 * 31) + ((Int32.ofInt r_11).toInt64)), zmk, zp a5, zp a6, zj (x7 + 1)], [])) rfl rfl rfl ?_
    show Zr sc 103 142 [.long z0, zmk, zp a2, .long ((z3 * 31) + ((Int32.ofInt r_11).toInt64)), zmk, zp a5, zp a6, zj (x7 + 1)] [] w_9 ov w' c s
    exact h

-- HeapwrightLab$Memory.classOf(I)I
set_option maxRecDepth 100000 in
theorem V104_0_1 {sc : List Value} {w w' : List zE} {ov : Option Value} {c s : Nat} {a0 : Nat} {x1 : Int} (h : (ov = some (zj (-1)) ∧ w' = w ∧ c = 0 ∧ s = 0)) : Zr sc 104 0 [zp a0, zj x1] [] w ov w' c s := by
  refine rl_ic rfl ?_
  show Zr sc 104 1 [zp a0, zj x1] [zj (-1)] w ov w' c s
  obtain ⟨h1, h2, h3, h4⟩ := h
  subst h1; subst h2; subst h3; subst h4
  exact Zr_ret (ins := .ireturn) rfl rfl

-- HeapwrightLab$Memory.classOf(I)I
set_option maxRecDepth 100000 in
theorem V104_0_2 {sc : List Value} {w w' : List zE} {ov : Option Value} {c s : Nat} {a0 : Nat} {x1 : Int} (h : (ov = some (zj (-1)) ∧ w' = w ∧ c = 0 ∧ s = 0)) : Zr sc 104 0 [zp a0, zj x1] [] w ov w' c s := by
  refine rl_ic rfl ?_
  show Zr sc 104 1 [zp a0, zj x1] [zj (-1)] w ov w' c s
  obtain ⟨h1, h2, h3, h4⟩ := h
  subst h1; subst h2; subst h3; subst h4
  exact Zr_ret (ins := .ireturn) rfl rfl

