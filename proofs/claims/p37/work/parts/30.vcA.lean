/-! ===== regions: the class ===== -/
-- HeapwrightLab.names()I
set_option maxRecDepth 100000 in
theorem V0_0 {sc : List Value} {w w' : List zE} {ov : Option Value} {c s : Nat} {a0 : Nat} (h : (∃ f0_2 : Nat, ∃ f1_3 : Nat, ∃ f2_4 : Nat, ∃ f3_5 : Nat, ∃ f4_6 : Nat, ∃ f5_7 : Nat, ∃ f6_8 : Nat, ∃ f7_9 : Int, w[a0]? = some (zob 6 [zp f0_2, zp f1_3, zp f2_4, zp f3_5, zp f4_6, zp f5_7, zp f6_8, zj f7_9]) ∧ (∃ p_12 : Nat, ∃ w_10 : List zE, Zc sc 1 [zp a0] w (some (zp p_12)) w_10 0 0 ∧ (∃ cn_13 : Nat, ∃ fs_14 : List Value, w_10[p_12]? = some (zob cn_13 fs_14) ∧ (cn_13 = 1 ∨ cn_13 = 2 ∨ cn_13 = 4) ∧ (∃ r_21 : Int, ∃ w_19 : List zE, Zc sc 3 [zp p_12] w_10 (some (zj r_21)) w_19 0 0 ∧ (ov = some (zj r_21) ∧ w' = w_19 ∧ c = 0 ∧ s = 0)))))) : Zr sc 0 0 [zp a0] [] w ov w' c s := by
  refine Zr_st (q := (1, [zp a0], [zp a0])) rfl rfl rfl ?_
  show Zr sc 0 1 [zp a0] [zp a0] w ov w' c s
  obtain ⟨f0_2, f1_3, f2_4, f3_5, f4_6, f5_7, f6_8, f7_9, hw_1, h⟩ := h
  obtain ⟨p_12, w_10, hk_11, h⟩ := h
  refine rn_cal0 (ins := .invokevirtual 83) (rest := []) rfl rfl rfl rfl (zinv_v (fs := _) hw_1 rfl rfl rfl rfl) rfl rfl hk_11 ?_
  show Zr sc 0 4 [zp a0] [zp p_12] w_10 ov w' c s
  obtain ⟨cn_13, fs_14, hw_15, hcn_16, h⟩ := h
  have hz_17 : ∃ kd, zinv 0 (.invokevirtual 87) [zp p_12] (false, w_10) = some (kd, 3, [zp p_12], []) ∧ decide (kd < 6) = true := by rcases hcn_16 with rfl | rfl | rfl <;> exact zinv_u hw_15 rfl rfl rfl rfl rfl rfl rfl
  obtain ⟨kd_18, hz_17⟩ := hz_17
  obtain ⟨r_21, w_19, hk_20, h⟩ := h
  refine rn_cal0 (ins := .invokevirtual 87) (rest := []) rfl rfl rfl rfl hz_17.1 rfl hz_17.2 hk_20 ?_
  show Zr sc 0 7 [zp a0] [zj r_21] w_19 ov w' c s
  obtain ⟨h1, h2, h3, h4⟩ := h
  subst h1; subst h2; subst h3; subst h4
  exact Zr_ret (ins := .ireturn) rfl rfl

-- HeapwrightLab.present()LHeapwrightLab$Memory;
set_option maxRecDepth 100000 in
theorem V1_0 {sc : List Value} {w w' : List zE} {ov : Option Value} {c s : Nat} {a0 : Nat} (h : (∃ f0_2 : Nat, ∃ f1_3 : Nat, ∃ f2_4 : Nat, ∃ f3_5 : Nat, ∃ f4_6 : Nat, ∃ f5_7 : Nat, ∃ f6_8 : Nat, ∃ f7_9 : Int, w[a0]? = some (zob 6 [zp f0_2, zp f1_3, zp f2_4, zp f3_5, zp f4_6, zp f5_7, zp f6_8, zj f7_9]) ∧ (∃ p_12 : Nat, ∃ w_10 : List zE, Zc sc 2 [zp a0, zj f7_9] w (some (zp p_12)) w_10 0 0 ∧ (ov = some (zp p_12) ∧ w' = w_10 ∧ c = 0 ∧ s = 0)))) : Zr sc 1 0 [zp a0] [] w ov w' c s := by
  refine Zr_st (q := (1, [zp a0], [zp a0])) rfl rfl rfl ?_
  show Zr sc 1 1 [zp a0] [zp a0] w ov w' c s
  refine Zr_st (q := (2, [zp a0], [zp a0, zp a0])) rfl rfl rfl ?_
  show Zr sc 1 2 [zp a0] [zp a0, zp a0] w ov w' c s
  obtain ⟨f0_2, f1_3, f2_4, f3_5, f4_6, f5_7, f6_8, f7_9, hw_1, h⟩ := h
  refine rl_gf rfl hw_1 rfl rfl ?_
  show Zr sc 1 5 [zp a0] [zj f7_9, zp a0] w ov w' c s
  obtain ⟨p_12, w_10, hk_11, h⟩ := h
  refine rn_cal0 (ins := .invokevirtual 70) (rest := []) rfl rfl rfl rfl (zinv_v (fs := _) hw_1 rfl rfl rfl rfl) rfl rfl hk_11 ?_
  show Zr sc 1 8 [zp a0] [zp p_12] w_10 ov w' c s
  obtain ⟨h1, h2, h3, h4⟩ := h
  subst h1; subst h2; subst h3; subst h4
  exact Zr_ret (ins := .areturn) rfl rfl

-- HeapwrightLab.memoryOf(I)LHeapwrightLab$Memory;
set_option maxRecDepth 100000 in
theorem V2_0 {sc : List Value} {w w' : List zE} {ov : Option Value} {c s : Nat} {a0 : Nat} {x1 : Int} (h : ((zrg x1) ∧ (((x1 < 0 ∨ 4 < x1) → (∃ f0_3 : Nat, ∃ f1_4 : Nat, ∃ f2_5 : Nat, ∃ f3_6 : Nat, ∃ f4_7 : Nat, ∃ f5_8 : Nat, ∃ f6_9 : Nat, ∃ f7_10 : Int, w[a0]? = some (zob 6 [zp f0_3, zp f1_4, zp f2_5, zp f3_6, zp f4_7, zp f5_8, zp f6_9, zj f7_10]) ∧ (ov = some (zp f6_9) ∧ w' = w ∧ c = 0 ∧ s = 0))) ∧ (x1 = 0 → (∃ f0_12 : Nat, ∃ f1_13 : Nat, ∃ f2_14 : Nat, ∃ f3_15 : Nat, ∃ f4_16 : Nat, ∃ f5_17 : Nat, ∃ f6_18 : Nat, ∃ f7_19 : Int, w[a0]? = some (zob 6 [zp f0_12, zp f1_13, zp f2_14, zp f3_15, zp f4_16, zp f5_17, zp f6_18, zj f7_19]) ∧ (ov = some (zp f1_13) ∧ w' = w ∧ c = 0 ∧ s = 0))) ∧ (x1 = 1 → (∃ f0_21 : Nat, ∃ f1_22 : Nat, ∃ f2_23 : Nat, ∃ f3_24 : Nat, ∃ f4_25 : Nat, ∃ f5_26 : Nat, ∃ f6_27 : Nat, ∃ f7_28 : Int, w[a0]? = some (zob 6 [zp f0_21, zp f1_22, zp f2_23, zp f3_24, zp f4_25, zp f5_26, zp f6_27, zj f7_28]) ∧ (ov = some (zp f2_23) ∧ w' = w ∧ c = 0 ∧ s = 0))) ∧ (x1 = 2 → (∃ f0_30 : Nat, ∃ f1_31 : Nat, ∃ f2_32 : Nat, ∃ f3_33 : Nat, ∃ f4_34 : Nat, ∃ f5_35 : Nat, ∃ f6_36 : Nat, ∃ f7_37 : Int, w[a0]? = some (zob 6 [zp f0_30, zp f1_31, zp f2_32, zp f3_33, zp f4_34, zp f5_35, zp f6_36, zj f7_37]) ∧ (ov = some (zp f3_33) ∧ w' = w ∧ c = 0 ∧ s = 0))) ∧ (x1 = 3 → (∃ f0_39 : Nat, ∃ f1_40 : Nat, ∃ f2_41 : Nat, ∃ f3_42 : Nat, ∃ f4_43 : Nat, ∃ f5_44 : Nat, ∃ f6_45 : Nat, ∃ f7_46 : Int, w[a0]? = some (zob 6 [zp f0_39, zp f1_40, zp f2_41, zp f3_42, zp f4_43, zp f5_44, zp f6_45, zj f7_46]) ∧ (ov = some (zp f4_43) ∧ w' = w ∧ c = 0 ∧ s = 0))) ∧ (x1 = 4 → (∃ f0_48 : Nat, ∃ f1_49 : Nat, ∃ f2_50 : Nat, ∃ f3_51 : Nat, ∃ f4_52 : Nat, ∃ f5_53 : Nat, ∃ f6_54 : Nat, ∃ f7_55 : Int, w[a0]? = some (zob 6 [zp f0_48, zp f1_49, zp f2_50, zp f3_51, zp f4_52, zp f5_53, zp f6_54, zj f7_55]) ∧ (ov = some (zp f5_53) ∧ w' = w ∧ c = 0 ∧ s = 0)))))) : Zr sc 2 0 [zp a0, zj x1] [] w ov w' c s := by
  refine Zr_st (q := (1, [zp a0, zj x1], [zj x1])) rfl rfl rfl ?_
  show Zr sc 2 1 [zp a0, zj x1] [zj x1] w ov w' c s
  obtain ⟨hr_1, h⟩ := h
  have hsw : (x1 < 0 ∨ 4 < x1) ∨ x1 = 0 ∨ x1 = 1 ∨ x1 = 2 ∨ x1 = 3 ∨ x1 = 4 := by omega
  rcases hsw with hp | hp | hp | hp | hp | hp
  · replace h := h.1 hp
    refine rl_sw (t := 61) rfl hr_1 (zsw_d hp rfl) ?_
    show Zr sc 2 61 [zp a0, zj x1] [] w ov w' c s
    refine Zr_st (q := (62, [zp a0, zj x1], [zp a0])) rfl rfl rfl ?_
    show Zr sc 2 62 [zp a0, zj x1] [zp a0] w ov w' c s
    obtain ⟨f0_3, f1_4, f2_5, f3_6, f4_7, f5_8, f6_9, f7_10, hw_2, h⟩ := h
    refine rl_gf rfl hw_2 rfl rfl ?_
    show Zr sc 2 65 [zp a0, zj x1] [zp f6_9] w ov w' c s
    obtain ⟨h1, h2, h3, h4⟩ := h
    subst h1; subst h2; subst h3; subst h4
    exact Zr_ret (ins := .areturn) rfl rfl
  · replace h := h.2.1 hp
    refine rl_sw (t := 36) rfl hr_1 (by rw [hp]; rfl) ?_
    show Zr sc 2 36 [zp a0, zj x1] [] w ov w' c s
    refine Zr_st (q := (37, [zp a0, zj x1], [zp a0])) rfl rfl rfl ?_
    show Zr sc 2 37 [zp a0, zj x1] [zp a0] w ov w' c s
    obtain ⟨f0_12, f1_13, f2_14, f3_15, f4_16, f5_17, f6_18, f7_19, hw_11, h⟩ := h
    refine rl_gf rfl hw_11 rfl rfl ?_
    show Zr sc 2 40 [zp a0, zj x1] [zp f1_13] w ov w' c s
    obtain ⟨h1, h2, h3, h4⟩ := h
    subst h1; subst h2; subst h3; subst h4
    exact Zr_ret (ins := .areturn) rfl rfl
  · replace h := h.2.2.1 hp
    refine rl_sw (t := 41) rfl hr_1 (by rw [hp]; rfl) ?_
    show Zr sc 2 41 [zp a0, zj x1] [] w ov w' c s
    refine Zr_st (q := (42, [zp a0, zj x1], [zp a0])) rfl rfl rfl ?_
    show Zr sc 2 42 [zp a0, zj x1] [zp a0] w ov w' c s
    obtain ⟨f0_21, f1_22, f2_23, f3_24, f4_25, f5_26, f6_27, f7_28, hw_20, h⟩ := h
    refine rl_gf rfl hw_20 rfl rfl ?_
    show Zr sc 2 45 [zp a0, zj x1] [zp f2_23] w ov w' c s
    obtain ⟨h1, h2, h3, h4⟩ := h
    subst h1; subst h2; subst h3; subst h4
    exact Zr_ret (ins := .areturn) rfl rfl
  · replace h := h.2.2.2.1 hp
    refine rl_sw (t := 46) rfl hr_1 (by rw [hp]; rfl) ?_
    show Zr sc 2 46 [zp a0, zj x1] [] w ov w' c s
    refine Zr_st (q := (47, [zp a0, zj x1], [zp a0])) rfl rfl rfl ?_
    show Zr sc 2 47 [zp a0, zj x1] [zp a0] w ov w' c s
    obtain ⟨f0_30, f1_31, f2_32, f3_33, f4_34, f5_35, f6_36, f7_37, hw_29, h⟩ := h
    refine rl_gf rfl hw_29 rfl rfl ?_
    show Zr sc 2 50 [zp a0, zj x1] [zp f3_33] w ov w' c s
    obtain ⟨h1, h2, h3, h4⟩ := h
    subst h1; subst h2; subst h3; subst h4
    exact Zr_ret (ins := .areturn) rfl rfl
  · replace h := h.2.2.2.2.1 hp
    refine rl_sw (t := 51) rfl hr_1 (by rw [hp]; rfl) ?_
    show Zr sc 2 51 [zp a0, zj x1] [] w ov w' c s
    refine Zr_st (q := (52, [zp a0, zj x1], [zp a0])) rfl rfl rfl ?_
    show Zr sc 2 52 [zp a0, zj x1] [zp a0] w ov w' c s
    obtain ⟨f0_39, f1_40, f2_41, f3_42, f4_43, f5_44, f6_45, f7_46, hw_38, h⟩ := h
    refine rl_gf rfl hw_38 rfl rfl ?_
    show Zr sc 2 55 [zp a0, zj x1] [zp f4_43] w ov w' c s
    obtain ⟨h1, h2, h3, h4⟩ := h
    subst h1; subst h2; subst h3; subst h4
    exact Zr_ret (ins := .areturn) rfl rfl
  · replace h := h.2.2.2.2.2 hp
    refine rl_sw (t := 56) rfl hr_1 (by rw [hp]; rfl) ?_
    show Zr sc 2 56 [zp a0, zj x1] [] w ov w' c s
    refine Zr_st (q := (57, [zp a0, zj x1], [zp a0])) rfl rfl rfl ?_
    show Zr sc 2 57 [zp a0, zj x1] [zp a0] w ov w' c s
    obtain ⟨f0_48, f1_49, f2_50, f3_51, f4_52, f5_53, f6_54, f7_55, hw_47, h⟩ := h
    refine rl_gf rfl hw_47 rfl rfl ?_
    show Zr sc 2 60 [zp a0, zj x1] [zp f5_53] w ov w' c s
    obtain ⟨h1, h2, h3, h4⟩ := h
    subst h1; subst h2; subst h3; subst h4
    exact Zr_ret (ins := .areturn) rfl rfl

-- HeapwrightLab$Memory.namesGiven()I
set_option maxRecDepth 100000 in
theorem V3_0_1 {sc : List Value} {w w' : List zE} {ov : Option Value} {c s : Nat} {a0 : Nat} (h : (∃ f0_2 : Nat, ∃ f1_3 : Nat, ∃ f2_4 : Int, ∃ f3_5 : Int, ∃ f4_6 : Int, ∃ f5_7 : Int, ∃ f6_8 : Int, ∃ f7_9 : Nat, ∃ f8_10 : Nat, ∃ f9_11 : Int, ∃ f10_12 : Int, ∃ f11_13 : Int, ∃ f12_14 : Int, w[a0]? = some (zob 1 [zp f0_2, zp f1_3, zj f2_4, zj f3_5, zj f4_6, zj f5_7, zj f6_8, zp f7_9, zp f8_10, zj f9_11, zj f10_12, zj f11_13, zj f12_14]) ∧ (ov = some (zj f9_11) ∧ w' = w ∧ c = 0 ∧ s = 0))) : Zr sc 3 0 [zp a0] [] w ov w' c s := by
  refine Zr_st (q := (1, [zp a0], [zp a0])) rfl rfl rfl ?_
  show Zr sc 3 1 [zp a0] [zp a0] w ov w' c s
  obtain ⟨f0_2, f1_3, f2_4, f3_5, f4_6, f5_7, f6_8, f7_9, f8_10, f9_11, f10_12, f11_13, f12_14, hw_1, h⟩ := h
  refine rl_gf rfl hw_1 rfl rfl ?_
  show Zr sc 3 4 [zp a0] [zj f9_11] w ov w' c s
  obtain ⟨h1, h2, h3, h4⟩ := h
  subst h1; subst h2; subst h3; subst h4
  exact Zr_ret (ins := .ireturn) rfl rfl

-- HeapwrightLab$Memory.namesGiven()I
set_option maxRecDepth 100000 in
theorem V3_0_2 {sc : List Value} {w w' : List zE} {ov : Option Value} {c s : Nat} {a0 : Nat} (h : (∃ f0_2 : Nat, ∃ f1_3 : Nat, ∃ f2_4 : Int, ∃ f3_5 : Int, ∃ f4_6 : Int, ∃ f5_7 : Int, ∃ f6_8 : Int, ∃ f7_9 : Nat, ∃ f8_10 : Nat, ∃ f9_11 : Int, ∃ f10_12 : Int, ∃ f11_13 : Int, ∃ f12_14 : Int, w[a0]? = some (zob 2 [zp f0_2, zp f1_3, zj f2_4, zj f3_5, zj f4_6, zj f5_7, zj f6_8, zp f7_9, zp f8_10, zj f9_11, zj f10_12, zj f11_13, zj f12_14]) ∧ (ov = some (zj f9_11) ∧ w' = w ∧ c = 0 ∧ s = 0))) : Zr sc 3 0 [zp a0] [] w ov w' c s := by
  refine Zr_st (q := (1, [zp a0], [zp a0])) rfl rfl rfl ?_
  show Zr sc 3 1 [zp a0] [zp a0] w ov w' c s
  obtain ⟨f0_2, f1_3, f2_4, f3_5, f4_6, f5_7, f6_8, f7_9, f8_10, f9_11, f10_12, f11_13, f12_14, hw_1, h⟩ := h
  refine rl_gf rfl hw_1 rfl rfl ?_
  show Zr sc 3 4 [zp a0] [zj f9_11] w ov w' c s
  obtain ⟨h1, h2, h3, h4⟩ := h
  subst h1; subst h2; subst h3; subst h4
  exact Zr_ret (ins := .ireturn) rfl rfl

-- HeapwrightLab$Memory.namesGiven()I
set_option maxRecDepth 100000 in
theorem V3_0_4 {sc : List Value} {w w' : List zE} {ov : Option Value} {c s : Nat} {a0 : Nat} (h : (∃ f0_2 : Nat, ∃ f1_3 : Nat, ∃ f2_4 : Int, ∃ f3_5 : Int, ∃ f4_6 : Int, ∃ f5_7 : Int, ∃ f6_8 : Int, ∃ f7_9 : Nat, ∃ f8_10 : Nat, ∃ f9_11 : Int, ∃ f10_12 : Int, ∃ f11_13 : Int, ∃ f12_14 : Int, ∃ f13_15 : Nat, w[a0]? = some (zob 4 [zp f0_2, zp f1_3, zj f2_4, zj f3_5, zj f4_6, zj f5_7, zj f6_8, zp f7_9, zp f8_10, zj f9_11, zj f10_12, zj f11_13, zj f12_14, zp f13_15]) ∧ (ov = some (zj f9_11) ∧ w' = w ∧ c = 0 ∧ s = 0))) : Zr sc 3 0 [zp a0] [] w ov w' c s := by
  refine Zr_st (q := (1, [zp a0], [zp a0])) rfl rfl rfl ?_
  show Zr sc 3 1 [zp a0] [zp a0] w ov w' c s
  obtain ⟨f0_2, f1_3, f2_4, f3_5, f4_6, f5_7, f6_8, f7_9, f8_10, f9_11, f10_12, f11_13, f12_14, f13_15, hw_1, h⟩ := h
  refine rl_gf rfl hw_1 rfl rfl ?_
  show Zr sc 3 4 [zp a0] [zj f9_11] w ov w' c s
  obtain ⟨h1, h2, h3, h4⟩ := h
  subst h1; subst h2; subst h3; subst h4
  exact Zr_ret (ins := .ireturn) rfl rfl

-- HeapwrightLab.isThere(I)Z
set_option maxRecDepth 100000 in
theorem V4_0 {sc : List Value} {w w' : List zE} {ov : Option Value} {c s : Nat} {a0 : Nat} {x1 : Int} (h : (∃ f0_2 : Nat, ∃ f1_3 : Nat, ∃ f2_4 : Nat, ∃ f3_5 : Nat, ∃ f4_6 : Nat, ∃ f5_7 : Nat, ∃ f6_8 : Nat, ∃ f7_9 : Int, w[a0]? = some (zob 6 [zp f0_2, zp f1_3, zp f2_4, zp f3_5, zp f4_6, zp f5_7, zp f6_8, zj f7_9]) ∧ (∃ w_10 : List zE, Zc sc 5 [zp a0, zj x1] w none w_10 0 0 ∧ (∃ f0_13 : Nat, ∃ f1_14 : Nat, ∃ f2_15 : Nat, ∃ f3_16 : Nat, ∃ f4_17 : Nat, ∃ f5_18 : Nat, ∃ f6_19 : Nat, ∃ f7_20 : Int, w_10[a0]? = some (zob 6 [zp f0_13, zp f1_14, zp f2_15, zp f3_16, zp f4_17, zp f5_18, zp f6_19, zj f7_20]) ∧ (∃ p_23 : Nat, ∃ w_21 : List zE, Zc sc 1 [zp a0] w_10 (some (zp p_23)) w_21 0 0 ∧ (∃ cn_24 : Nat, ∃ fs_25 : List Value, w_21[p_23]? = some (zob cn_24 fs_25) ∧ (cn_24 = 1 ∨ cn_24 = 2 ∨ cn_24 = 4) ∧ (∃ p_32 : Nat, ∃ w_30 : List zE, Zc sc 6 [zp p_23] w_21 (some (zp p_32)) w_30 0 0 ∧ (∃ f0_34 : Nat, ∃ f1_35 : Nat, ∃ f2_36 : Nat, ∃ f3_37 : Nat, ∃ f4_38 : Int, ∃ f5_39 : Int, w_30[p_32]? = some (zob 0 [zp f0_34, zp f1_35, zp f2_36, zp f3_37, zj f4_38, zj f5_39]) ∧ (∃ r_42 : Int, ∃ w_40 : List zE, Zc sc 7 [zp p_32, zj x1] w_30 (some (zj r_42)) w_40 0 0 ∧ ((r_42 = 0 ∨ r_42 = 1) ∧ (ov = some (zj r_42) ∧ w' = w_40 ∧ c = 0 ∧ s = 0))))))))))) : Zr sc 4 0 [zp a0, zj x1] [] w ov w' c s := by
  refine Zr_st (q := (1, [zp a0, zj x1], [zp a0])) rfl rfl rfl ?_
  show Zr sc 4 1 [zp a0, zj x1] [zp a0] w ov w' c s
  refine Zr_st (q := (2, [zp a0, zj x1], [zj x1, zp a0])) rfl rfl rfl ?_
  show Zr sc 4 2 [zp a0, zj x1] [zj x1, zp a0] w ov w' c s
  obtain ⟨f0_2, f1_3, f2_4, f3_5, f4_6, f5_7, f6_8, f7_9, hw_1, h⟩ := h
  obtain ⟨w_10, hk_11, h⟩ := h
  refine rn_cal0 (ins := .invokevirtual 107) (rest := []) rfl rfl rfl rfl (zinv_v (fs := _) hw_1 rfl rfl rfl rfl) rfl rfl hk_11 ?_
  show Zr sc 4 5 [zp a0, zj x1] [] w_10 ov w' c s
  refine Zr_st (q := (6, [zp a0, zj x1], [zp a0])) rfl rfl rfl ?_
  show Zr sc 4 6 [zp a0, zj x1] [zp a0] w_10 ov w' c s
  obtain ⟨f0_13, f1_14, f2_15, f3_16, f4_17, f5_18, f6_19, f7_20, hw_12, h⟩ := h
  obtain ⟨p_23, w_21, hk_22, h⟩ := h
  refine rn_cal0 (ins := .invokevirtual 83) (rest := []) rfl rfl rfl rfl (zinv_v (fs := _) hw_12 rfl rfl rfl rfl) rfl rfl hk_22 ?_
  show Zr sc 4 9 [zp a0, zj x1] [zp p_23] w_21 ov w' c s
  obtain ⟨cn_24, fs_25, hw_26, hcn_27, h⟩ := h
  have hz_28 : ∃ kd, zinv 4 (.invokevirtual 113) [zp p_23] (false, w_21) = some (kd, 6, [zp p_23], []) ∧ decide (kd < 6) = true := by rcases hcn_27 with rfl | rfl | rfl <;> exact zinv_u hw_26 rfl rfl rfl rfl rfl rfl rfl
  obtain ⟨kd_29, hz_28⟩ := hz_28
  obtain ⟨p_32, w_30, hk_31, h⟩ := h
  refine rn_cal0 (ins := .invokevirtual 113) (rest := []) rfl rfl rfl rfl hz_28.1 rfl hz_28.2 hk_31 ?_
  show Zr sc 4 12 [zp a0, zj x1] [zp p_32] w_30 ov w' c s
  refine Zr_st (q := (13, [zp a0, zj x1], [zj x1, zp p_32])) rfl rfl rfl ?_
  show Zr sc 4 13 [zp a0, zj x1] [zj x1, zp p_32] w_30 ov w' c s
  obtain ⟨f0_34, f1_35, f2_36, f3_37, f4_38, f5_39, hw_33, h⟩ := h
  obtain ⟨r_42, w_40, hk_41, h⟩ := h
  refine rn_cal0 (ins := .invokevirtual 144) (rest := []) rfl rfl rfl rfl (zinv_v (fs := _) hw_33 rfl rfl rfl rfl) rfl rfl hk_41 ?_
  show Zr sc 4 16 [zp a0, zj x1] [zj r_42] w_40 ov w' c s
  obtain ⟨hb_43, h⟩ := h
  obtain ⟨h1, h2, h3, h4⟩ := h
  subst h1; subst h2; subst h3; subst h4
  exact Zr_retb rfl rfl hb_43

-- HeapwrightLab.requireName(I)V
set_option maxRecDepth 100000 in
theorem V5_0 {sc : List Value} {w w' : List zE} {ov : Option Value} {c s : Nat} {a0 : Nat} {x1 : Int} (h : ((zrg x1) ∧ ((x1 < 0 → False) ∧ (¬ (x1 < 0) → (∃ f0_3 : Nat, ∃ f1_4 : Nat, ∃ f2_5 : Nat, ∃ f3_6 : Nat, ∃ f4_7 : Nat, ∃ f5_8 : Nat, ∃ f6_9 : Nat, ∃ f7_10 : Int, w[a0]? = some (zob 6 [zp f0_3, zp f1_4, zp f2_5, zp f3_6, zp f4_7, zp f5_8, zp f6_9, zj f7_10]) ∧ (∃ p_13 : Nat, ∃ w_11 : List zE, Zc sc 1 [zp a0] w (some (zp p_13)) w_11 0 0 ∧ (∃ cn_14 : Nat, ∃ fs_15 : List Value, w_11[p_13]? = some (zob cn_14 fs_15) ∧ (cn_14 = 1 ∨ cn_14 = 2 ∨ cn_14 = 4) ∧ (∃ r_22 : Int, ∃ w_20 : List zE, Zc sc 3 [zp p_13] w_11 (some (zj r_22)) w_20 0 0 ∧ ((zrg x1 ∧ zrg r_22) ∧ ((x1 < r_22 → (ov = none ∧ w' = w_20 ∧ c = 0 ∧ s = 0)) ∧ (¬ (x1 < r_22) → False))))))))))) : Zr sc 5 0 [zp a0, zj x1] [] w ov w' c s := by
  refine Zr_st (q := (1, [zp a0, zj x1], [zj x1])) rfl rfl rfl ?_
  show Zr sc 5 1 [zp a0, zj x1] [zj x1] w ov w' c s
  obtain ⟨hr_1, h⟩ := h
  refine Zr_b0 (p := x1 < 0) rfl rfl (zcmp_0 (cnd := .lt) hr_1) (fun hp => ?_) (fun hp => ?_)
  · replace h := h.1 hp
    show Zr sc 5 15 [zp a0, zj x1] [] w ov w' c s
    exact h.elim
  · replace h := h.2 hp
    show Zr sc 5 4 [zp a0, zj x1] [] w ov w' c s
    refine Zr_st (q := (5, [zp a0, zj x1], [zj x1])) rfl rfl rfl ?_
    show Zr sc 5 5 [zp a0, zj x1] [zj x1] w ov w' c s
    refine Zr_st (q := (6, [zp a0, zj x1], [zp a0, zj x1])) rfl rfl rfl ?_
    show Zr sc 5 6 [zp a0, zj x1] [zp a0, zj x1] w ov w' c s
    obtain ⟨f0_3, f1_4, f2_5, f3_6, f4_7, f5_8, f6_9, f7_10, hw_2, h⟩ := h
    obtain ⟨p_13, w_11, hk_12, h⟩ := h
    refine rn_cal0 (ins := .invokevirtual 83) (rest := [zj x1]) rfl rfl rfl rfl (zinv_v (fs := _) hw_2 rfl rfl rfl rfl) rfl rfl hk_12 ?_
    show Zr sc 5 9 [zp a0, zj x1] [zp p_13, zj x1] w_11 ov w' c s
    obtain ⟨cn_14, fs_15, hw_16, hcn_17, h⟩ := h
    have hz_18 : ∃ kd, zinv 5 (.invokevirtual 87) [zp p_13, zj x1] (false, w_11) = some (kd, 3, [zp p_13], [zj x1]) ∧ decide (kd < 6) = true := by rcases hcn_17 with rfl | rfl | rfl <;> exact zinv_u hw_16 rfl rfl rfl rfl rfl rfl rfl
    obtain ⟨kd_19, hz_18⟩ := hz_18
    obtain ⟨r_22, w_20, hk_21, h⟩ := h
    refine rn_cal0 (ins := .invokevirtual 87) (rest := [zj x1]) rfl rfl rfl rfl hz_18.1 rfl hz_18.2 hk_21 ?_
    show Zr sc 5 12 [zp a0, zj x1] [zj r_22, zj x1] w_20 ov w' c s
    obtain ⟨hr_23, h⟩ := h
    refine Zr_br (p := x1 < r_22) rfl rfl (zcmp_j (cnd := .lt) hr_23.1 hr_23.2) (fun hp => ?_) (fun hp => ?_)
    · replace h := h.1 hp
      show Zr sc 5 25 [zp a0, zj x1] [] w_20 ov w' c s
      obtain ⟨h1, h2, h3, h4⟩ := h
      subst h1; subst h2; subst h3; subst h4
      exact Zr_ret (ins := .return_) rfl rfl
    · replace h := h.2 hp
      show Zr sc 5 15 [zp a0, zj x1] [] w_20 ov w' c s
      exact h.elim

-- HeapwrightLab$Memory.standing()LHeapwrightLab$Blocks;
set_option maxRecDepth 100000 in
theorem V6_0_1 {sc : List Value} {w w' : List zE} {ov : Option Value} {c s : Nat} {a0 : Nat} (h : (∃ f0_2 : Nat, ∃ f1_3 : Nat, ∃ f2_4 : Int, ∃ f3_5 : Int, ∃ f4_6 : Int, ∃ f5_7 : Int, ∃ f6_8 : Int, ∃ f7_9 : Nat, ∃ f8_10 : Nat, ∃ f9_11 : Int, ∃ f10_12 : Int, ∃ f11_13 : Int, ∃ f12_14 : Int, w[a0]? = some (zob 1 [zp f0_2, zp f1_3, zj f2_4, zj f3_5, zj f4_6, zj f5_7, zj f6_8, zp f7_9, zp f8_10, zj f9_11, zj f10_12, zj f11_13, zj f12_14]) ∧ (ov = some (zp f0_2) ∧ w' = w ∧ c = 0 ∧ s = 0))) : Zr sc 6 0 [zp a0] [] w ov w' c s := by
  refine Zr_st (q := (1, [zp a0], [zp a0])) rfl rfl rfl ?_
  show Zr sc 6 1 [zp a0] [zp a0] w ov w' c s
  obtain ⟨f0_2, f1_3, f2_4, f3_5, f4_6, f5_7, f6_8, f7_9, f8_10, f9_11, f10_12, f11_13, f12_14, hw_1, h⟩ := h
  refine rl_gf rfl hw_1 rfl rfl ?_
  show Zr sc 6 4 [zp a0] [zp f0_2] w ov w' c s
  obtain ⟨h1, h2, h3, h4⟩ := h
  subst h1; subst h2; subst h3; subst h4
  exact Zr_ret (ins := .areturn) rfl rfl

-- HeapwrightLab$Memory.standing()LHeapwrightLab$Blocks;
set_option maxRecDepth 100000 in
theorem V6_0_2 {sc : List Value} {w w' : List zE} {ov : Option Value} {c s : Nat} {a0 : Nat} (h : (∃ f0_2 : Nat, ∃ f1_3 : Nat, ∃ f2_4 : Int, ∃ f3_5 : Int, ∃ f4_6 : Int, ∃ f5_7 : Int, ∃ f6_8 : Int, ∃ f7_9 : Nat, ∃ f8_10 : Nat, ∃ f9_11 : Int, ∃ f10_12 : Int, ∃ f11_13 : Int, ∃ f12_14 : Int, w[a0]? = some (zob 2 [zp f0_2, zp f1_3, zj f2_4, zj f3_5, zj f4_6, zj f5_7, zj f6_8, zp f7_9, zp f8_10, zj f9_11, zj f10_12, zj f11_13, zj f12_14]) ∧ (ov = some (zp f0_2) ∧ w' = w ∧ c = 0 ∧ s = 0))) : Zr sc 6 0 [zp a0] [] w ov w' c s := by
  refine Zr_st (q := (1, [zp a0], [zp a0])) rfl rfl rfl ?_
  show Zr sc 6 1 [zp a0] [zp a0] w ov w' c s
  obtain ⟨f0_2, f1_3, f2_4, f3_5, f4_6, f5_7, f6_8, f7_9, f8_10, f9_11, f10_12, f11_13, f12_14, hw_1, h⟩ := h
  refine rl_gf rfl hw_1 rfl rfl ?_
  show Zr sc 6 4 [zp a0] [zp f0_2] w ov w' c s
  obtain ⟨h1, h2, h3, h4⟩ := h
  subst h1; subst h2; subst h3; subst h4
  exact Zr_ret (ins := .areturn) rfl rfl

-- HeapwrightLab$Memory.standing()LHeapwrightLab$Blocks;
set_option maxRecDepth 100000 in
theorem V6_0_4 {sc : List Value} {w w' : List zE} {ov : Option Value} {c s : Nat} {a0 : Nat} (h : (∃ f0_2 : Nat, ∃ f1_3 : Nat, ∃ f2_4 : Int, ∃ f3_5 : Int, ∃ f4_6 : Int, ∃ f5_7 : Int, ∃ f6_8 : Int, ∃ f7_9 : Nat, ∃ f8_10 : Nat, ∃ f9_11 : Int, ∃ f10_12 : Int, ∃ f11_13 : Int, ∃ f12_14 : Int, ∃ f13_15 : Nat, w[a0]? = some (zob 4 [zp f0_2, zp f1_3, zj f2_4, zj f3_5, zj f4_6, zj f5_7, zj f6_8, zp f7_9, zp f8_10, zj f9_11, zj f10_12, zj f11_13, zj f12_14, zp f13_15]) ∧ (ov = some (zp f0_2) ∧ w' = w ∧ c = 0 ∧ s = 0))) : Zr sc 6 0 [zp a0] [] w ov w' c s := by
  refine Zr_st (q := (1, [zp a0], [zp a0])) rfl rfl rfl ?_
  show Zr sc 6 1 [zp a0] [zp a0] w ov w' c s
  obtain ⟨f0_2, f1_3, f2_4, f3_5, f4_6, f5_7, f6_8, f7_9, f8_10, f9_11, f10_12, f11_13, f12_14, f13_15, hw_1, h⟩ := h
  refine rl_gf rfl hw_1 rfl rfl ?_
  show Zr sc 6 4 [zp a0] [zp f0_2] w ov w' c s
  obtain ⟨h1, h2, h3, h4⟩ := h
  subst h1; subst h2; subst h3; subst h4
  exact Zr_ret (ins := .areturn) rfl rfl

-- HeapwrightLab$Blocks.has(I)Z
set_option maxRecDepth 100000 in
theorem V7_0 {sc : List Value} {w w' : List zE} {ov : Option Value} {c s : Nat} {a0 : Nat} {x1 : Int} (h : ((zrg x1) ∧ ((x1 < 0 → (ov = some (zj 0) ∧ w' = w ∧ c = 0 ∧ s = 0)) ∧ (¬ (x1 < 0) → (∃ f0_3 : Nat, ∃ f1_4 : Nat, ∃ f2_5 : Nat, ∃ f3_6 : Nat, ∃ f4_7 : Int, ∃ f5_8 : Int, w[a0]? = some (zob 0 [zp f0_3, zp f1_4, zp f2_5, zp f3_6, zj f4_7, zj f5_8]) ∧ (∃ l_10 : List Int, w[f2_5]? = some (za l_10) ∧ ((zrg x1 ∧ zrg (l_10.length : Int)) ∧ (((l_10.length : Int) ≤ x1 → (ov = some (zj 0) ∧ w' = w ∧ c = 0 ∧ s = 0)) ∧ (¬ ((l_10.length : Int) ≤ x1) → ((0 ≤ x1 ∧ x1 < (l_10.length : Int) ∧ x1 ≤ 2147483647) ∧ ((zrg (zgi l_10 x1)) ∧ (((zgi l_10 x1) ≤ 0 → (ov = some (zj 0) ∧ w' = w ∧ c = 0 ∧ s = 0)) ∧ (¬ ((zgi l_10 x1) ≤ 0) → (ov = some (zj 1) ∧ w' = w ∧ c = 0 ∧ s = 0)))))))))))))) : Zr sc 7 0 [zp a0, zj x1] [] w ov w' c s := by
  refine Zr_st (q := (1, [zp a0, zj x1], [zj x1])) rfl rfl rfl ?_
  show Zr sc 7 1 [zp a0, zj x1] [zj x1] w ov w' c s
  obtain ⟨hr_1, h⟩ := h
  refine Zr_b0 (p := x1 < 0) rfl rfl (zcmp_0 (cnd := .lt) hr_1) (fun hp => ?_) (fun hp => ?_)
  · replace h := h.1 hp
    show Zr sc 7 26 [zp a0, zj x1] [] w ov w' c s
    refine rl_ic rfl ?_
    show Zr sc 7 27 [zp a0, zj x1] [zj 0] w ov w' c s
    obtain ⟨h1, h2, h3, h4⟩ := h
    subst h1; subst h2; subst h3; subst h4
    exact Zr_ret (ins := .ireturn) rfl rfl
  · replace h := h.2 hp
    show Zr sc 7 4 [zp a0, zj x1] [] w ov w' c s
    refine Zr_st (q := (5, [zp a0, zj x1], [zj x1])) rfl rfl rfl ?_
    show Zr sc 7 5 [zp a0, zj x1] [zj x1] w ov w' c s
    refine Zr_st (q := (6, [zp a0, zj x1], [zp a0, zj x1])) rfl rfl rfl ?_
    show Zr sc 7 6 [zp a0, zj x1] [zp a0, zj x1] w ov w' c s
    obtain ⟨f0_3, f1_4, f2_5, f3_6, f4_7, f5_8, hw_2, h⟩ := h
    refine rl_gf rfl hw_2 rfl rfl ?_
    show Zr sc 7 9 [zp a0, zj x1] [zp f2_5, zj x1] w ov w' c s
    obtain ⟨l_10, hw_9, h⟩ := h
    refine rl_al rfl hw_9 ?_
    show Zr sc 7 10 [zp a0, zj x1] [zj (l_10.length : Int), zj x1] w ov w' c s
    obtain ⟨hr_11, h⟩ := h
    refine Zr_br (p := (l_10.length : Int) ≤ x1) rfl rfl (zcmp_j (cnd := .ge) hr_11.1 hr_11.2) (fun hp => ?_) (fun hp => ?_)
    · replace h := h.1 hp
      show Zr sc 7 26 [zp a0, zj x1] [] w ov w' c s
      refine rl_ic rfl ?_
      show Zr sc 7 27 [zp a0, zj x1] [zj 0] w ov w' c s
      obtain ⟨h1, h2, h3, h4⟩ := h
      subst h1; subst h2; subst h3; subst h4
      exact Zr_ret (ins := .ireturn) rfl rfl
    · replace h := h.2 hp
      show Zr sc 7 13 [zp a0, zj x1] [] w ov w' c s
      refine Zr_st (q := (14, [zp a0, zj x1], [zp a0])) rfl rfl rfl ?_
      show Zr sc 7 14 [zp a0, zj x1] [zp a0] w ov w' c s
      refine rl_gf rfl hw_2 rfl rfl ?_
      show Zr sc 7 17 [zp a0, zj x1] [zp f2_5] w ov w' c s
      refine Zr_st (q := (18, [zp a0, zj x1], [zj x1, zp f2_5])) rfl rfl rfl ?_
      show Zr sc 7 18 [zp a0, zj x1] [zj x1, zp f2_5] w ov w' c s
      obtain ⟨hi_12, h⟩ := h
      refine rl_ia rfl hw_9 hi_12.1 hi_12.2.1 hi_12.2.2 ?_
      show Zr sc 7 19 [zp a0, zj x1] [zj (zgi l_10 x1)] w ov w' c s
      obtain ⟨hr_13, h⟩ := h
      refine Zr_b0 (p := (zgi l_10 x1) ≤ 0) rfl rfl (zcmp_0 (cnd := .le) hr_13) (fun hp => ?_) (fun hp => ?_)
      · replace h := h.1 hp
        show Zr sc 7 26 [zp a0, zj x1] [] w ov w' c s
        refine rl_ic rfl ?_
        show Zr sc 7 27 [zp a0, zj x1] [zj 0] w ov w' c s
        obtain ⟨h1, h2, h3, h4⟩ := h
        subst h1; subst h2; subst h3; subst h4
        exact Zr_ret (ins := .ireturn) rfl rfl
      · replace h := h.2 hp
        show Zr sc 7 22 [zp a0, zj x1] [] w ov w' c s
        refine rl_ic rfl ?_
        show Zr sc 7 23 [zp a0, zj x1] [zj 1] w ov w' c s
        refine Zr_st (q := (27, [zp a0, zj x1], [zj 1])) rfl rfl rfl ?_
        show Zr sc 7 27 [zp a0, zj x1] [zj 1] w ov w' c s
        obtain ⟨h1, h2, h3, h4⟩ := h
        subst h1; subst h2; subst h3; subst h4
        exact Zr_ret (ins := .ireturn) rfl rfl

-- HeapwrightLab.place(I)I
set_option maxRecDepth 100000 in
theorem V8_0 {sc : List Value} {w w' : List zE} {ov : Option Value} {c s : Nat} {a0 : Nat} {x1 : Int} (h : (∃ f0_2 : Nat, ∃ f1_3 : Nat, ∃ f2_4 : Nat, ∃ f3_5 : Nat, ∃ f4_6 : Nat, ∃ f5_7 : Nat, ∃ f6_8 : Nat, ∃ f7_9 : Int, w[a0]? = some (zob 6 [zp f0_2, zp f1_3, zp f2_4, zp f3_5, zp f4_6, zp f5_7, zp f6_8, zj f7_9]) ∧ (∃ w_10 : List zE, Zc sc 5 [zp a0, zj x1] w none w_10 0 0 ∧ (∃ f0_13 : Nat, ∃ f1_14 : Nat, ∃ f2_15 : Nat, ∃ f3_16 : Nat, ∃ f4_17 : Nat, ∃ f5_18 : Nat, ∃ f6_19 : Nat, ∃ f7_20 : Int, w_10[a0]? = some (zob 6 [zp f0_13, zp f1_14, zp f2_15, zp f3_16, zp f4_17, zp f5_18, zp f6_19, zj f7_20]) ∧ (∃ p_23 : Nat, ∃ w_21 : List zE, Zc sc 1 [zp a0] w_10 (some (zp p_23)) w_21 0 0 ∧ (∃ cn_24 : Nat, ∃ fs_25 : List Value, w_21[p_23]? = some (zob cn_24 fs_25) ∧ (cn_24 = 1 ∨ cn_24 = 2 ∨ cn_24 = 4) ∧ (∃ p_32 : Nat, ∃ w_30 : List zE, Zc sc 6 [zp p_23] w_21 (some (zp p_32)) w_30 0 0 ∧ (∃ f0_34 : Nat, ∃ f1_35 : Nat, ∃ f2_36 : Nat, ∃ f3_37 : Nat, ∃ f4_38 : Int, ∃ f5_39 : Int, w_30[p_32]? = some (zob 0 [zp f0_34, zp f1_35, zp f2_36, zp f3_37, zj f4_38, zj f5_39]) ∧ (∃ r_42 : Int, ∃ w_40 : List zE, Zc sc 9 [zp p_32, zj x1] w_30 (some (zj r_42)) w_40 0 0 ∧ (ov = some (zj r_42) ∧ w' = w_40 ∧ c = 0 ∧ s = 0)))))))))) : Zr sc 8 0 [zp a0, zj x1] [] w ov w' c s := by
  refine Zr_st (q := (1, [zp a0, zj x1], [zp a0])) rfl rfl rfl ?_
  show Zr sc 8 1 [zp a0, zj x1] [zp a0] w ov w' c s
  refine Zr_st (q := (2, [zp a0, zj x1], [zj x1, zp a0])) rfl rfl rfl ?_
  show Zr sc 8 2 [zp a0, zj x1] [zj x1, zp a0] w ov w' c s
  obtain ⟨f0_2, f1_3, f2_4, f3_5, f4_6, f5_7, f6_8, f7_9, hw_1, h⟩ := h
  obtain ⟨w_10, hk_11, h⟩ := h
  refine rn_cal0 (ins := .invokevirtual 107) (rest := []) rfl rfl rfl rfl (zinv_v (fs := _) hw_1 rfl rfl rfl rfl) rfl rfl hk_11 ?_
  show Zr sc 8 5 [zp a0, zj x1] [] w_10 ov w' c s
  refine Zr_st (q := (6, [zp a0, zj x1], [zp a0])) rfl rfl rfl ?_
  show Zr sc 8 6 [zp a0, zj x1] [zp a0] w_10 ov w' c s
  obtain ⟨f0_13, f1_14, f2_15, f3_16, f4_17, f5_18, f6_19, f7_20, hw_12, h⟩ := h
  obtain ⟨p_23, w_21, hk_22, h⟩ := h
  refine rn_cal0 (ins := .invokevirtual 83) (rest := []) rfl rfl rfl rfl (zinv_v (fs := _) hw_12 rfl rfl rfl rfl) rfl rfl hk_22 ?_
  show Zr sc 8 9 [zp a0, zj x1] [zp p_23] w_21 ov w' c s
  obtain ⟨cn_24, fs_25, hw_26, hcn_27, h⟩ := h
  have hz_28 : ∃ kd, zinv 8 (.invokevirtual 113) [zp p_23] (false, w_21) = some (kd, 6, [zp p_23], []) ∧ decide (kd < 6) = true := by rcases hcn_27 with rfl | rfl | rfl <;> exact zinv_u hw_26 rfl rfl rfl rfl rfl rfl rfl
  obtain ⟨kd_29, hz_28⟩ := hz_28
  obtain ⟨p_32, w_30, hk_31, h⟩ := h
  refine rn_cal0 (ins := .invokevirtual 113) (rest := []) rfl rfl rfl rfl hz_28.1 rfl hz_28.2 hk_31 ?_
  show Zr sc 8 12 [zp a0, zj x1] [zp p_32] w_30 ov w' c s
  refine Zr_st (q := (13, [zp a0, zj x1], [zj x1, zp p_32])) rfl rfl rfl ?_
  show Zr sc 8 13 [zp a0, zj x1] [zj x1, zp p_32] w_30 ov w' c s
  obtain ⟨f0_34, f1_35, f2_36, f3_37, f4_38, f5_39, hw_33, h⟩ := h
  obtain ⟨r_42, w_40, hk_41, h⟩ := h
  refine rn_cal0 (ins := .invokevirtual 123) (rest := []) rfl rfl rfl rfl (zinv_v (fs := _) hw_33 rfl rfl rfl rfl) rfl rfl hk_41 ?_
  show Zr sc 8 16 [zp a0, zj x1] [zj r_42] w_40 ov w' c s
  obtain ⟨h1, h2, h3, h4⟩ := h
  subst h1; subst h2; subst h3; subst h4
  exact Zr_ret (ins := .ireturn) rfl rfl

-- HeapwrightLab$Blocks.placeOf(I)I
set_option maxRecDepth 100000 in
theorem V9_0 {sc : List Value} {w w' : List zE} {ov : Option Value} {c s : Nat} {a0 : Nat} {x1 : Int} (h : (∃ f0_2 : Nat, ∃ f1_3 : Nat, ∃ f2_4 : Nat, ∃ f3_5 : Nat, ∃ f4_6 : Int, ∃ f5_7 : Int, w[a0]? = some (zob 0 [zp f0_2, zp f1_3, zp f2_4, zp f3_5, zj f4_6, zj f5_7]) ∧ (∃ r_10 : Int, ∃ w_8 : List zE, Zc sc 7 [zp a0, zj x1] w (some (zj r_10)) w_8 0 0 ∧ ((zrg r_10) ∧ ((r_10 = 0 → (ov = some (zj (-1)) ∧ w' = w_8 ∧ c = 0 ∧ s = 0)) ∧ (¬ (r_10 = 0) → (∃ f0_13 : Nat, ∃ f1_14 : Nat, ∃ f2_15 : Nat, ∃ f3_16 : Nat, ∃ f4_17 : Int, ∃ f5_18 : Int, w_8[a0]? = some (zob 0 [zp f0_13, zp f1_14, zp f2_15, zp f3_16, zj f4_17, zj f5_18]) ∧ (∃ l_21 : List Int, w_8[f0_13]? = some (za l_21) ∧ ((0 ≤ x1 ∧ x1 < (l_21.length : Int) ∧ x1 ≤ 2147483647) ∧ (ov = some (zj (zgi l_21 x1)) ∧ w' = w_8 ∧ c = 0 ∧ s = 0)))))))))) : Zr sc 9 0 [zp a0, zj x1] [] w ov w' c s := by
  refine Zr_st (q := (1, [zp a0, zj x1], [zp a0])) rfl rfl rfl ?_
  show Zr sc 9 1 [zp a0, zj x1] [zp a0] w ov w' c s
  refine Zr_st (q := (2, [zp a0, zj x1], [zj x1, zp a0])) rfl rfl rfl ?_
  show Zr sc 9 2 [zp a0, zj x1] [zj x1, zp a0] w ov w' c s
  obtain ⟨f0_2, f1_3, f2_4, f3_5, f4_6, f5_7, hw_1, h⟩ := h
  obtain ⟨r_10, w_8, hk_9, h⟩ := h
  refine rn_cal0 (ins := .invokevirtual 37) (rest := []) rfl rfl rfl rfl (zinv_v (fs := _) hw_1 rfl rfl rfl rfl) rfl rfl hk_9 ?_
  show Zr sc 9 5 [zp a0, zj x1] [zj r_10] w_8 ov w' c s
  obtain ⟨hr_11, h⟩ := h
  refine Zr_b0 (p := r_10 = 0) rfl rfl (zcmp_0 (cnd := .eq) hr_11) (fun hp => ?_) (fun hp => ?_)
  · replace h := h.1 hp
    show Zr sc 9 17 [zp a0, zj x1] [] w_8 ov w' c s
    refine rl_ic rfl ?_
    show Zr sc 9 18 [zp a0, zj x1] [zj (-1)] w_8 ov w' c s
    obtain ⟨h1, h2, h3, h4⟩ := h
    subst h1; subst h2; subst h3; subst h4
    exact Zr_ret (ins := .ireturn) rfl rfl
  · replace h := h.2 hp
    show Zr sc 9 8 [zp a0, zj x1] [] w_8 ov w' c s
    refine Zr_st (q := (9, [zp a0, zj x1], [zp a0])) rfl rfl rfl ?_
    show Zr sc 9 9 [zp a0, zj x1] [zp a0] w_8 ov w' c s
    obtain ⟨f0_13, f1_14, f2_15, f3_16, f4_17, f5_18, hw_12, h⟩ := h
    refine rl_gf rfl hw_12 rfl rfl ?_
    show Zr sc 9 12 [zp a0, zj x1] [zp f0_13] w_8 ov w' c s
    refine Zr_st (q := (13, [zp a0, zj x1], [zj x1, zp f0_13])) rfl rfl rfl ?_
    show Zr sc 9 13 [zp a0, zj x1] [zj x1, zp f0_13] w_8 ov w' c s
    obtain ⟨l_21, hw_20, h⟩ := h
    obtain ⟨hi_19, h⟩ := h
    refine rl_ia rfl hw_20 hi_19.1 hi_19.2.1 hi_19.2.2 ?_
    show Zr sc 9 14 [zp a0, zj x1] [zj (zgi l_21 x1)] w_8 ov w' c s
    refine Zr_st (q := (18, [zp a0, zj x1], [zj (zgi l_21 x1)])) rfl rfl rfl ?_
    show Zr sc 9 18 [zp a0, zj x1] [zj (zgi l_21 x1)] w_8 ov w' c s
    obtain ⟨h1, h2, h3, h4⟩ := h
    subst h1; subst h2; subst h3; subst h4
    exact Zr_ret (ins := .ireturn) rfl rfl

-- HeapwrightLab.size(I)I
set_option maxRecDepth 100000 in
theorem V10_0 {sc : List Value} {w w' : List zE} {ov : Option Value} {c s : Nat} {a0 : Nat} {x1 : Int} (h : (∃ f0_2 : Nat, ∃ f1_3 : Nat, ∃ f2_4 : Nat, ∃ f3_5 : Nat, ∃ f4_6 : Nat, ∃ f5_7 : Nat, ∃ f6_8 : Nat, ∃ f7_9 : Int, w[a0]? = some (zob 6 [zp f0_2, zp f1_3, zp f2_4, zp f3_5, zp f4_6, zp f5_7, zp f6_8, zj f7_9]) ∧ (∃ w_10 : List zE, Zc sc 5 [zp a0, zj x1] w none w_10 0 0 ∧ (∃ f0_13 : Nat, ∃ f1_14 : Nat, ∃ f2_15 : Nat, ∃ f3_16 : Nat, ∃ f4_17 : Nat, ∃ f5_18 : Nat, ∃ f6_19 : Nat, ∃ f7_20 : Int, w_10[a0]? = some (zob 6 [zp f0_13, zp f1_14, zp f2_15, zp f3_16, zp f4_17, zp f5_18, zp f6_19, zj f7_20]) ∧ (∃ p_23 : Nat, ∃ w_21 : List zE, Zc sc 1 [zp a0] w_10 (some (zp p_23)) w_21 0 0 ∧ (∃ cn_24 : Nat, ∃ fs_25 : List Value, w_21[p_23]? = some (zob cn_24 fs_25) ∧ (cn_24 = 1 ∨ cn_24 = 2 ∨ cn_24 = 4) ∧ (∃ p_32 : Nat, ∃ w_30 : List zE, Zc sc 6 [zp p_23] w_21 (some (zp p_32)) w_30 0 0 ∧ (∃ f0_34 : Nat, ∃ f1_35 : Nat, ∃ f2_36 : Nat, ∃ f3_37 : Nat, ∃ f4_38 : Int, ∃ f5_39 : Int, w_30[p_32]? = some (zob 0 [zp f0_34, zp f1_35, zp f2_36, zp f3_37, zj f4_38, zj f5_39]) ∧ (∃ r_42 : Int, ∃ w_40 : List zE, Zc sc 11 [zp p_32, zj x1] w_30 (some (zj r_42)) w_40 0 0 ∧ (ov = some (zj r_42) ∧ w' = w_40 ∧ c = 0 ∧ s = 0)))))))))) : Zr sc 10 0 [zp a0, zj x1] [] w ov w' c s := by
  refine Zr_st (q := (1, [zp a0, zj x1], [zp a0])) rfl rfl rfl ?_
  show Zr sc 10 1 [zp a0, zj x1] [zp a0] w ov w' c s
  refine Zr_st (q := (2, [zp a0, zj x1], [zj x1, zp a0])) rfl rfl rfl ?_
  show Zr sc 10 2 [zp a0, zj x1] [zj x1, zp a0] w ov w' c s
  obtain ⟨f0_2, f1_3, f2_4, f3_5, f4_6, f5_7, f6_8, f7_9, hw_1, h⟩ := h
  obtain ⟨w_10, hk_11, h⟩ := h
  refine rn_cal0 (ins := .invokevirtual 107) (rest := []) rfl rfl rfl rfl (zinv_v (fs := _) hw_1 rfl rfl rfl rfl) rfl rfl hk_11 ?_
  show Zr sc 10 5 [zp a0, zj x1] [] w_10 ov w' c s
  refine Zr_st (q := (6, [zp a0, zj x1], [zp a0])) rfl rfl rfl ?_
  show Zr sc 10 6 [zp a0, zj x1] [zp a0] w_10 ov w' c s
  obtain ⟨f0_13, f1_14, f2_15, f3_16, f4_17, f5_18, f6_19, f7_20, hw_12, h⟩ := h
  obtain ⟨p_23, w_21, hk_22, h⟩ := h
  refine rn_cal0 (ins := .invokevirtual 83) (rest := []) rfl rfl rfl rfl (zinv_v (fs := _) hw_12 rfl rfl rfl rfl) rfl rfl hk_22 ?_
  show Zr sc 10 9 [zp a0, zj x1] [zp p_23] w_21 ov w' c s
  obtain ⟨cn_24, fs_25, hw_26, hcn_27, h⟩ := h
  have hz_28 : ∃ kd, zinv 10 (.invokevirtual 113) [zp p_23] (false, w_21) = some (kd, 6, [zp p_23], []) ∧ decide (kd < 6) = true := by rcases hcn_27 with rfl | rfl | rfl <;> exact zinv_u hw_26 rfl rfl rfl rfl rfl rfl rfl
  obtain ⟨kd_29, hz_28⟩ := hz_28
  obtain ⟨p_32, w_30, hk_31, h⟩ := h
  refine rn_cal0 (ins := .invokevirtual 113) (rest := []) rfl rfl rfl rfl hz_28.1 rfl hz_28.2 hk_31 ?_
  show Zr sc 10 12 [zp a0, zj x1] [zp p_32] w_30 ov w' c s
  refine Zr_st (q := (13, [zp a0, zj x1], [zj x1, zp p_32])) rfl rfl rfl ?_
  show Zr sc 10 13 [zp a0, zj x1] [zj x1, zp p_32] w_30 ov w' c s
  obtain ⟨f0_34, f1_35, f2_36, f3_37, f4_38, f5_39, hw_33, h⟩ := h
  obtain ⟨r_42, w_40, hk_41, h⟩ := h
  refine rn_cal0 (ins := .invokevirtual 147) (rest := []) rfl rfl rfl rfl (zinv_v (fs := _) hw_33 rfl rfl rfl rfl) rfl rfl hk_41 ?_
  show Zr sc 10 16 [zp a0, zj x1] [zj r_42] w_40 ov w' c s
  obtain ⟨h1, h2, h3, h4⟩ := h
  subst h1; subst h2; subst h3; subst h4
  exact Zr_ret (ins := .ireturn) rfl rfl

-- HeapwrightLab$Blocks.sizeOf(I)I
set_option maxRecDepth 100000 in
theorem V11_0 {sc : List Value} {w w' : List zE} {ov : Option Value} {c s : Nat} {a0 : Nat} {x1 : Int} (h : (∃ f0_2 : Nat, ∃ f1_3 : Nat, ∃ f2_4 : Nat, ∃ f3_5 : Nat, ∃ f4_6 : Int, ∃ f5_7 : Int, w[a0]? = some (zob 0 [zp f0_2, zp f1_3, zp f2_4, zp f3_5, zj f4_6, zj f5_7]) ∧ (∃ r_10 : Int, ∃ w_8 : List zE, Zc sc 7 [zp a0, zj x1] w (some (zj r_10)) w_8 0 0 ∧ ((zrg r_10) ∧ ((r_10 = 0 → (ov = some (zj (-1)) ∧ w' = w_8 ∧ c = 0 ∧ s = 0)) ∧ (¬ (r_10 = 0) → (∃ f0_13 : Nat, ∃ f1_14 : Nat, ∃ f2_15 : Nat, ∃ f3_16 : Nat, ∃ f4_17 : Int, ∃ f5_18 : Int, w_8[a0]? = some (zob 0 [zp f0_13, zp f1_14, zp f2_15, zp f3_16, zj f4_17, zj f5_18]) ∧ (∃ l_21 : List Int, w_8[f1_14]? = some (za l_21) ∧ ((0 ≤ x1 ∧ x1 < (l_21.length : Int) ∧ x1 ≤ 2147483647) ∧ (ov = some (zj (zgi l_21 x1)) ∧ w' = w_8 ∧ c = 0 ∧ s = 0)))))))))) : Zr sc 11 0 [zp a0, zj x1] [] w ov w' c s := by
  refine Zr_st (q := (1, [zp a0, zj x1], [zp a0])) rfl rfl rfl ?_
  show Zr sc 11 1 [zp a0, zj x1] [zp a0] w ov w' c s
  refine Zr_st (q := (2, [zp a0, zj x1], [zj x1, zp a0])) rfl rfl rfl ?_
  show Zr sc 11 2 [zp a0, zj x1] [zj x1, zp a0] w ov w' c s
  obtain ⟨f0_2, f1_3, f2_4, f3_5, f4_6, f5_7, hw_1, h⟩ := h
  obtain ⟨r_10, w_8, hk_9, h⟩ := h
  refine rn_cal0 (ins := .invokevirtual 37) (rest := []) rfl rfl rfl rfl (zinv_v (fs := _) hw_1 rfl rfl rfl rfl) rfl rfl hk_9 ?_
  show Zr sc 11 5 [zp a0, zj x1] [zj r_10] w_8 ov w' c s
  obtain ⟨hr_11, h⟩ := h
  refine Zr_b0 (p := r_10 = 0) rfl rfl (zcmp_0 (cnd := .eq) hr_11) (fun hp => ?_) (fun hp => ?_)
  · replace h := h.1 hp
    show Zr sc 11 17 [zp a0, zj x1] [] w_8 ov w' c s
    refine rl_ic rfl ?_
    show Zr sc 11 18 [zp a0, zj x1] [zj (-1)] w_8 ov w' c s
    obtain ⟨h1, h2, h3, h4⟩ := h
    subst h1; subst h2; subst h3; subst h4
    exact Zr_ret (ins := .ireturn) rfl rfl
  · replace h := h.2 hp
    show Zr sc 11 8 [zp a0, zj x1] [] w_8 ov w' c s
    refine Zr_st (q := (9, [zp a0, zj x1], [zp a0])) rfl rfl rfl ?_
    show Zr sc 11 9 [zp a0, zj x1] [zp a0] w_8 ov w' c s
    obtain ⟨f0_13, f1_14, f2_15, f3_16, f4_17, f5_18, hw_12, h⟩ := h
    refine rl_gf rfl hw_12 rfl rfl ?_
    show Zr sc 11 12 [zp a0, zj x1] [zp f1_14] w_8 ov w' c s
    refine Zr_st (q := (13, [zp a0, zj x1], [zj x1, zp f1_14])) rfl rfl rfl ?_
    show Zr sc 11 13 [zp a0, zj x1] [zj x1, zp f1_14] w_8 ov w' c s
    obtain ⟨l_21, hw_20, h⟩ := h
    obtain ⟨hi_19, h⟩ := h
    refine rl_ia rfl hw_20 hi_19.1 hi_19.2.1 hi_19.2.2 ?_
    show Zr sc 11 14 [zp a0, zj x1] [zj (zgi l_21 x1)] w_8 ov w' c s
    refine Zr_st (q := (18, [zp a0, zj x1], [zj (zgi l_21 x1)])) rfl rfl rfl ?_
    show Zr sc 11 18 [zp a0, zj x1] [zj (zgi l_21 x1)] w_8 ov w' c s
    obtain ⟨h1, h2, h3, h4⟩ := h
    subst h1; subst h2; subst h3; subst h4
    exact Zr_ret (ins := .ireturn) rfl rfl

-- HeapwrightLab.room(I)I
set_option maxRecDepth 100000 in
theorem V12_0 {sc : List Value} {w w' : List zE} {ov : Option Value} {c s : Nat} {a0 : Nat} {x1 : Int} (h : (∃ f0_2 : Nat, ∃ f1_3 : Nat, ∃ f2_4 : Nat, ∃ f3_5 : Nat, ∃ f4_6 : Nat, ∃ f5_7 : Nat, ∃ f6_8 : Nat, ∃ f7_9 : Int, w[a0]? = some (zob 6 [zp f0_2, zp f1_3, zp f2_4, zp f3_5, zp f4_6, zp f5_7, zp f6_8, zj f7_9]) ∧ (∃ w_10 : List zE, Zc sc 5 [zp a0, zj x1] w none w_10 0 0 ∧ (∃ f0_13 : Nat, ∃ f1_14 : Nat, ∃ f2_15 : Nat, ∃ f3_16 : Nat, ∃ f4_17 : Nat, ∃ f5_18 : Nat, ∃ f6_19 : Nat, ∃ f7_20 : Int, w_10[a0]? = some (zob 6 [zp f0_13, zp f1_14, zp f2_15, zp f3_16, zp f4_17, zp f5_18, zp f6_19, zj f7_20]) ∧ (∃ p_23 : Nat, ∃ w_21 : List zE, Zc sc 1 [zp a0] w_10 (some (zp p_23)) w_21 0 0 ∧ (∃ cn_24 : Nat, ∃ fs_25 : List Value, w_21[p_23]? = some (zob cn_24 fs_25) ∧ (cn_24 = 1 ∨ cn_24 = 2 ∨ cn_24 = 4) ∧ (∃ p_32 : Nat, ∃ w_30 : List zE, Zc sc 6 [zp p_23] w_21 (some (zp p_32)) w_30 0 0 ∧ (∃ f0_34 : Nat, ∃ f1_35 : Nat, ∃ f2_36 : Nat, ∃ f3_37 : Nat, ∃ f4_38 : Int, ∃ f5_39 : Int, w_30[p_32]? = some (zob 0 [zp f0_34, zp f1_35, zp f2_36, zp f3_37, zj f4_38, zj f5_39]) ∧ (∃ r_42 : Int, ∃ w_40 : List zE, Zc sc 13 [zp p_32, zj x1] w_30 (some (zj r_42)) w_40 0 0 ∧ (ov = some (zj r_42) ∧ w' = w_40 ∧ c = 0 ∧ s = 0)))))))))) : Zr sc 12 0 [zp a0, zj x1] [] w ov w' c s := by
  refine Zr_st (q := (1, [zp a0, zj x1], [zp a0])) rfl rfl rfl ?_
  show Zr sc 12 1 [zp a0, zj x1] [zp a0] w ov w' c s
  refine Zr_st (q := (2, [zp a0, zj x1], [zj x1, zp a0])) rfl rfl rfl ?_
  show Zr sc 12 2 [zp a0, zj x1] [zj x1, zp a0] w ov w' c s
  obtain ⟨f0_2, f1_3, f2_4, f3_5, f4_6, f5_7, f6_8, f7_9, hw_1, h⟩ := h
  obtain ⟨w_10, hk_11, h⟩ := h
  refine rn_cal0 (ins := .invokevirtual 107) (rest := []) rfl rfl rfl rfl (zinv_v (fs := _) hw_1 rfl rfl rfl rfl) rfl rfl hk_11 ?_
  show Zr sc 12 5 [zp a0, zj x1] [] w_10 ov w' c s
  refine Zr_st (q := (6, [zp a0, zj x1], [zp a0])) rfl rfl rfl ?_
  show Zr sc 12 6 [zp a0, zj x1] [zp a0] w_10 ov w' c s
  obtain ⟨f0_13, f1_14, f2_15, f3_16, f4_17, f5_18, f6_19, f7_20, hw_12, h⟩ := h
  obtain ⟨p_23, w_21, hk_22, h⟩ := h
  refine rn_cal0 (ins := .invokevirtual 83) (rest := []) rfl rfl rfl rfl (zinv_v (fs := _) hw_12 rfl rfl rfl rfl) rfl rfl hk_22 ?_
  show Zr sc 12 9 [zp a0, zj x1] [zp p_23] w_21 ov w' c s
  obtain ⟨cn_24, fs_25, hw_26, hcn_27, h⟩ := h
  have hz_28 : ∃ kd, zinv 12 (.invokevirtual 113) [zp p_23] (false, w_21) = some (kd, 6, [zp p_23], []) ∧ decide (kd < 6) = true := by rcases hcn_27 with rfl | rfl | rfl <;> exact zinv_u hw_26 rfl rfl rfl rfl rfl rfl rfl
  obtain ⟨kd_29, hz_28⟩ := hz_28
  obtain ⟨p_32, w_30, hk_31, h⟩ := h
  refine rn_cal0 (ins := .invokevirtual 113) (rest := []) rfl rfl rfl rfl hz_28.1 rfl hz_28.2 hk_31 ?_
  show Zr sc 12 12 [zp a0, zj x1] [zp p_32] w_30 ov w' c s
  refine Zr_st (q := (13, [zp a0, zj x1], [zj x1, zp p_32])) rfl rfl rfl ?_
  show Zr sc 12 13 [zp a0, zj x1] [zj x1, zp p_32] w_30 ov w' c s
  obtain ⟨f0_34, f1_35, f2_36, f3_37, f4_38, f5_39, hw_33, h⟩ := h
  obtain ⟨r_42, w_40, hk_41, h⟩ := h
  refine rn_cal0 (ins := .invokevirtual 117) (rest := []) rfl rfl rfl rfl (zinv_v (fs := _) hw_33 rfl rfl rfl rfl) rfl rfl hk_41 ?_
  show Zr sc 12 16 [zp a0, zj x1] [zj r_42] w_40 ov w' c s
  obtain ⟨h1, h2, h3, h4⟩ := h
  subst h1; subst h2; subst h3; subst h4
  exact Zr_ret (ins := .ireturn) rfl rfl

-- HeapwrightLab$Blocks.roomOf(I)I
set_option maxRecDepth 100000 in
theorem V13_0 {sc : List Value} {w w' : List zE} {ov : Option Value} {c s : Nat} {a0 : Nat} {x1 : Int} (h : (∃ f0_2 : Nat, ∃ f1_3 : Nat, ∃ f2_4 : Nat, ∃ f3_5 : Nat, ∃ f4_6 : Int, ∃ f5_7 : Int, w[a0]? = some (zob 0 [zp f0_2, zp f1_3, zp f2_4, zp f3_5, zj f4_6, zj f5_7]) ∧ (∃ r_10 : Int, ∃ w_8 : List zE, Zc sc 7 [zp a0, zj x1] w (some (zj r_10)) w_8 0 0 ∧ ((zrg r_10) ∧ ((r_10 = 0 → (ov = some (zj (-1)) ∧ w' = w_8 ∧ c = 0 ∧ s = 0)) ∧ (¬ (r_10 = 0) → (∃ f0_13 : Nat, ∃ f1_14 : Nat, ∃ f2_15 : Nat, ∃ f3_16 : Nat, ∃ f4_17 : Int, ∃ f5_18 : Int, w_8[a0]? = some (zob 0 [zp f0_13, zp f1_14, zp f2_15, zp f3_16, zj f4_17, zj f5_18]) ∧ (∃ l_21 : List Int, w_8[f2_15]? = some (za l_21) ∧ ((0 ≤ x1 ∧ x1 < (l_21.length : Int) ∧ x1 ≤ 2147483647) ∧ (ov = some (zj (zgi l_21 x1)) ∧ w' = w_8 ∧ c = 0 ∧ s = 0)))))))))) : Zr sc 13 0 [zp a0, zj x1] [] w ov w' c s := by
  refine Zr_st (q := (1, [zp a0, zj x1], [zp a0])) rfl rfl rfl ?_
  show Zr sc 13 1 [zp a0, zj x1] [zp a0] w ov w' c s
  refine Zr_st (q := (2, [zp a0, zj x1], [zj x1, zp a0])) rfl rfl rfl ?_
  show Zr sc 13 2 [zp a0, zj x1] [zj x1, zp a0] w ov w' c s
  obtain ⟨f0_2, f1_3, f2_4, f3_5, f4_6, f5_7, hw_1, h⟩ := h
  obtain ⟨r_10, w_8, hk_9, h⟩ := h
  refine rn_cal0 (ins := .invokevirtual 37) (rest := []) rfl rfl rfl rfl (zinv_v (fs := _) hw_1 rfl rfl rfl rfl) rfl rfl hk_9 ?_
  show Zr sc 13 5 [zp a0, zj x1] [zj r_10] w_8 ov w' c s
  obtain ⟨hr_11, h⟩ := h
  refine Zr_b0 (p := r_10 = 0) rfl rfl (zcmp_0 (cnd := .eq) hr_11) (fun hp => ?_) (fun hp => ?_)
  · replace h := h.1 hp
    show Zr sc 13 17 [zp a0, zj x1] [] w_8 ov w' c s
    refine rl_ic rfl ?_
    show Zr sc 13 18 [zp a0, zj x1] [zj (-1)] w_8 ov w' c s
    obtain ⟨h1, h2, h3, h4⟩ := h
    subst h1; subst h2; subst h3; subst h4
    exact Zr_ret (ins := .ireturn) rfl rfl
  · replace h := h.2 hp
    show Zr sc 13 8 [zp a0, zj x1] [] w_8 ov w' c s
    refine Zr_st (q := (9, [zp a0, zj x1], [zp a0])) rfl rfl rfl ?_
    show Zr sc 13 9 [zp a0, zj x1] [zp a0] w_8 ov w' c s
    obtain ⟨f0_13, f1_14, f2_15, f3_16, f4_17, f5_18, hw_12, h⟩ := h
    refine rl_gf rfl hw_12 rfl rfl ?_
    show Zr sc 13 12 [zp a0, zj x1] [zp f2_15] w_8 ov w' c s
    refine Zr_st (q := (13, [zp a0, zj x1], [zj x1, zp f2_15])) rfl rfl rfl ?_
    show Zr sc 13 13 [zp a0, zj x1] [zj x1, zp f2_15] w_8 ov w' c s
    obtain ⟨l_21, hw_20, h⟩ := h
    obtain ⟨hi_19, h⟩ := h
    refine rl_ia rfl hw_20 hi_19.1 hi_19.2.1 hi_19.2.2 ?_
    show Zr sc 13 14 [zp a0, zj x1] [zj (zgi l_21 x1)] w_8 ov w' c s
    refine Zr_st (q := (18, [zp a0, zj x1], [zj (zgi l_21 x1)])) rfl rfl rfl ?_
    show Zr sc 13 18 [zp a0, zj x1] [zj (zgi l_21 x1)] w_8 ov w' c s
    obtain ⟨h1, h2, h3, h4⟩ := h
    subst h1; subst h2; subst h3; subst h4
    exact Zr_ret (ins := .ireturn) rfl rfl

-- HeapwrightLab.at(I)I
set_option maxRecDepth 100000 in
theorem V14_0 {sc : List Value} {w w' : List zE} {ov : Option Value} {c s : Nat} {a0 : Nat} {x1 : Int} (h : ((zrg x1) ∧ ((x1 < 0 → False) ∧ (¬ (x1 < 0) → ((zrg x1 ∧ zrg 1024) ∧ ((x1 < 1024 → (∃ f0_4 : Nat, ∃ f1_5 : Nat, ∃ f2_6 : Nat, ∃ f3_7 : Nat, ∃ f4_8 : Nat, ∃ f5_9 : Nat, ∃ f6_10 : Nat, ∃ f7_11 : Int, w[a0]? = some (zob 6 [zp f0_4, zp f1_5, zp f2_6, zp f3_7, zp f4_8, zp f5_9, zp f6_10, zj f7_11]) ∧ (∃ p_14 : Nat, ∃ w_12 : List zE, Zc sc 1 [zp a0] w (some (zp p_14)) w_12 0 0 ∧ (∃ cn_15 : Nat, ∃ fs_16 : List Value, w_12[p_14]? = some (zob cn_15 fs_16) ∧ (cn_15 = 1 ∨ cn_15 = 2 ∨ cn_15 = 4) ∧ (∃ p_23 : Nat, ∃ w_21 : List zE, Zc sc 6 [zp p_14] w_12 (some (zp p_23)) w_21 0 0 ∧ (∃ f0_25 : Nat, ∃ f1_26 : Nat, ∃ f2_27 : Nat, ∃ f3_28 : Nat, ∃ f4_29 : Int, ∃ f5_30 : Int, w_21[p_23]? = some (zob 0 [zp f0_25, zp f1_26, zp f2_27, zp f3_28, zj f4_29, zj f5_30]) ∧ (∃ r_33 : Int, ∃ w_31 : List zE, Zc sc 15 [zp p_23, zj x1] w_21 (some (zj r_33)) w_31 0 0 ∧ (ov = some (zj r_33) ∧ w' = w_31 ∧ c = 0 ∧ s = 0)))))))) ∧ (¬ (x1 < 1024) → False))))))) : Zr sc 14 0 [zp a0, zj x1] [] w ov w' c s := by
  refine Zr_st (q := (1, [zp a0, zj x1], [zj x1])) rfl rfl rfl ?_
  show Zr sc 14 1 [zp a0, zj x1] [zj x1] w ov w' c s
  obtain ⟨hr_1, h⟩ := h
  refine Zr_b0 (p := x1 < 0) rfl rfl (zcmp_0 (cnd := .lt) hr_1) (fun hp => ?_) (fun hp => ?_)
  · replace h := h.1 hp
    show Zr sc 14 11 [zp a0, zj x1] [] w ov w' c s
    exact h.elim
  · replace h := h.2 hp
    show Zr sc 14 4 [zp a0, zj x1] [] w ov w' c s
    refine Zr_st (q := (5, [zp a0, zj x1], [zj x1])) rfl rfl rfl ?_
    show Zr sc 14 5 [zp a0, zj x1] [zj x1] w ov w' c s
    refine rl_si rfl (by decide) ?_
    show Zr sc 14 8 [zp a0, zj x1] [zj 1024, zj x1] w ov w' c s
    obtain ⟨hr_2, h⟩ := h
    refine Zr_br (p := x1 < 1024) rfl rfl (zcmp_j (cnd := .lt) hr_2.1 hr_2.2) (fun hp => ?_) (fun hp => ?_)
    · replace h := h.1 hp
      show Zr sc 14 21 [zp a0, zj x1] [] w ov w' c s
      refine Zr_st (q := (22, [zp a0, zj x1], [zp a0])) rfl rfl rfl ?_
      show Zr sc 14 22 [zp a0, zj x1] [zp a0] w ov w' c s
      obtain ⟨f0_4, f1_5, f2_6, f3_7, f4_8, f5_9, f6_10, f7_11, hw_3, h⟩ := h
      obtain ⟨p_14, w_12, hk_13, h⟩ := h
      refine rn_cal0 (ins := .invokevirtual 83) (rest := []) rfl rfl rfl rfl (zinv_v (fs := _) hw_3 rfl rfl rfl rfl) rfl rfl hk_13 ?_
      show Zr sc 14 25 [zp a0, zj x1] [zp p_14] w_12 ov w' c s
      obtain ⟨cn_15, fs_16, hw_17, hcn_18, h⟩ := h
      have hz_19 : ∃ kd, zinv 14 (.invokevirtual 113) [zp p_14] (false, w_12) = some (kd, 6, [zp p_14], []) ∧ decide (kd < 6) = true := by rcases hcn_18 with rfl | rfl | rfl <;> exact zinv_u hw_17 rfl rfl rfl rfl rfl rfl rfl
      obtain ⟨kd_20, hz_19⟩ := hz_19
      obtain ⟨p_23, w_21, hk_22, h⟩ := h
      refine rn_cal0 (ins := .invokevirtual 113) (rest := []) rfl rfl rfl rfl hz_19.1 rfl hz_19.2 hk_22 ?_
      show Zr sc 14 28 [zp a0, zj x1] [zp p_23] w_21 ov w' c s
      refine Zr_st (q := (29, [zp a0, zj x1], [zj x1, zp p_23])) rfl rfl rfl ?_
      show Zr sc 14 29 [zp a0, zj x1] [zj x1, zp p_23] w_21 ov w' c s
      obtain ⟨f0_25, f1_26, f2_27, f3_28, f4_29, f5_30, hw_24, h⟩ := h
      obtain ⟨r_33, w_31, hk_32, h⟩ := h
      refine rn_cal0 (ins := .invokevirtual 155) (rest := []) rfl rfl rfl rfl (zinv_v (fs := _) hw_24 rfl rfl rfl rfl) rfl rfl hk_32 ?_
      show Zr sc 14 32 [zp a0, zj x1] [zj r_33] w_31 ov w' c s
      obtain ⟨h1, h2, h3, h4⟩ := h
      subst h1; subst h2; subst h3; subst h4
      exact Zr_ret (ins := .ireturn) rfl rfl
    · replace h := h.2 hp
      show Zr sc 14 11 [zp a0, zj x1] [] w ov w' c s
      exact h.elim

-- HeapwrightLab$Blocks.nameOver(I)I
set_option maxRecDepth 100000 in
theorem V15_0 {sc : List Value} {w w' : List zE} {ov : Option Value} {c s : Nat} {a0 : Nat} {x1 : Int} (h : Zr sc 15 2 [zp a0, zj x1, zj 0, zmk] [] w ov w' c s) : Zr sc 15 0 [zp a0, zj x1, zmk, zmk] [] w ov w' c s := by
  refine rl_ic rfl ?_
  show Zr sc 15 1 [zp a0, zj x1, zmk, zmk] [zj 0] w ov w' c s
  refine Zr_st (q := (2, [zp a0, zj x1, zj 0, zmk], [])) rfl rfl rfl ?_
  show Zr sc 15 2 [zp a0, zj x1, zj 0, zmk] [] w ov w' c s
  exact h
set_option maxRecDepth 100000 in
theorem V15_2 {sc : List Value} {w w' : List zE} {ov : Option Value} {c s : Nat} {a0 : Nat} {x1 : Int} {x2 : Int} {v3 : Value} (h : (∃ f0_2 : Nat, ∃ f1_3 : Nat, ∃ f2_4 : Nat, ∃ f3_5 : Nat, ∃ f4_6 : Int, ∃ f5_7 : Int, w[a0]? = some (zob 0 [zp f0_2, zp f1_3, zp f2_4, zp f3_5, zj f4_6, zj f5_7]) ∧ ((zrg x2 ∧ zrg f4_6) ∧ ((f4_6 ≤ x2 → (ov = some (zj (-1)) ∧ w' = w ∧ c = 0 ∧ s = 0)) ∧ (¬ (f4_6 ≤ x2) → (∃ l_11 : List Int, w[f3_5]? = some (za l_11) ∧ ((0 ≤ x2 ∧ x2 < (l_11.length : Int) ∧ x2 ≤ 2147483647) ∧ (∃ r_14 : Int, ∃ w_12 : List zE, Zc sc 9 [zp a0, zj (zgi l_11 x2)] w (some (zj r_14)) w_12 0 0 ∧ ((zrg r_14 ∧ zrg x1) ∧ ((x1 < r_14 → Zr sc 15 2 [zp a0, zj x1, zj (x2 + 1), zj (zgi l_11 x2)] [] w_12 ov w' c s) ∧ (¬ (x1 < r_14) → (∃ f0_17 : Nat, ∃ f1_18 : Nat, ∃ f2_19 : Nat, ∃ f3_20 : Nat, ∃ f4_21 : Int, ∃ f5_22 : Int, w_12[a0]? = some (zob 0 [zp f0_17, zp f1_18, zp f2_19, zp f3_20, zj f4_21, zj f5_22]) ∧ (∃ r_25 : Int, ∃ w_23 : List zE, Zc sc 16 [zp a0, zj (zgi l_11 x2)] w_12 (some (zj r_25)) w_23 0 0 ∧ ((zrg x1 ∧ zrg r_25) ∧ ((r_25 ≤ x1 → Zr sc 15 2 [zp a0, zj x1, zj (x2 + 1), zj (zgi l_11 x2)] [] w_23 ov w' c s) ∧ (¬ (r_25 ≤ x1) → (ov = some (zj (zgi l_11 x2)) ∧ w' = w_23 ∧ c = 0 ∧ s = 0))))))))))))))))) : Zr sc 15 2 [zp a0, zj x1, zj x2, v3] [] w ov w' c s := by
  refine Zr_st (q := (3, [zp a0, zj x1, zj x2, v3], [zj x2])) rfl rfl rfl ?_
  show Zr sc 15 3 [zp a0, zj x1, zj x2, v3] [zj x2] w ov w' c s
  refine Zr_st (q := (4, [zp a0, zj x1, zj x2, v3], [zp a0, zj x2])) rfl rfl rfl ?_
  show Zr sc 15 4 [zp a0, zj x1, zj x2, v3] [zp a0, zj x2] w ov w' c s
  obtain ⟨f0_2, f1_3, f2_4, f3_5, f4_6, f5_7, hw_1, h⟩ := h
  refine rl_gf rfl hw_1 rfl rfl ?_
  show Zr sc 15 7 [zp a0, zj x1, zj x2, v3] [zj f4_6, zj x2] w ov w' c s
  obtain ⟨hr_8, h⟩ := h
  refine Zr_br (p := f4_6 ≤ x2) rfl rfl (zcmp_j (cnd := .ge) hr_8.1 hr_8.2) (fun hp => ?_) (fun hp => ?_)
  · replace h := h.1 hp
    show Zr sc 15 43 [zp a0, zj x1, zj x2, v3] [] w ov w' c s
    refine rl_ic rfl ?_
    show Zr sc 15 44 [zp a0, zj x1, zj x2, v3] [zj (-1)] w ov w' c s
    obtain ⟨h1, h2, h3, h4⟩ := h
    subst h1; subst h2; subst h3; subst h4
    exact Zr_ret (ins := .ireturn) rfl rfl
  · replace h := h.2 hp
    show Zr sc 15 10 [zp a0, zj x1, zj x2, v3] [] w ov w' c s
    refine Zr_st (q := (11, [zp a0, zj x1, zj x2, v3], [zp a0])) rfl rfl rfl ?_
    show Zr sc 15 11 [zp a0, zj x1, zj x2, v3] [zp a0] w ov w' c s
    refine rl_gf rfl hw_1 rfl rfl ?_
    show Zr sc 15 14 [zp a0, zj x1, zj x2, v3] [zp f3_5] w ov w' c s
    refine Zr_st (q := (15, [zp a0, zj x1, zj x2, v3], [zj x2, zp f3_5])) rfl rfl rfl ?_
    show Zr sc 15 15 [zp a0, zj x1, zj x2, v3] [zj x2, zp f3_5] w ov w' c s
    obtain ⟨l_11, hw_10, h⟩ := h
    obtain ⟨hi_9, h⟩ := h
    refine rl_ia rfl hw_10 hi_9.1 hi_9.2.1 hi_9.2.2 ?_
    show Zr sc 15 16 [zp a0, zj x1, zj x2, v3] [zj (zgi l_11 x2)] w ov w' c s
    refine Zr_st (q := (17, [zp a0, zj x1, zj x2, zj (zgi l_11 x2)], [])) rfl rfl rfl ?_
    show Zr sc 15 17 [zp a0, zj x1, zj x2, zj (zgi l_11 x2)] [] w ov w' c s
    refine Zr_st (q := (18, [zp a0, zj x1, zj x2, zj (zgi l_11 x2)], [zp a0])) rfl rfl rfl ?_
    show Zr sc 15 18 [zp a0, zj x1, zj x2, zj (zgi l_11 x2)] [zp a0] w ov w' c s
    refine Zr_st (q := (19, [zp a0, zj x1, zj x2, zj (zgi l_11 x2)], [zj (zgi l_11 x2), zp a0])) rfl rfl rfl ?_
    show Zr sc 15 19 [zp a0, zj x1, zj x2, zj (zgi l_11 x2)] [zj (zgi l_11 x2), zp a0] w ov w' c s
    obtain ⟨r_14, w_12, hk_13, h⟩ := h
    refine rn_cal0 (ins := .invokevirtual 45) (rest := []) rfl rfl rfl rfl (zinv_v (fs := _) hw_1 rfl rfl rfl rfl) rfl rfl hk_13 ?_
    show Zr sc 15 22 [zp a0, zj x1, zj x2, zj (zgi l_11 x2)] [zj r_14] w_12 ov w' c s
    refine Zr_st (q := (23, [zp a0, zj x1, zj x2, zj (zgi l_11 x2)], [zj x1, zj r_14])) rfl rfl rfl ?_
    show Zr sc 15 23 [zp a0, zj x1, zj x2, zj (zgi l_11 x2)] [zj x1, zj r_14] w_12 ov w' c s
    obtain ⟨hr_15, h⟩ := h
    refine Zr_br (p := x1 < r_14) rfl rfl (zcmp_j (cnd := .gt) hr_15.1 hr_15.2) (fun hp => ?_) (fun hp => ?_)
    · replace h := h.1 hp
      show Zr sc 15 37 [zp a0, zj x1, zj x2, zj (zgi l_11 x2)] [] w_12 ov w' c s
      refine rl_inc rfl rfl rfl rfl ?_
      show Zr sc 15 40 [zp a0, zj x1, zj (x2 + 1), zj (zgi l_11 x2)] [] w_12 ov w' c s
      refine Zr_st (q := (2, [zp a0, zj x1, zj (x2 + 1), zj (zgi l_11 x2)], [])) rfl rfl rfl ?_
      show Zr sc 15 2 [zp a0, zj x1, zj (x2 + 1), zj (zgi l_11 x2)] [] w_12 ov w' c s
      exact h
    · replace h := h.2 hp
      show Zr sc 15 26 [zp a0, zj x1, zj x2, zj (zgi l_11 x2)] [] w_12 ov w' c s
      refine Zr_st (q := (27, [zp a0, zj x1, zj x2, zj (zgi l_11 x2)], [zj x1])) rfl rfl rfl ?_
      show Zr sc 15 27 [zp a0, zj x1, zj x2, zj (zgi l_11 x2)] [zj x1] w_12 ov w' c s
      refine Zr_st (q := (28, [zp a0, zj x1, zj x2, zj (zgi l_11 x2)], [zp a0, zj x1])) rfl rfl rfl ?_
      show Zr sc 15 28 [zp a0, zj x1, zj x2, zj (zgi l_11 x2)] [zp a0, zj x1] w_12 ov w' c s
      refine Zr_st (q := (29, [zp a0, zj x1, zj x2, zj (zgi l_11 x2)], [zj (zgi l_11 x2), zp a0, zj x1])) rfl rfl rfl ?_
      show Zr sc 15 29 [zp a0, zj x1, zj x2, zj (zgi l_11 x2)] [zj (zgi l_11 x2), zp a0, zj x1] w_12 ov w' c s
      obtain ⟨f0_17, f1_18, f2_19, f3_20, f4_21, f5_22, hw_16, h⟩ := h
      obtain ⟨r_25, w_23, hk_24, h⟩ := h
      refine rn_cal0 (ins := .invokevirtual 48) (rest := [zj x1]) rfl rfl rfl rfl (zinv_v (fs := _) hw_16 rfl rfl rfl rfl) rfl rfl hk_24 ?_
      show Zr sc 15 32 [zp a0, zj x1, zj x2, zj (zgi l_11 x2)] [zj r_25, zj x1] w_23 ov w' c s
      obtain ⟨hr_26, h⟩ := h
      refine Zr_br (p := r_25 ≤ x1) rfl rfl (zcmp_j (cnd := .ge) hr_26.1 hr_26.2) (fun hp => ?_) (fun hp => ?_)
      · replace h := h.1 hp
        show Zr sc 15 37 [zp a0, zj x1, zj x2, zj (zgi l_11 x2)] [] w_23 ov w' c s
        refine rl_inc rfl rfl rfl rfl ?_
        show Zr sc 15 40 [zp a0, zj x1, zj (x2 + 1), zj (zgi l_11 x2)] [] w_23 ov w' c s
        refine Zr_st (q := (2, [zp a0, zj x1, zj (x2 + 1), zj (zgi l_11 x2)], [])) rfl rfl rfl ?_
        show Zr sc 15 2 [zp a0, zj x1, zj (x2 + 1), zj (zgi l_11 x2)] [] w_23 ov w' c s
        exact h
      · replace h := h.2 hp
        show Zr sc 15 35 [zp a0, zj x1, zj x2, zj (zgi l_11 x2)] [] w_23 ov w' c s
        refine Zr_st (q := (36, [zp a0, zj x1, zj x2, zj (zgi l_11 x2)], [zj (zgi l_11 x2)])) rfl rfl rfl ?_
        show Zr sc 15 36 [zp a0, zj x1, zj x2, zj (zgi l_11 x2)] [zj (zgi l_11 x2)] w_23 ov w' c s
        obtain ⟨h1, h2, h3, h4⟩ := h
        subst h1; subst h2; subst h3; subst h4
        exact Zr_ret (ins := .ireturn) rfl rfl

-- HeapwrightLab$Blocks.endOf(I)I
set_option maxRecDepth 100000 in
theorem V16_0 {sc : List Value} {w w' : List zE} {ov : Option Value} {c s : Nat} {a0 : Nat} {x1 : Int} (h : (∃ f0_2 : Nat, ∃ f1_3 : Nat, ∃ f2_4 : Nat, ∃ f3_5 : Nat, ∃ f4_6 : Int, ∃ f5_7 : Int, w[a0]? = some (zob 0 [zp f0_2, zp f1_3, zp f2_4, zp f3_5, zj f4_6, zj f5_7]) ∧ (∃ r_10 : Int, ∃ w_8 : List zE, Zc sc 7 [zp a0, zj x1] w (some (zj r_10)) w_8 0 0 ∧ ((zrg r_10) ∧ ((r_10 = 0 → (ov = some (zj (-1)) ∧ w' = w_8 ∧ c = 0 ∧ s = 0)) ∧ (¬ (r_10 = 0) → (∃ f0_13 : Nat, ∃ f1_14 : Nat, ∃ f2_15 : Nat, ∃ f3_16 : Nat, ∃ f4_17 : Int, ∃ f5_18 : Int, w_8[a0]? = some (zob 0 [zp f0_13, zp f1_14, zp f2_15, zp f3_16, zj f4_17, zj f5_18]) ∧ (∃ l_21 : List Int, w_8[f0_13]? = some (za l_21) ∧ ((0 ≤ x1 ∧ x1 < (l_21.length : Int) ∧ x1 ≤ 2147483647) ∧ (∃ l_24 : List Int, w_8[f2_15]? = some (za l_24) ∧ ((0 ≤ x1 ∧ x1 < (l_24.length : Int) ∧ x1 ≤ 2147483647) ∧ (ov = some (zj ((zgi l_21 x1) + (zgi l_24 x1))) ∧ w' = w_8 ∧ c = 0 ∧ s = 0)))))))))))) : Zr sc 16 0 [zp a0, zj x1] [] w ov w' c s := by
  refine Zr_st (q := (1, [zp a0, zj x1], [zp a0])) rfl rfl rfl ?_
  show Zr sc 16 1 [zp a0, zj x1] [zp a0] w ov w' c s
  refine Zr_st (q := (2, [zp a0, zj x1], [zj x1, zp a0])) rfl rfl rfl ?_
  show Zr sc 16 2 [zp a0, zj x1] [zj x1, zp a0] w ov w' c s
  obtain ⟨f0_2, f1_3, f2_4, f3_5, f4_6, f5_7, hw_1, h⟩ := h
  obtain ⟨r_10, w_8, hk_9, h⟩ := h
  refine rn_cal0 (ins := .invokevirtual 37) (rest := []) rfl rfl rfl rfl (zinv_v (fs := _) hw_1 rfl rfl rfl rfl) rfl rfl hk_9 ?_
  show Zr sc 16 5 [zp a0, zj x1] [zj r_10] w_8 ov w' c s
  obtain ⟨hr_11, h⟩ := h
  refine Zr_b0 (p := r_10 = 0) rfl rfl (zcmp_0 (cnd := .eq) hr_11) (fun hp => ?_) (fun hp => ?_)
  · replace h := h.1 hp
    show Zr sc 16 24 [zp a0, zj x1] [] w_8 ov w' c s
    refine rl_ic rfl ?_
    show Zr sc 16 25 [zp a0, zj x1] [zj (-1)] w_8 ov w' c s
    obtain ⟨h1, h2, h3, h4⟩ := h
    subst h1; subst h2; subst h3; subst h4
    exact Zr_ret (ins := .ireturn) rfl rfl
  · replace h := h.2 hp
    show Zr sc 16 8 [zp a0, zj x1] [] w_8 ov w' c s
    refine Zr_st (q := (9, [zp a0, zj x1], [zp a0])) rfl rfl rfl ?_
    show Zr sc 16 9 [zp a0, zj x1] [zp a0] w_8 ov w' c s
    obtain ⟨f0_13, f1_14, f2_15, f3_16, f4_17, f5_18, hw_12, h⟩ := h
    refine rl_gf rfl hw_12 rfl rfl ?_
    show Zr sc 16 12 [zp a0, zj x1] [zp f0_13] w_8 ov w' c s
    refine Zr_st (q := (13, [zp a0, zj x1], [zj x1, zp f0_13])) rfl rfl rfl ?_
    show Zr sc 16 13 [zp a0, zj x1] [zj x1, zp f0_13] w_8 ov w' c s
    obtain ⟨l_21, hw_20, h⟩ := h
    obtain ⟨hi_19, h⟩ := h
    refine rl_ia rfl hw_20 hi_19.1 hi_19.2.1 hi_19.2.2 ?_
    show Zr sc 16 14 [zp a0, zj x1] [zj (zgi l_21 x1)] w_8 ov w' c s
    refine Zr_st (q := (15, [zp a0, zj x1], [zp a0, zj (zgi l_21 x1)])) rfl rfl rfl ?_
    show Zr sc 16 15 [zp a0, zj x1] [zp a0, zj (zgi l_21 x1)] w_8 ov w' c s
    refine rl_gf rfl hw_12 rfl rfl ?_
    show Zr sc 16 18 [zp a0, zj x1] [zp f2_15, zj (zgi l_21 x1)] w_8 ov w' c s
    refine Zr_st (q := (19, [zp a0, zj x1], [zj x1, zp f2_15, zj (zgi l_21 x1)])) rfl rfl rfl ?_
    show Zr sc 16 19 [zp a0, zj x1] [zj x1, zp f2_15, zj (zgi l_21 x1)] w_8 ov w' c s
    obtain ⟨l_24, hw_23, h⟩ := h
    obtain ⟨hi_22, h⟩ := h
    refine rl_ia rfl hw_23 hi_22.1 hi_22.2.1 hi_22.2.2 ?_
    show Zr sc 16 20 [zp a0, zj x1] [zj (zgi l_24 x1), zj (zgi l_21 x1)] w_8 ov w' c s
    refine rl_add rfl ?_
    show Zr sc 16 21 [zp a0, zj x1] [zj ((zgi l_21 x1) + (zgi l_24 x1))] w_8 ov w' c s
    refine Zr_st (q := (25, [zp a0, zj x1], [zj ((zgi l_21 x1) + (zgi l_24 x1))])) rfl rfl rfl ?_
    show Zr sc 16 25 [zp a0, zj x1] [zj ((zgi l_21 x1) + (zgi l_24 x1))] w_8 ov w' c s
    obtain ⟨h1, h2, h3, h4⟩ := h
    subst h1; subst h2; subst h3; subst h4
    exact Zr_ret (ins := .ireturn) rfl rfl

-- HeapwrightLab.blocks()I
set_option maxRecDepth 100000 in
theorem V17_0 {sc : List Value} {w w' : List zE} {ov : Option Value} {c s : Nat} {a0 : Nat} (h : (∃ f0_2 : Nat, ∃ f1_3 : Nat, ∃ f2_4 : Nat, ∃ f3_5 : Nat, ∃ f4_6 : Nat, ∃ f5_7 : Nat, ∃ f6_8 : Nat, ∃ f7_9 : Int, w[a0]? = some (zob 6 [zp f0_2, zp f1_3, zp f2_4, zp f3_5, zp f4_6, zp f5_7, zp f6_8, zj f7_9]) ∧ (∃ p_12 : Nat, ∃ w_10 : List zE, Zc sc 1 [zp a0] w (some (zp p_12)) w_10 0 0 ∧ (∃ cn_13 : Nat, ∃ fs_14 : List Value, w_10[p_12]? = some (zob cn_13 fs_14) ∧ (cn_13 = 1 ∨ cn_13 = 2 ∨ cn_13 = 4) ∧ (∃ p_21 : Nat, ∃ w_19 : List zE, Zc sc 6 [zp p_12] w_10 (some (zp p_21)) w_19 0 0 ∧ (∃ f0_23 : Nat, ∃ f1_24 : Nat, ∃ f2_25 : Nat, ∃ f3_26 : Nat, ∃ f4_27 : Int, ∃ f5_28 : Int, w_19[p_21]? = some (zob 0 [zp f0_23, zp f1_24, zp f2_25, zp f3_26, zj f4_27, zj f5_28]) ∧ (∃ r_31 : Int, ∃ w_29 : List zE, Zc sc 18 [zp p_21] w_19 (some (zj r_31)) w_29 0 0 ∧ (ov = some (zj r_31) ∧ w' = w_29 ∧ c = 0 ∧ s = 0)))))))) : Zr sc 17 0 [zp a0] [] w ov w' c s := by
  refine Zr_st (q := (1, [zp a0], [zp a0])) rfl rfl rfl ?_
  show Zr sc 17 1 [zp a0] [zp a0] w ov w' c s
  obtain ⟨f0_2, f1_3, f2_4, f3_5, f4_6, f5_7, f6_8, f7_9, hw_1, h⟩ := h
  obtain ⟨p_12, w_10, hk_11, h⟩ := h
  refine rn_cal0 (ins := .invokevirtual 83) (rest := []) rfl rfl rfl rfl (zinv_v (fs := _) hw_1 rfl rfl rfl rfl) rfl rfl hk_11 ?_
  show Zr sc 17 4 [zp a0] [zp p_12] w_10 ov w' c s
  obtain ⟨cn_13, fs_14, hw_15, hcn_16, h⟩ := h
  have hz_17 : ∃ kd, zinv 17 (.invokevirtual 113) [zp p_12] (false, w_10) = some (kd, 6, [zp p_12], []) ∧ decide (kd < 6) = true := by rcases hcn_16 with rfl | rfl | rfl <;> exact zinv_u hw_15 rfl rfl rfl rfl rfl rfl rfl
  obtain ⟨kd_18, hz_17⟩ := hz_17
  obtain ⟨p_21, w_19, hk_20, h⟩ := h
  refine rn_cal0 (ins := .invokevirtual 113) (rest := []) rfl rfl rfl rfl hz_17.1 rfl hz_17.2 hk_20 ?_
  show Zr sc 17 7 [zp a0] [zp p_21] w_19 ov w' c s
  obtain ⟨f0_23, f1_24, f2_25, f3_26, f4_27, f5_28, hw_22, h⟩ := h
  obtain ⟨r_31, w_29, hk_30, h⟩ := h
  refine rn_cal0 (ins := .invokevirtual 138) (rest := []) rfl rfl rfl rfl (zinv_v (fs := _) hw_22 rfl rfl rfl rfl) rfl rfl hk_30 ?_
  show Zr sc 17 10 [zp a0] [zj r_31] w_29 ov w' c s
  obtain ⟨h1, h2, h3, h4⟩ := h
  subst h1; subst h2; subst h3; subst h4
  exact Zr_ret (ins := .ireturn) rfl rfl

-- HeapwrightLab$Blocks.howMany()I
set_option maxRecDepth 100000 in
theorem V18_0 {sc : List Value} {w w' : List zE} {ov : Option Value} {c s : Nat} {a0 : Nat} (h : (∃ f0_2 : Nat, ∃ f1_3 : Nat, ∃ f2_4 : Nat, ∃ f3_5 : Nat, ∃ f4_6 : Int, ∃ f5_7 : Int, w[a0]? = some (zob 0 [zp f0_2, zp f1_3, zp f2_4, zp f3_5, zj f4_6, zj f5_7]) ∧ (ov = some (zj f4_6) ∧ w' = w ∧ c = 0 ∧ s = 0))) : Zr sc 18 0 [zp a0] [] w ov w' c s := by
  refine Zr_st (q := (1, [zp a0], [zp a0])) rfl rfl rfl ?_
  show Zr sc 18 1 [zp a0] [zp a0] w ov w' c s
  obtain ⟨f0_2, f1_3, f2_4, f3_5, f4_6, f5_7, hw_1, h⟩ := h
  refine rl_gf rfl hw_1 rfl rfl ?_
  show Zr sc 18 4 [zp a0] [zj f4_6] w ov w' c s
  obtain ⟨h1, h2, h3, h4⟩ := h
  subst h1; subst h2; subst h3; subst h4
  exact Zr_ret (ins := .ireturn) rfl rfl

-- HeapwrightLab.holes()I
set_option maxRecDepth 100000 in
theorem V19_0 {sc : List Value} {w w' : List zE} {ov : Option Value} {c s : Nat} {a0 : Nat} (h : (∃ f0_2 : Nat, ∃ f1_3 : Nat, ∃ f2_4 : Nat, ∃ f3_5 : Nat, ∃ f4_6 : Nat, ∃ f5_7 : Nat, ∃ f6_8 : Nat, ∃ f7_9 : Int, w[a0]? = some (zob 6 [zp f0_2, zp f1_3, zp f2_4, zp f3_5, zp f4_6, zp f5_7, zp f6_8, zj f7_9]) ∧ (∃ p_12 : Nat, ∃ w_10 : List zE, Zc sc 1 [zp a0] w (some (zp p_12)) w_10 0 0 ∧ (∃ cn_13 : Nat, ∃ fs_14 : List Value, w_10[p_12]? = some (zob cn_13 fs_14) ∧ (cn_13 = 1 ∨ cn_13 = 2 ∨ cn_13 = 4) ∧ (∃ p_21 : Nat, ∃ w_19 : List zE, Zc sc 20 [zp p_12] w_10 (some (zp p_21)) w_19 0 0 ∧ (∃ f0_23 : Nat, ∃ f1_24 : Nat, ∃ f2_25 : Int, w_19[p_21]? = some (zob 3 [zp f0_23, zp f1_24, zj f2_25]) ∧ (∃ r_28 : Int, ∃ w_26 : List zE, Zc sc 21 [zp p_21] w_19 (some (zj r_28)) w_26 0 0 ∧ (ov = some (zj r_28) ∧ w' = w_26 ∧ c = 0 ∧ s = 0)))))))) : Zr sc 19 0 [zp a0] [] w ov w' c s := by
  refine Zr_st (q := (1, [zp a0], [zp a0])) rfl rfl rfl ?_
  show Zr sc 19 1 [zp a0] [zp a0] w ov w' c s
  obtain ⟨f0_2, f1_3, f2_4, f3_5, f4_6, f5_7, f6_8, f7_9, hw_1, h⟩ := h
  obtain ⟨p_12, w_10, hk_11, h⟩ := h
  refine rn_cal0 (ins := .invokevirtual 83) (rest := []) rfl rfl rfl rfl (zinv_v (fs := _) hw_1 rfl rfl rfl rfl) rfl rfl hk_11 ?_
  show Zr sc 19 4 [zp a0] [zp p_12] w_10 ov w' c s
  obtain ⟨cn_13, fs_14, hw_15, hcn_16, h⟩ := h
  have hz_17 : ∃ kd, zinv 19 (.invokevirtual 158) [zp p_12] (false, w_10) = some (kd, 20, [zp p_12], []) ∧ decide (kd < 6) = true := by rcases hcn_16 with rfl | rfl | rfl <;> exact zinv_u hw_15 rfl rfl rfl rfl rfl rfl rfl
  obtain ⟨kd_18, hz_17⟩ := hz_17
  obtain ⟨p_21, w_19, hk_20, h⟩ := h
  refine rn_cal0 (ins := .invokevirtual 158) (rest := []) rfl rfl rfl rfl hz_17.1 rfl hz_17.2 hk_20 ?_
  show Zr sc 19 7 [zp a0] [zp p_21] w_19 ov w' c s
  obtain ⟨f0_23, f1_24, f2_25, hw_22, h⟩ := h
  obtain ⟨r_28, w_26, hk_27, h⟩ := h
  refine rn_cal0 (ins := .invokevirtual 162) (rest := []) rfl rfl rfl rfl (zinv_v (fs := _) hw_22 rfl rfl rfl rfl) rfl rfl hk_27 ?_
  show Zr sc 19 10 [zp a0] [zj r_28] w_26 ov w' c s
  obtain ⟨h1, h2, h3, h4⟩ := h
  subst h1; subst h2; subst h3; subst h4
  exact Zr_ret (ins := .ireturn) rfl rfl

-- HeapwrightLab$Memory.gaps()LHeapwrightLab$Holes;
set_option maxRecDepth 100000 in
theorem V20_0_1 {sc : List Value} {w w' : List zE} {ov : Option Value} {c s : Nat} {a0 : Nat} (h : (∃ f0_2 : Nat, ∃ f1_3 : Nat, ∃ f2_4 : Int, ∃ f3_5 : Int, ∃ f4_6 : Int, ∃ f5_7 : Int, ∃ f6_8 : Int, ∃ f7_9 : Nat, ∃ f8_10 : Nat, ∃ f9_11 : Int, ∃ f10_12 : Int, ∃ f11_13 : Int, ∃ f12_14 : Int, w[a0]? = some (zob 1 [zp f0_2, zp f1_3, zj f2_4, zj f3_5, zj f4_6, zj f5_7, zj f6_8, zp f7_9, zp f8_10, zj f9_11, zj f10_12, zj f11_13, zj f12_14]) ∧ (ov = some (zp f1_3) ∧ w' = w ∧ c = 0 ∧ s = 0))) : Zr sc 20 0 [zp a0] [] w ov w' c s := by
  refine Zr_st (q := (1, [zp a0], [zp a0])) rfl rfl rfl ?_
  show Zr sc 20 1 [zp a0] [zp a0] w ov w' c s
  obtain ⟨f0_2, f1_3, f2_4, f3_5, f4_6, f5_7, f6_8, f7_9, f8_10, f9_11, f10_12, f11_13, f12_14, hw_1, h⟩ := h
  refine rl_gf rfl hw_1 rfl rfl ?_
  show Zr sc 20 4 [zp a0] [zp f1_3] w ov w' c s
  obtain ⟨h1, h2, h3, h4⟩ := h
  subst h1; subst h2; subst h3; subst h4
  exact Zr_ret (ins := .areturn) rfl rfl

-- HeapwrightLab$Memory.gaps()LHeapwrightLab$Holes;
set_option maxRecDepth 100000 in
theorem V20_0_2 {sc : List Value} {w w' : List zE} {ov : Option Value} {c s : Nat} {a0 : Nat} (h : (∃ f0_2 : Nat, ∃ f1_3 : Nat, ∃ f2_4 : Int, ∃ f3_5 : Int, ∃ f4_6 : Int, ∃ f5_7 : Int, ∃ f6_8 : Int, ∃ f7_9 : Nat, ∃ f8_10 : Nat, ∃ f9_11 : Int, ∃ f10_12 : Int, ∃ f11_13 : Int, ∃ f12_14 : Int, w[a0]? = some (zob 2 [zp f0_2, zp f1_3, zj f2_4, zj f3_5, zj f4_6, zj f5_7, zj f6_8, zp f7_9, zp f8_10, zj f9_11, zj f10_12, zj f11_13, zj f12_14]) ∧ (ov = some (zp f1_3) ∧ w' = w ∧ c = 0 ∧ s = 0))) : Zr sc 20 0 [zp a0] [] w ov w' c s := by
  refine Zr_st (q := (1, [zp a0], [zp a0])) rfl rfl rfl ?_
  show Zr sc 20 1 [zp a0] [zp a0] w ov w' c s
  obtain ⟨f0_2, f1_3, f2_4, f3_5, f4_6, f5_7, f6_8, f7_9, f8_10, f9_11, f10_12, f11_13, f12_14, hw_1, h⟩ := h
  refine rl_gf rfl hw_1 rfl rfl ?_
  show Zr sc 20 4 [zp a0] [zp f1_3] w ov w' c s
  obtain ⟨h1, h2, h3, h4⟩ := h
  subst h1; subst h2; subst h3; subst h4
  exact Zr_ret (ins := .areturn) rfl rfl

-- HeapwrightLab$Memory.gaps()LHeapwrightLab$Holes;
set_option maxRecDepth 100000 in
theorem V20_0_4 {sc : List Value} {w w' : List zE} {ov : Option Value} {c s : Nat} {a0 : Nat} (h : (∃ f0_2 : Nat, ∃ f1_3 : Nat, ∃ f2_4 : Int, ∃ f3_5 : Int, ∃ f4_6 : Int, ∃ f5_7 : Int, ∃ f6_8 : Int, ∃ f7_9 : Nat, ∃ f8_10 : Nat, ∃ f9_11 : Int, ∃ f10_12 : Int, ∃ f11_13 : Int, ∃ f12_14 : Int, ∃ f13_15 : Nat, w[a0]? = some (zob 4 [zp f0_2, zp f1_3, zj f2_4, zj f3_5, zj f4_6, zj f5_7, zj f6_8, zp f7_9, zp f8_10, zj f9_11, zj f10_12, zj f11_13, zj f12_14, zp f13_15]) ∧ (ov = some (zp f1_3) ∧ w' = w ∧ c = 0 ∧ s = 0))) : Zr sc 20 0 [zp a0] [] w ov w' c s := by
  refine Zr_st (q := (1, [zp a0], [zp a0])) rfl rfl rfl ?_
  show Zr sc 20 1 [zp a0] [zp a0] w ov w' c s
  obtain ⟨f0_2, f1_3, f2_4, f3_5, f4_6, f5_7, f6_8, f7_9, f8_10, f9_11, f10_12, f11_13, f12_14, f13_15, hw_1, h⟩ := h
  refine rl_gf rfl hw_1 rfl rfl ?_
  show Zr sc 20 4 [zp a0] [zp f1_3] w ov w' c s
  obtain ⟨h1, h2, h3, h4⟩ := h
  subst h1; subst h2; subst h3; subst h4
  exact Zr_ret (ins := .areturn) rfl rfl

-- HeapwrightLab$Holes.howMany()I
set_option maxRecDepth 100000 in
theorem V21_0 {sc : List Value} {w w' : List zE} {ov : Option Value} {c s : Nat} {a0 : Nat} (h : (∃ f0_2 : Nat, ∃ f1_3 : Nat, ∃ f2_4 : Int, w[a0]? = some (zob 3 [zp f0_2, zp f1_3, zj f2_4]) ∧ (ov = some (zj f2_4) ∧ w' = w ∧ c = 0 ∧ s = 0))) : Zr sc 21 0 [zp a0] [] w ov w' c s := by
  refine Zr_st (q := (1, [zp a0], [zp a0])) rfl rfl rfl ?_
  show Zr sc 21 1 [zp a0] [zp a0] w ov w' c s
  obtain ⟨f0_2, f1_3, f2_4, hw_1, h⟩ := h
  refine rl_gf rfl hw_1 rfl rfl ?_
  show Zr sc 21 4 [zp a0] [zj f2_4] w ov w' c s
  obtain ⟨h1, h2, h3, h4⟩ := h
  subst h1; subst h2; subst h3; subst h4
  exact Zr_ret (ins := .ireturn) rfl rfl

-- HeapwrightLab.holePlace(I)I
set_option maxRecDepth 100000 in
theorem V22_0 {sc : List Value} {w w' : List zE} {ov : Option Value} {c s : Nat} {a0 : Nat} {x1 : Int} (h : (∃ f0_2 : Nat, ∃ f1_3 : Nat, ∃ f2_4 : Nat, ∃ f3_5 : Nat, ∃ f4_6 : Nat, ∃ f5_7 : Nat, ∃ f6_8 : Nat, ∃ f7_9 : Int, w[a0]? = some (zob 6 [zp f0_2, zp f1_3, zp f2_4, zp f3_5, zp f4_6, zp f5_7, zp f6_8, zj f7_9]) ∧ (∃ w_10 : List zE, Zc sc 23 [zp a0, zj x1] w none w_10 0 0 ∧ (∃ f0_13 : Nat, ∃ f1_14 : Nat, ∃ f2_15 : Nat, ∃ f3_16 : Nat, ∃ f4_17 : Nat, ∃ f5_18 : Nat, ∃ f6_19 : Nat, ∃ f7_20 : Int, w_10[a0]? = some (zob 6 [zp f0_13, zp f1_14, zp f2_15, zp f3_16, zp f4_17, zp f5_18, zp f6_19, zj f7_20]) ∧ (∃ p_23 : Nat, ∃ w_21 : List zE, Zc sc 1 [zp a0] w_10 (some (zp p_23)) w_21 0 0 ∧ (∃ cn_24 : Nat, ∃ fs_25 : List Value, w_21[p_23]? = some (zob cn_24 fs_25) ∧ (cn_24 = 1 ∨ cn_24 = 2 ∨ cn_24 = 4) ∧ (∃ p_32 : Nat, ∃ w_30 : List zE, Zc sc 20 [zp p_23] w_21 (some (zp p_32)) w_30 0 0 ∧ (∃ f0_34 : Nat, ∃ f1_35 : Nat, ∃ f2_36 : Int, w_30[p_32]? = some (zob 3 [zp f0_34, zp f1_35, zj f2_36]) ∧ (∃ r_39 : Int, ∃ w_37 : List zE, Zc sc 24 [zp p_32, zj x1] w_30 (some (zj r_39)) w_37 0 0 ∧ (ov = some (zj r_39) ∧ w' = w_37 ∧ c = 0 ∧ s = 0)))))))))) : Zr sc 22 0 [zp a0, zj x1] [] w ov w' c s := by
  refine Zr_st (q := (1, [zp a0, zj x1], [zp a0])) rfl rfl rfl ?_
  show Zr sc 22 1 [zp a0, zj x1] [zp a0] w ov w' c s
  refine Zr_st (q := (2, [zp a0, zj x1], [zj x1, zp a0])) rfl rfl rfl ?_
  show Zr sc 22 2 [zp a0, zj x1] [zj x1, zp a0] w ov w' c s
  obtain ⟨f0_2, f1_3, f2_4, f3_5, f4_6, f5_7, f6_8, f7_9, hw_1, h⟩ := h
  obtain ⟨w_10, hk_11, h⟩ := h
  refine rn_cal0 (ins := .invokevirtual 165) (rest := []) rfl rfl rfl rfl (zinv_v (fs := _) hw_1 rfl rfl rfl rfl) rfl rfl hk_11 ?_
  show Zr sc 22 5 [zp a0, zj x1] [] w_10 ov w' c s
  refine Zr_st (q := (6, [zp a0, zj x1], [zp a0])) rfl rfl rfl ?_
  show Zr sc 22 6 [zp a0, zj x1] [zp a0] w_10 ov w' c s
  obtain ⟨f0_13, f1_14, f2_15, f3_16, f4_17, f5_18, f6_19, f7_20, hw_12, h⟩ := h
  obtain ⟨p_23, w_21, hk_22, h⟩ := h
  refine rn_cal0 (ins := .invokevirtual 83) (rest := []) rfl rfl rfl rfl (zinv_v (fs := _) hw_12 rfl rfl rfl rfl) rfl rfl hk_22 ?_
  show Zr sc 22 9 [zp a0, zj x1] [zp p_23] w_21 ov w' c s
  obtain ⟨cn_24, fs_25, hw_26, hcn_27, h⟩ := h
  have hz_28 : ∃ kd, zinv 22 (.invokevirtual 158) [zp p_23] (false, w_21) = some (kd, 20, [zp p_23], []) ∧ decide (kd < 6) = true := by rcases hcn_27 with rfl | rfl | rfl <;> exact zinv_u hw_26 rfl rfl rfl rfl rfl rfl rfl
  obtain ⟨kd_29, hz_28⟩ := hz_28
  obtain ⟨p_32, w_30, hk_31, h⟩ := h
  refine rn_cal0 (ins := .invokevirtual 158) (rest := []) rfl rfl rfl rfl hz_28.1 rfl hz_28.2 hk_31 ?_
  show Zr sc 22 12 [zp a0, zj x1] [zp p_32] w_30 ov w' c s
  refine Zr_st (q := (13, [zp a0, zj x1], [zj x1, zp p_32])) rfl rfl rfl ?_
  show Zr sc 22 13 [zp a0, zj x1] [zj x1, zp p_32] w_30 ov w' c s
  obtain ⟨f0_34, f1_35, f2_36, hw_33, h⟩ := h
  obtain ⟨r_39, w_37, hk_38, h⟩ := h
  refine rn_cal0 (ins := .invokevirtual 168) (rest := []) rfl rfl rfl rfl (zinv_v (fs := _) hw_33 rfl rfl rfl rfl) rfl rfl hk_38 ?_
  show Zr sc 22 16 [zp a0, zj x1] [zj r_39] w_37 ov w' c s
  obtain ⟨h1, h2, h3, h4⟩ := h
  subst h1; subst h2; subst h3; subst h4
  exact Zr_ret (ins := .ireturn) rfl rfl

-- HeapwrightLab.requireHole(I)V
set_option maxRecDepth 100000 in
theorem V23_0 {sc : List Value} {w w' : List zE} {ov : Option Value} {c s : Nat} {a0 : Nat} {x1 : Int} (h : ((zrg x1) ∧ ((x1 < 0 → False) ∧ (¬ (x1 < 0) → (∃ f0_3 : Nat, ∃ f1_4 : Nat, ∃ f2_5 : Nat, ∃ f3_6 : Nat, ∃ f4_7 : Nat, ∃ f5_8 : Nat, ∃ f6_9 : Nat, ∃ f7_10 : Int, w[a0]? = some (zob 6 [zp f0_3, zp f1_4, zp f2_5, zp f3_6, zp f4_7, zp f5_8, zp f6_9, zj f7_10]) ∧ (∃ p_13 : Nat, ∃ w_11 : List zE, Zc sc 1 [zp a0] w (some (zp p_13)) w_11 0 0 ∧ (∃ cn_14 : Nat, ∃ fs_15 : List Value, w_11[p_13]? = some (zob cn_14 fs_15) ∧ (cn_14 = 1 ∨ cn_14 = 2 ∨ cn_14 = 4) ∧ (∃ p_22 : Nat, ∃ w_20 : List zE, Zc sc 20 [zp p_13] w_11 (some (zp p_22)) w_20 0 0 ∧ (∃ f0_24 : Nat, ∃ f1_25 : Nat, ∃ f2_26 : Int, w_20[p_22]? = some (zob 3 [zp f0_24, zp f1_25, zj f2_26]) ∧ (∃ r_29 : Int, ∃ w_27 : List zE, Zc sc 21 [zp p_22] w_20 (some (zj r_29)) w_27 0 0 ∧ ((zrg x1 ∧ zrg r_29) ∧ ((x1 < r_29 → (ov = none ∧ w' = w_27 ∧ c = 0 ∧ s = 0)) ∧ (¬ (x1 < r_29) → False))))))))))))) : Zr sc 23 0 [zp a0, zj x1] [] w ov w' c s := by
  refine Zr_st (q := (1, [zp a0, zj x1], [zj x1])) rfl rfl rfl ?_
  show Zr sc 23 1 [zp a0, zj x1] [zj x1] w ov w' c s
  obtain ⟨hr_1, h⟩ := h
  refine Zr_b0 (p := x1 < 0) rfl rfl (zcmp_0 (cnd := .lt) hr_1) (fun hp => ?_) (fun hp => ?_)
  · replace h := h.1 hp
    show Zr sc 23 18 [zp a0, zj x1] [] w ov w' c s
    exact h.elim
  · replace h := h.2 hp
    show Zr sc 23 4 [zp a0, zj x1] [] w ov w' c s
    refine Zr_st (q := (5, [zp a0, zj x1], [zj x1])) rfl rfl rfl ?_
    show Zr sc 23 5 [zp a0, zj x1] [zj x1] w ov w' c s
    refine Zr_st (q := (6, [zp a0, zj x1], [zp a0, zj x1])) rfl rfl rfl ?_
    show Zr sc 23 6 [zp a0, zj x1] [zp a0, zj x1] w ov w' c s
    obtain ⟨f0_3, f1_4, f2_5, f3_6, f4_7, f5_8, f6_9, f7_10, hw_2, h⟩ := h
    obtain ⟨p_13, w_11, hk_12, h⟩ := h
    refine rn_cal0 (ins := .invokevirtual 83) (rest := [zj x1]) rfl rfl rfl rfl (zinv_v (fs := _) hw_2 rfl rfl rfl rfl) rfl rfl hk_12 ?_
    show Zr sc 23 9 [zp a0, zj x1] [zp p_13, zj x1] w_11 ov w' c s
    obtain ⟨cn_14, fs_15, hw_16, hcn_17, h⟩ := h
    have hz_18 : ∃ kd, zinv 23 (.invokevirtual 158) [zp p_13, zj x1] (false, w_11) = some (kd, 20, [zp p_13], [zj x1]) ∧ decide (kd < 6) = true := by rcases hcn_17 with rfl | rfl | rfl <;> exact zinv_u hw_16 rfl rfl rfl rfl rfl rfl rfl
    obtain ⟨kd_19, hz_18⟩ := hz_18
    obtain ⟨p_22, w_20, hk_21, h⟩ := h
    refine rn_cal0 (ins := .invokevirtual 158) (rest := [zj x1]) rfl rfl rfl rfl hz_18.1 rfl hz_18.2 hk_21 ?_
    show Zr sc 23 12 [zp a0, zj x1] [zp p_22, zj x1] w_20 ov w' c s
    obtain ⟨f0_24, f1_25, f2_26, hw_23, h⟩ := h
    obtain ⟨r_29, w_27, hk_28, h⟩ := h
    refine rn_cal0 (ins := .invokevirtual 162) (rest := [zj x1]) rfl rfl rfl rfl (zinv_v (fs := _) hw_23 rfl rfl rfl rfl) rfl rfl hk_28 ?_
    show Zr sc 23 15 [zp a0, zj x1] [zj r_29, zj x1] w_27 ov w' c s
    obtain ⟨hr_30, h⟩ := h
    refine Zr_br (p := x1 < r_29) rfl rfl (zcmp_j (cnd := .lt) hr_30.1 hr_30.2) (fun hp => ?_) (fun hp => ?_)
    · replace h := h.1 hp
      show Zr sc 23 28 [zp a0, zj x1] [] w_27 ov w' c s
      obtain ⟨h1, h2, h3, h4⟩ := h
      subst h1; subst h2; subst h3; subst h4
      exact Zr_ret (ins := .return_) rfl rfl
    · replace h := h.2 hp
      show Zr sc 23 18 [zp a0, zj x1] [] w_27 ov w' c s
      exact h.elim

-- HeapwrightLab$Holes.placeOf(I)I
set_option maxRecDepth 100000 in
theorem V24_0 {sc : List Value} {w w' : List zE} {ov : Option Value} {c s : Nat} {a0 : Nat} {x1 : Int} (h : ((zrg x1) ∧ ((x1 < 0 → (ov = some (zj (-1)) ∧ w' = w ∧ c = 0 ∧ s = 0)) ∧ (¬ (x1 < 0) → (∃ f0_3 : Nat, ∃ f1_4 : Nat, ∃ f2_5 : Int, w[a0]? = some (zob 3 [zp f0_3, zp f1_4, zj f2_5]) ∧ ((zrg x1 ∧ zrg f2_5) ∧ ((f2_5 ≤ x1 → (ov = some (zj (-1)) ∧ w' = w ∧ c = 0 ∧ s = 0)) ∧ (¬ (f2_5 ≤ x1) → (∃ l_9 : List Int, w[f0_3]? = some (za l_9) ∧ ((0 ≤ x1 ∧ x1 < (l_9.length : Int) ∧ x1 ≤ 2147483647) ∧ (ov = some (zj (zgi l_9 x1)) ∧ w' = w ∧ c = 0 ∧ s = 0))))))))))) : Zr sc 24 0 [zp a0, zj x1] [] w ov w' c s := by
  refine Zr_st (q := (1, [zp a0, zj x1], [zj x1])) rfl rfl rfl ?_
  show Zr sc 24 1 [zp a0, zj x1] [zj x1] w ov w' c s
  obtain ⟨hr_1, h⟩ := h
  refine Zr_b0 (p := x1 < 0) rfl rfl (zcmp_0 (cnd := .lt) hr_1) (fun hp => ?_) (fun hp => ?_)
  · replace h := h.1 hp
    show Zr sc 24 21 [zp a0, zj x1] [] w ov w' c s
    refine rl_ic rfl ?_
    show Zr sc 24 22 [zp a0, zj x1] [zj (-1)] w ov w' c s
    obtain ⟨h1, h2, h3, h4⟩ := h
    subst h1; subst h2; subst h3; subst h4
    exact Zr_ret (ins := .ireturn) rfl rfl
  · replace h := h.2 hp
    show Zr sc 24 4 [zp a0, zj x1] [] w ov w' c s
    refine Zr_st (q := (5, [zp a0, zj x1], [zj x1])) rfl rfl rfl ?_
    show Zr sc 24 5 [zp a0, zj x1] [zj x1] w ov w' c s
    refine Zr_st (q := (6, [zp a0, zj x1], [zp a0, zj x1])) rfl rfl rfl ?_
    show Zr sc 24 6 [zp a0, zj x1] [zp a0, zj x1] w ov w' c s
    obtain ⟨f0_3, f1_4, f2_5, hw_2, h⟩ := h
    refine rl_gf rfl hw_2 rfl rfl ?_
    show Zr sc 24 9 [zp a0, zj x1] [zj f2_5, zj x1] w ov w' c s
    obtain ⟨hr_6, h⟩ := h
    refine Zr_br (p := f2_5 ≤ x1) rfl rfl (zcmp_j (cnd := .ge) hr_6.1 hr_6.2) (fun hp => ?_) (fun hp => ?_)
    · replace h := h.1 hp
      show Zr sc 24 21 [zp a0, zj x1] [] w ov w' c s
      refine rl_ic rfl ?_
      show Zr sc 24 22 [zp a0, zj x1] [zj (-1)] w ov w' c s
      obtain ⟨h1, h2, h3, h4⟩ := h
      subst h1; subst h2; subst h3; subst h4
      exact Zr_ret (ins := .ireturn) rfl rfl
    · replace h := h.2 hp
      show Zr sc 24 12 [zp a0, zj x1] [] w ov w' c s
      refine Zr_st (q := (13, [zp a0, zj x1], [zp a0])) rfl rfl rfl ?_
      show Zr sc 24 13 [zp a0, zj x1] [zp a0] w ov w' c s
      refine rl_gf rfl hw_2 rfl rfl ?_
      show Zr sc 24 16 [zp a0, zj x1] [zp f0_3] w ov w' c s
      refine Zr_st (q := (17, [zp a0, zj x1], [zj x1, zp f0_3])) rfl rfl rfl ?_
      show Zr sc 24 17 [zp a0, zj x1] [zj x1, zp f0_3] w ov w' c s
      obtain ⟨l_9, hw_8, h⟩ := h
      obtain ⟨hi_7, h⟩ := h
      refine rl_ia rfl hw_8 hi_7.1 hi_7.2.1 hi_7.2.2 ?_
      show Zr sc 24 18 [zp a0, zj x1] [zj (zgi l_9 x1)] w ov w' c s
      refine Zr_st (q := (22, [zp a0, zj x1], [zj (zgi l_9 x1)])) rfl rfl rfl ?_
      show Zr sc 24 22 [zp a0, zj x1] [zj (zgi l_9 x1)] w ov w' c s
      obtain ⟨h1, h2, h3, h4⟩ := h
      subst h1; subst h2; subst h3; subst h4
      exact Zr_ret (ins := .ireturn) rfl rfl

-- HeapwrightLab.holeSize(I)I
set_option maxRecDepth 100000 in
theorem V25_0 {sc : List Value} {w w' : List zE} {ov : Option Value} {c s : Nat} {a0 : Nat} {x1 : Int} (h : (∃ f0_2 : Nat, ∃ f1_3 : Nat, ∃ f2_4 : Nat, ∃ f3_5 : Nat, ∃ f4_6 : Nat, ∃ f5_7 : Nat, ∃ f6_8 : Nat, ∃ f7_9 : Int, w[a0]? = some (zob 6 [zp f0_2, zp f1_3, zp f2_4, zp f3_5, zp f4_6, zp f5_7, zp f6_8, zj f7_9]) ∧ (∃ w_10 : List zE, Zc sc 23 [zp a0, zj x1] w none w_10 0 0 ∧ (∃ f0_13 : Nat, ∃ f1_14 : Nat, ∃ f2_15 : Nat, ∃ f3_16 : Nat, ∃ f4_17 : Nat, ∃ f5_18 : Nat, ∃ f6_19 : Nat, ∃ f7_20 : Int, w_10[a0]? = some (zob 6 [zp f0_13, zp f1_14, zp f2_15, zp f3_16, zp f4_17, zp f5_18, zp f6_19, zj f7_20]) ∧ (∃ p_23 : Nat, ∃ w_21 : List zE, Zc sc 1 [zp a0] w_10 (some (zp p_23)) w_21 0 0 ∧ (∃ cn_24 : Nat, ∃ fs_25 : List Value, w_21[p_23]? = some (zob cn_24 fs_25) ∧ (cn_24 = 1 ∨ cn_24 = 2 ∨ cn_24 = 4) ∧ (∃ p_32 : Nat, ∃ w_30 : List zE, Zc sc 20 [zp p_23] w_21 (some (zp p_32)) w_30 0 0 ∧ (∃ f0_34 : Nat, ∃ f1_35 : Nat, ∃ f2_36 : Int, w_30[p_32]? = some (zob 3 [zp f0_34, zp f1_35, zj f2_36]) ∧ (∃ r_39 : Int, ∃ w_37 : List zE, Zc sc 26 [zp p_32, zj x1] w_30 (some (zj r_39)) w_37 0 0 ∧ (ov = some (zj r_39) ∧ w' = w_37 ∧ c = 0 ∧ s = 0)))))))))) : Zr sc 25 0 [zp a0, zj x1] [] w ov w' c s := by
  refine Zr_st (q := (1, [zp a0, zj x1], [zp a0])) rfl rfl rfl ?_
  show Zr sc 25 1 [zp a0, zj x1] [zp a0] w ov w' c s
  refine Zr_st (q := (2, [zp a0, zj x1], [zj x1, zp a0])) rfl rfl rfl ?_
  show Zr sc 25 2 [zp a0, zj x1] [zj x1, zp a0] w ov w' c s
  obtain ⟨f0_2, f1_3, f2_4, f3_5, f4_6, f5_7, f6_8, f7_9, hw_1, h⟩ := h
  obtain ⟨w_10, hk_11, h⟩ := h
  refine rn_cal0 (ins := .invokevirtual 165) (rest := []) rfl rfl rfl rfl (zinv_v (fs := _) hw_1 rfl rfl rfl rfl) rfl rfl hk_11 ?_
  show Zr sc 25 5 [zp a0, zj x1] [] w_10 ov w' c s
  refine Zr_st (q := (6, [zp a0, zj x1], [zp a0])) rfl rfl rfl ?_
  show Zr sc 25 6 [zp a0, zj x1] [zp a0] w_10 ov w' c s
  obtain ⟨f0_13, f1_14, f2_15, f3_16, f4_17, f5_18, f6_19, f7_20, hw_12, h⟩ := h
  obtain ⟨p_23, w_21, hk_22, h⟩ := h
  refine rn_cal0 (ins := .invokevirtual 83) (rest := []) rfl rfl rfl rfl (zinv_v (fs := _) hw_12 rfl rfl rfl rfl) rfl rfl hk_22 ?_
  show Zr sc 25 9 [zp a0, zj x1] [zp p_23] w_21 ov w' c s
  obtain ⟨cn_24, fs_25, hw_26, hcn_27, h⟩ := h
  have hz_28 : ∃ kd, zinv 25 (.invokevirtual 158) [zp p_23] (false, w_21) = some (kd, 20, [zp p_23], []) ∧ decide (kd < 6) = true := by rcases hcn_27 with rfl | rfl | rfl <;> exact zinv_u hw_26 rfl rfl rfl rfl rfl rfl rfl
  obtain ⟨kd_29, hz_28⟩ := hz_28
  obtain ⟨p_32, w_30, hk_31, h⟩ := h
  refine rn_cal0 (ins := .invokevirtual 158) (rest := []) rfl rfl rfl rfl hz_28.1 rfl hz_28.2 hk_31 ?_
  show Zr sc 25 12 [zp a0, zj x1] [zp p_32] w_30 ov w' c s
  refine Zr_st (q := (13, [zp a0, zj x1], [zj x1, zp p_32])) rfl rfl rfl ?_
  show Zr sc 25 13 [zp a0, zj x1] [zj x1, zp p_32] w_30 ov w' c s
  obtain ⟨f0_34, f1_35, f2_36, hw_33, h⟩ := h
  obtain ⟨r_39, w_37, hk_38, h⟩ := h
  refine rn_cal0 (ins := .invokevirtual 169) (rest := []) rfl rfl rfl rfl (zinv_v (fs := _) hw_33 rfl rfl rfl rfl) rfl rfl hk_38 ?_
  show Zr sc 25 16 [zp a0, zj x1] [zj r_39] w_37 ov w' c s
  obtain ⟨h1, h2, h3, h4⟩ := h
  subst h1; subst h2; subst h3; subst h4
  exact Zr_ret (ins := .ireturn) rfl rfl

-- HeapwrightLab$Holes.sizeOf(I)I
set_option maxRecDepth 100000 in
theorem V26_0 {sc : List Value} {w w' : List zE} {ov : Option Value} {c s : Nat} {a0 : Nat} {x1 : Int} (h : ((zrg x1) ∧ ((x1 < 0 → (ov = some (zj 0) ∧ w' = w ∧ c = 0 ∧ s = 0)) ∧ (¬ (x1 < 0) → (∃ f0_3 : Nat, ∃ f1_4 : Nat, ∃ f2_5 : Int, w[a0]? = some (zob 3 [zp f0_3, zp f1_4, zj f2_5]) ∧ ((zrg x1 ∧ zrg f2_5) ∧ ((f2_5 ≤ x1 → (ov = some (zj 0) ∧ w' = w ∧ c = 0 ∧ s = 0)) ∧ (¬ (f2_5 ≤ x1) → (∃ l_9 : List Int, w[f1_4]? = some (za l_9) ∧ ((0 ≤ x1 ∧ x1 < (l_9.length : Int) ∧ x1 ≤ 2147483647) ∧ (ov = some (zj (zgi l_9 x1)) ∧ w' = w ∧ c = 0 ∧ s = 0))))))))))) : Zr sc 26 0 [zp a0, zj x1] [] w ov w' c s := by
  refine Zr_st (q := (1, [zp a0, zj x1], [zj x1])) rfl rfl rfl ?_
  show Zr sc 26 1 [zp a0, zj x1] [zj x1] w ov w' c s
  obtain ⟨hr_1, h⟩ := h
  refine Zr_b0 (p := x1 < 0) rfl rfl (zcmp_0 (cnd := .lt) hr_1) (fun hp => ?_) (fun hp => ?_)
  · replace h := h.1 hp
    show Zr sc 26 21 [zp a0, zj x1] [] w ov w' c s
    refine rl_ic rfl ?_
    show Zr sc 26 22 [zp a0, zj x1] [zj 0] w ov w' c s
    obtain ⟨h1, h2, h3, h4⟩ := h
    subst h1; subst h2; subst h3; subst h4
    exact Zr_ret (ins := .ireturn) rfl rfl
  · replace h := h.2 hp
    show Zr sc 26 4 [zp a0, zj x1] [] w ov w' c s
    refine Zr_st (q := (5, [zp a0, zj x1], [zj x1])) rfl rfl rfl ?_
    show Zr sc 26 5 [zp a0, zj x1] [zj x1] w ov w' c s
    refine Zr_st (q := (6, [zp a0, zj x1], [zp a0, zj x1])) rfl rfl rfl ?_
    show Zr sc 26 6 [zp a0, zj x1] [zp a0, zj x1] w ov w' c s
    obtain ⟨f0_3, f1_4, f2_5, hw_2, h⟩ := h
    refine rl_gf rfl hw_2 rfl rfl ?_
    show Zr sc 26 9 [zp a0, zj x1] [zj f2_5, zj x1] w ov w' c s
    obtain ⟨hr_6, h⟩ := h
    refine Zr_br (p := f2_5 ≤ x1) rfl rfl (zcmp_j (cnd := .ge) hr_6.1 hr_6.2) (fun hp => ?_) (fun hp => ?_)
    · replace h := h.1 hp
      show Zr sc 26 21 [zp a0, zj x1] [] w ov w' c s
      refine rl_ic rfl ?_
      show Zr sc 26 22 [zp a0, zj x1] [zj 0] w ov w' c s
      obtain ⟨h1, h2, h3, h4⟩ := h
      subst h1; subst h2; subst h3; subst h4
      exact Zr_ret (ins := .ireturn) rfl rfl
    · replace h := h.2 hp
      show Zr sc 26 12 [zp a0, zj x1] [] w ov w' c s
      refine Zr_st (q := (13, [zp a0, zj x1], [zp a0])) rfl rfl rfl ?_
      show Zr sc 26 13 [zp a0, zj x1] [zp a0] w ov w' c s
      refine rl_gf rfl hw_2 rfl rfl ?_
      show Zr sc 26 16 [zp a0, zj x1] [zp f1_4] w ov w' c s
      refine Zr_st (q := (17, [zp a0, zj x1], [zj x1, zp f1_4])) rfl rfl rfl ?_
      show Zr sc 26 17 [zp a0, zj x1] [zj x1, zp f1_4] w ov w' c s
      obtain ⟨l_9, hw_8, h⟩ := h
      obtain ⟨hi_7, h⟩ := h
      refine rl_ia rfl hw_8 hi_7.1 hi_7.2.1 hi_7.2.2 ?_
      show Zr sc 26 18 [zp a0, zj x1] [zj (zgi l_9 x1)] w ov w' c s
      refine Zr_st (q := (22, [zp a0, zj x1], [zj (zgi l_9 x1)])) rfl rfl rfl ?_
      show Zr sc 26 22 [zp a0, zj x1] [zj (zgi l_9 x1)] w ov w' c s
      obtain ⟨h1, h2, h3, h4⟩ := h
      subst h1; subst h2; subst h3; subst h4
      exact Zr_ret (ins := .ireturn) rfl rfl

-- HeapwrightLab.used()I
set_option maxRecDepth 100000 in
theorem V27_0 {sc : List Value} {w w' : List zE} {ov : Option Value} {c s : Nat} {a0 : Nat} (h : (∃ f0_2 : Nat, ∃ f1_3 : Nat, ∃ f2_4 : Nat, ∃ f3_5 : Nat, ∃ f4_6 : Nat, ∃ f5_7 : Nat, ∃ f6_8 : Nat, ∃ f7_9 : Int, w[a0]? = some (zob 6 [zp f0_2, zp f1_3, zp f2_4, zp f3_5, zp f4_6, zp f5_7, zp f6_8, zj f7_9]) ∧ (∃ p_12 : Nat, ∃ w_10 : List zE, Zc sc 1 [zp a0] w (some (zp p_12)) w_10 0 0 ∧ (∃ cn_13 : Nat, ∃ fs_14 : List Value, w_10[p_12]? = some (zob cn_13 fs_14) ∧ (cn_13 = 1 ∨ cn_13 = 2 ∨ cn_13 = 4) ∧ (∃ p_21 : Nat, ∃ w_19 : List zE, Zc sc 6 [zp p_12] w_10 (some (zp p_21)) w_19 0 0 ∧ (∃ f0_23 : Nat, ∃ f1_24 : Nat, ∃ f2_25 : Nat, ∃ f3_26 : Nat, ∃ f4_27 : Int, ∃ f5_28 : Int, w_19[p_21]? = some (zob 0 [zp f0_23, zp f1_24, zp f2_25, zp f3_26, zj f4_27, zj f5_28]) ∧ (∃ r_31 : Int, ∃ w_29 : List zE, Zc sc 28 [zp p_21] w_19 (some (zj r_31)) w_29 0 0 ∧ (ov = some (zj r_31) ∧ w' = w_29 ∧ c = 0 ∧ s = 0)))))))) : Zr sc 27 0 [zp a0] [] w ov w' c s := by
  refine Zr_st (q := (1, [zp a0], [zp a0])) rfl rfl rfl ?_
  show Zr sc 27 1 [zp a0] [zp a0] w ov w' c s
  obtain ⟨f0_2, f1_3, f2_4, f3_5, f4_6, f5_7, f6_8, f7_9, hw_1, h⟩ := h
  obtain ⟨p_12, w_10, hk_11, h⟩ := h
  refine rn_cal0 (ins := .invokevirtual 83) (rest := []) rfl rfl rfl rfl (zinv_v (fs := _) hw_1 rfl rfl rfl rfl) rfl rfl hk_11 ?_
  show Zr sc 27 4 [zp a0] [zp p_12] w_10 ov w' c s
  obtain ⟨cn_13, fs_14, hw_15, hcn_16, h⟩ := h
  have hz_17 : ∃ kd, zinv 27 (.invokevirtual 113) [zp p_12] (false, w_10) = some (kd, 6, [zp p_12], []) ∧ decide (kd < 6) = true := by rcases hcn_16 with rfl | rfl | rfl <;> exact zinv_u hw_15 rfl rfl rfl rfl rfl rfl rfl
  obtain ⟨kd_18, hz_17⟩ := hz_17
  obtain ⟨p_21, w_19, hk_20, h⟩ := h
  refine rn_cal0 (ins := .invokevirtual 113) (rest := []) rfl rfl rfl rfl hz_17.1 rfl hz_17.2 hk_20 ?_
  show Zr sc 27 7 [zp a0] [zp p_21] w_19 ov w' c s
  obtain ⟨f0_23, f1_24, f2_25, f3_26, f4_27, f5_28, hw_22, h⟩ := h
  obtain ⟨r_31, w_29, hk_30, h⟩ := h
  refine rn_cal0 (ins := .invokevirtual 178) (rest := []) rfl rfl rfl rfl (zinv_v (fs := _) hw_22 rfl rfl rfl rfl) rfl rfl hk_30 ?_
  show Zr sc 27 10 [zp a0] [zj r_31] w_29 ov w' c s
  obtain ⟨h1, h2, h3, h4⟩ := h
  subst h1; subst h2; subst h3; subst h4
  exact Zr_ret (ins := .ireturn) rfl rfl

-- HeapwrightLab$Blocks.allRooms()I
set_option maxRecDepth 100000 in
theorem V28_0 {sc : List Value} {w w' : List zE} {ov : Option Value} {c s : Nat} {a0 : Nat} (h : (∃ f0_2 : Nat, ∃ f1_3 : Nat, ∃ f2_4 : Nat, ∃ f3_5 : Nat, ∃ f4_6 : Int, ∃ f5_7 : Int, w[a0]? = some (zob 0 [zp f0_2, zp f1_3, zp f2_4, zp f3_5, zj f4_6, zj f5_7]) ∧ (ov = some (zj f5_7) ∧ w' = w ∧ c = 0 ∧ s = 0))) : Zr sc 28 0 [zp a0] [] w ov w' c s := by
  refine Zr_st (q := (1, [zp a0], [zp a0])) rfl rfl rfl ?_
  show Zr sc 28 1 [zp a0] [zp a0] w ov w' c s
  obtain ⟨f0_2, f1_3, f2_4, f3_5, f4_6, f5_7, hw_1, h⟩ := h
  refine rl_gf rfl hw_1 rfl rfl ?_
  show Zr sc 28 4 [zp a0] [zj f5_7] w ov w' c s
  obtain ⟨h1, h2, h3, h4⟩ := h
  subst h1; subst h2; subst h3; subst h4
  exact Zr_ret (ins := .ireturn) rfl rfl

-- HeapwrightLab.wasted()I
set_option maxRecDepth 100000 in
theorem V29_0 {sc : List Value} {w w' : List zE} {ov : Option Value} {c s : Nat} {a0 : Nat} (h : (∃ f0_2 : Nat, ∃ f1_3 : Nat, ∃ f2_4 : Nat, ∃ f3_5 : Nat, ∃ f4_6 : Nat, ∃ f5_7 : Nat, ∃ f6_8 : Nat, ∃ f7_9 : Int, w[a0]? = some (zob 6 [zp f0_2, zp f1_3, zp f2_4, zp f3_5, zp f4_6, zp f5_7, zp f6_8, zj f7_9]) ∧ (∃ p_12 : Nat, ∃ w_10 : List zE, Zc sc 1 [zp a0] w (some (zp p_12)) w_10 0 0 ∧ (∃ cn_13 : Nat, ∃ fs_14 : List Value, w_10[p_12]? = some (zob cn_13 fs_14) ∧ (cn_13 = 1 ∨ cn_13 = 2 ∨ cn_13 = 4) ∧ (∃ p_21 : Nat, ∃ w_19 : List zE, Zc sc 6 [zp p_12] w_10 (some (zp p_21)) w_19 0 0 ∧ (∃ f0_23 : Nat, ∃ f1_24 : Nat, ∃ f2_25 : Nat, ∃ f3_26 : Nat, ∃ f4_27 : Int, ∃ f5_28 : Int, w_19[p_21]? = some (zob 0 [zp f0_23, zp f1_24, zp f2_25, zp f3_26, zj f4_27, zj f5_28]) ∧ (∃ r_31 : Int, ∃ w_29 : List zE, Zc sc 28 [zp p_21] w_19 (some (zj r_31)) w_29 0 0 ∧ (∃ f0_33 : Nat, ∃ f1_34 : Nat, ∃ f2_35 : Nat, ∃ f3_36 : Nat, ∃ f4_37 : Nat, ∃ f5_38 : Nat, ∃ f6_39 : Nat, ∃ f7_40 : Int, w_29[a0]? = some (zob 6 [zp f0_33, zp f1_34, zp f2_35, zp f3_36, zp f4_37, zp f5_38, zp f6_39, zj f7_40]) ∧ (∃ p_43 : Nat, ∃ w_41 : List zE, Zc sc 1 [zp a0] w_29 (some (zp p_43)) w_41 0 0 ∧ (∃ cn_44 : Nat, ∃ fs_45 : List Value, w_41[p_43]? = some (zob cn_44 fs_45) ∧ (cn_44 = 1 ∨ cn_44 = 2 ∨ cn_44 = 4) ∧ (∃ p_52 : Nat, ∃ w_50 : List zE, Zc sc 6 [zp p_43] w_41 (some (zp p_52)) w_50 0 0 ∧ (∃ f0_54 : Nat, ∃ f1_55 : Nat, ∃ f2_56 : Nat, ∃ f3_57 : Nat, ∃ f4_58 : Int, ∃ f5_59 : Int, w_50[p_52]? = some (zob 0 [zp f0_54, zp f1_55, zp f2_56, zp f3_57, zj f4_58, zj f5_59]) ∧ (∃ r_62 : Int, ∃ w_60 : List zE, Zc sc 30 [zp p_52] w_50 (some (zj r_62)) w_60 0 0 ∧ (ov = some (zj (r_31 - r_62)) ∧ w' = w_60 ∧ c = 0 ∧ s = 0)))))))))))))) : Zr sc 29 0 [zp a0] [] w ov w' c s := by
  refine Zr_st (q := (1, [zp a0], [zp a0])) rfl rfl rfl ?_
  show Zr sc 29 1 [zp a0] [zp a0] w ov w' c s
  obtain ⟨f0_2, f1_3, f2_4, f3_5, f4_6, f5_7, f6_8, f7_9, hw_1, h⟩ := h
  obtain ⟨p_12, w_10, hk_11, h⟩ := h
  refine rn_cal0 (ins := .invokevirtual 83) (rest := []) rfl rfl rfl rfl (zinv_v (fs := _) hw_1 rfl rfl rfl rfl) rfl rfl hk_11 ?_
  show Zr sc 29 4 [zp a0] [zp p_12] w_10 ov w' c s
  obtain ⟨cn_13, fs_14, hw_15, hcn_16, h⟩ := h
  have hz_17 : ∃ kd, zinv 29 (.invokevirtual 113) [zp p_12] (false, w_10) = some (kd, 6, [zp p_12], []) ∧ decide (kd < 6) = true := by rcases hcn_16 with rfl | rfl | rfl <;> exact zinv_u hw_15 rfl rfl rfl rfl rfl rfl rfl
  obtain ⟨kd_18, hz_17⟩ := hz_17
  obtain ⟨p_21, w_19, hk_20, h⟩ := h
  refine rn_cal0 (ins := .invokevirtual 113) (rest := []) rfl rfl rfl rfl hz_17.1 rfl hz_17.2 hk_20 ?_
  show Zr sc 29 7 [zp a0] [zp p_21] w_19 ov w' c s
  obtain ⟨f0_23, f1_24, f2_25, f3_26, f4_27, f5_28, hw_22, h⟩ := h
  obtain ⟨r_31, w_29, hk_30, h⟩ := h
  refine rn_cal0 (ins := .invokevirtual 178) (rest := []) rfl rfl rfl rfl (zinv_v (fs := _) hw_22 rfl rfl rfl rfl) rfl rfl hk_30 ?_
  show Zr sc 29 10 [zp a0] [zj r_31] w_29 ov w' c s
  refine Zr_st (q := (11, [zp a0], [zp a0, zj r_31])) rfl rfl rfl ?_
  show Zr sc 29 11 [zp a0] [zp a0, zj r_31] w_29 ov w' c s
  obtain ⟨f0_33, f1_34, f2_35, f3_36, f4_37, f5_38, f6_39, f7_40, hw_32, h⟩ := h
  obtain ⟨p_43, w_41, hk_42, h⟩ := h
  refine rn_cal0 (ins := .invokevirtual 83) (rest := [zj r_31]) rfl rfl rfl rfl (zinv_v (fs := _) hw_32 rfl rfl rfl rfl) rfl rfl hk_42 ?_
  show Zr sc 29 14 [zp a0] [zp p_43, zj r_31] w_41 ov w' c s
  obtain ⟨cn_44, fs_45, hw_46, hcn_47, h⟩ := h
  have hz_48 : ∃ kd, zinv 29 (.invokevirtual 113) [zp p_43, zj r_31] (false, w_41) = some (kd, 6, [zp p_43], [zj r_31]) ∧ decide (kd < 6) = true := by rcases hcn_47 with rfl | rfl | rfl <;> exact zinv_u hw_46 rfl rfl rfl rfl rfl rfl rfl
  obtain ⟨kd_49, hz_48⟩ := hz_48
  obtain ⟨p_52, w_50, hk_51, h⟩ := h
  refine rn_cal0 (ins := .invokevirtual 113) (rest := [zj r_31]) rfl rfl rfl rfl hz_48.1 rfl hz_48.2 hk_51 ?_
  show Zr sc 29 17 [zp a0] [zp p_52, zj r_31] w_50 ov w' c s
  obtain ⟨f0_54, f1_55, f2_56, f3_57, f4_58, f5_59, hw_53, h⟩ := h
  obtain ⟨r_62, w_60, hk_61, h⟩ := h
  refine rn_cal0 (ins := .invokevirtual 181) (rest := [zj r_31]) rfl rfl rfl rfl (zinv_v (fs := _) hw_53 rfl rfl rfl rfl) rfl rfl hk_61 ?_
  show Zr sc 29 20 [zp a0] [zj r_62, zj r_31] w_60 ov w' c s
  refine rl_sub rfl ?_
  show Zr sc 29 21 [zp a0] [zj (r_31 - r_62)] w_60 ov w' c s
  obtain ⟨h1, h2, h3, h4⟩ := h
  subst h1; subst h2; subst h3; subst h4
  exact Zr_ret (ins := .ireturn) rfl rfl

-- HeapwrightLab$Blocks.allSizes()I
set_option maxRecDepth 100000 in
theorem V30_0 {sc : List Value} {w w' : List zE} {ov : Option Value} {c s : Nat} {a0 : Nat} (h : Zr sc 30 4 [zp a0, zj 0, zj 0] [] w ov w' c s) : Zr sc 30 0 [zp a0, zmk, zmk] [] w ov w' c s := by
  refine rl_ic rfl ?_
  show Zr sc 30 1 [zp a0, zmk, zmk] [zj 0] w ov w' c s
  refine Zr_st (q := (2, [zp a0, zj 0, zmk], [])) rfl rfl rfl ?_
  show Zr sc 30 2 [zp a0, zj 0, zmk] [] w ov w' c s
  refine rl_ic rfl ?_
  show Zr sc 30 3 [zp a0, zj 0, zmk] [zj 0] w ov w' c s
  refine Zr_st (q := (4, [zp a0, zj 0, zj 0], [])) rfl rfl rfl ?_
  show Zr sc 30 4 [zp a0, zj 0, zj 0] [] w ov w' c s
  exact h
set_option maxRecDepth 100000 in
theorem V30_4 {sc : List Value} {w w' : List zE} {ov : Option Value} {c s : Nat} {a0 : Nat} {x1 : Int} {x2 : Int} (h : (∃ f0_2 : Nat, ∃ f1_3 : Nat, ∃ f2_4 : Nat, ∃ f3_5 : Nat, ∃ f4_6 : Int, ∃ f5_7 : Int, w[a0]? = some (zob 0 [zp f0_2, zp f1_3, zp f2_4, zp f3_5, zj f4_6, zj f5_7]) ∧ ((zrg x2 ∧ zrg f4_6) ∧ ((f4_6 ≤ x2 → (ov = some (zj x1) ∧ w' = w ∧ c = 0 ∧ s = 0)) ∧ (¬ (f4_6 ≤ x2) → (∃ l_11 : List Int, w[f3_5]? = some (za l_11) ∧ ((0 ≤ x2 ∧ x2 < (l_11.length : Int) ∧ x2 ≤ 2147483647) ∧ (∃ r_14 : Int, ∃ w_12 : List zE, Zc sc 11 [zp a0, zj (zgi l_11 x2)] w (some (zj r_14)) w_12 0 0 ∧ Zr sc 30 4 [zp a0, zj (x1 + r_14), zj (x2 + 1)] [] w_12 ov w' c s)))))))) : Zr sc 30 4 [zp a0, zj x1, zj x2] [] w ov w' c s := by
  refine Zr_st (q := (5, [zp a0, zj x1, zj x2], [zj x2])) rfl rfl rfl ?_
  show Zr sc 30 5 [zp a0, zj x1, zj x2] [zj x2] w ov w' c s
  refine Zr_st (q := (6, [zp a0, zj x1, zj x2], [zp a0, zj x2])) rfl rfl rfl ?_
  show Zr sc 30 6 [zp a0, zj x1, zj x2] [zp a0, zj x2] w ov w' c s
  obtain ⟨f0_2, f1_3, f2_4, f3_5, f4_6, f5_7, hw_1, h⟩ := h
  refine rl_gf rfl hw_1 rfl rfl ?_
  show Zr sc 30 9 [zp a0, zj x1, zj x2] [zj f4_6, zj x2] w ov w' c s
  obtain ⟨hr_8, h⟩ := h
  refine Zr_br (p := f4_6 ≤ x2) rfl rfl (zcmp_j (cnd := .ge) hr_8.1 hr_8.2) (fun hp => ?_) (fun hp => ?_)
  · replace h := h.1 hp
    show Zr sc 30 31 [zp a0, zj x1, zj x2] [] w ov w' c s
    refine Zr_st (q := (32, [zp a0, zj x1, zj x2], [zj x1])) rfl rfl rfl ?_
    show Zr sc 30 32 [zp a0, zj x1, zj x2] [zj x1] w ov w' c s
    obtain ⟨h1, h2, h3, h4⟩ := h
    subst h1; subst h2; subst h3; subst h4
    exact Zr_ret (ins := .ireturn) rfl rfl
  · replace h := h.2 hp
    show Zr sc 30 12 [zp a0, zj x1, zj x2] [] w ov w' c s
    refine Zr_st (q := (13, [zp a0, zj x1, zj x2], [zj x1])) rfl rfl rfl ?_
    show Zr sc 30 13 [zp a0, zj x1, zj x2] [zj x1] w ov w' c s
    refine Zr_st (q := (14, [zp a0, zj x1, zj x2], [zp a0, zj x1])) rfl rfl rfl ?_
    show Zr sc 30 14 [zp a0, zj x1, zj x2] [zp a0, zj x1] w ov w' c s
    refine Zr_st (q := (15, [zp a0, zj x1, zj x2], [zp a0, zp a0, zj x1])) rfl rfl rfl ?_
    show Zr sc 30 15 [zp a0, zj x1, zj x2] [zp a0, zp a0, zj x1] w ov w' c s
    refine rl_gf rfl hw_1 rfl rfl ?_
    show Zr sc 30 18 [zp a0, zj x1, zj x2] [zp f3_5, zp a0, zj x1] w ov w' c s
    refine Zr_st (q := (19, [zp a0, zj x1, zj x2], [zj x2, zp f3_5, zp a0, zj x1])) rfl rfl rfl ?_
    show Zr sc 30 19 [zp a0, zj x1, zj x2] [zj x2, zp f3_5, zp a0, zj x1] w ov w' c s
    obtain ⟨l_11, hw_10, h⟩ := h
    obtain ⟨hi_9, h⟩ := h
    refine rl_ia rfl hw_10 hi_9.1 hi_9.2.1 hi_9.2.2 ?_
    show Zr sc 30 20 [zp a0, zj x1, zj x2] [zj (zgi l_11 x2), zp a0, zj x1] w ov w' c s
    obtain ⟨r_14, w_12, hk_13, h⟩ := h
    refine rn_cal0 (ins := .invokevirtual 41) (rest := [zj x1]) rfl rfl rfl rfl (zinv_v (fs := _) hw_1 rfl rfl rfl rfl) rfl rfl hk_13 ?_
    show Zr sc 30 23 [zp a0, zj x1, zj x2] [zj r_14, zj x1] w_12 ov w' c s
    refine rl_add rfl ?_
    show Zr sc 30 24 [zp a0, zj x1, zj x2] [zj (x1 + r_14)] w_12 ov w' c s
    refine Zr_st (q := (25, [zp a0, zj (x1 + r_14), zj x2], [])) rfl rfl rfl ?_
    show Zr sc 30 25 [zp a0, zj (x1 + r_14), zj x2] [] w_12 ov w' c s
    refine rl_inc rfl rfl rfl rfl ?_
    show Zr sc 30 28 [zp a0, zj (x1 + r_14), zj (x2 + 1)] [] w_12 ov w' c s
    refine Zr_st (q := (4, [zp a0, zj (x1 + r_14), zj (x2 + 1)], [])) rfl rfl rfl ?_
    show Zr sc 30 4 [zp a0, zj (x1 + r_14), zj (x2 + 1)] [] w_12 ov w' c s
    exact h

-- HeapwrightLab.largest()I
set_option maxRecDepth 100000 in
theorem V31_0 {sc : List Value} {w w' : List zE} {ov : Option Value} {c s : Nat} {a0 : Nat} (h : (∃ f0_2 : Nat, ∃ f1_3 : Nat, ∃ f2_4 : Nat, ∃ f3_5 : Nat, ∃ f4_6 : Nat, ∃ f5_7 : Nat, ∃ f6_8 : Nat, ∃ f7_9 : Int, w[a0]? = some (zob 6 [zp f0_2, zp f1_3, zp f2_4, zp f3_5, zp f4_6, zp f5_7, zp f6_8, zj f7_9]) ∧ (∃ p_12 : Nat, ∃ w_10 : List zE, Zc sc 1 [zp a0] w (some (zp p_12)) w_10 0 0 ∧ (∃ cn_13 : Nat, ∃ fs_14 : List Value, w_10[p_12]? = some (zob cn_13 fs_14) ∧ (cn_13 = 1 ∨ cn_13 = 2 ∨ cn_13 = 4) ∧ (∃ p_21 : Nat, ∃ w_19 : List zE, Zc sc 20 [zp p_12] w_10 (some (zp p_21)) w_19 0 0 ∧ (∃ f0_23 : Nat, ∃ f1_24 : Nat, ∃ f2_25 : Int, w_19[p_21]? = some (zob 3 [zp f0_23, zp f1_24, zj f2_25]) ∧ (∃ r_28 : Int, ∃ w_26 : List zE, Zc sc 32 [zp p_21] w_19 (some (zj r_28)) w_26 0 0 ∧ (ov = some (zj r_28) ∧ w' = w_26 ∧ c = 0 ∧ s = 0)))))))) : Zr sc 31 0 [zp a0] [] w ov w' c s := by
  refine Zr_st (q := (1, [zp a0], [zp a0])) rfl rfl rfl ?_
  show Zr sc 31 1 [zp a0] [zp a0] w ov w' c s
  obtain ⟨f0_2, f1_3, f2_4, f3_5, f4_6, f5_7, f6_8, f7_9, hw_1, h⟩ := h
  obtain ⟨p_12, w_10, hk_11, h⟩ := h
  refine rn_cal0 (ins := .invokevirtual 83) (rest := []) rfl rfl rfl rfl (zinv_v (fs := _) hw_1 rfl rfl rfl rfl) rfl rfl hk_11 ?_
  show Zr sc 31 4 [zp a0] [zp p_12] w_10 ov w' c s
  obtain ⟨cn_13, fs_14, hw_15, hcn_16, h⟩ := h
  have hz_17 : ∃ kd, zinv 31 (.invokevirtual 158) [zp p_12] (false, w_10) = some (kd, 20, [zp p_12], []) ∧ decide (kd < 6) = true := by rcases hcn_16 with rfl | rfl | rfl <;> exact zinv_u hw_15 rfl rfl rfl rfl rfl rfl rfl
  obtain ⟨kd_18, hz_17⟩ := hz_17
  obtain ⟨p_21, w_19, hk_20, h⟩ := h
  refine rn_cal0 (ins := .invokevirtual 158) (rest := []) rfl rfl rfl rfl hz_17.1 rfl hz_17.2 hk_20 ?_
  show Zr sc 31 7 [zp a0] [zp p_21] w_19 ov w' c s
  obtain ⟨f0_23, f1_24, f2_25, hw_22, h⟩ := h
  obtain ⟨r_28, w_26, hk_27, h⟩ := h
  refine rn_cal0 (ins := .invokevirtual 184) (rest := []) rfl rfl rfl rfl (zinv_v (fs := _) hw_22 rfl rfl rfl rfl) rfl rfl hk_27 ?_
  show Zr sc 31 10 [zp a0] [zj r_28] w_26 ov w' c s
  obtain ⟨h1, h2, h3, h4⟩ := h
  subst h1; subst h2; subst h3; subst h4
  exact Zr_ret (ins := .ireturn) rfl rfl

-- HeapwrightLab$Holes.largestSize()I
set_option maxRecDepth 100000 in
theorem V32_0 {sc : List Value} {w w' : List zE} {ov : Option Value} {c s : Nat} {a0 : Nat} (h : Zr sc 32 4 [zp a0, zj 0, zj 0] [] w ov w' c s) : Zr sc 32 0 [zp a0, zmk, zmk] [] w ov w' c s := by
  refine rl_ic rfl ?_
  show Zr sc 32 1 [zp a0, zmk, zmk] [zj 0] w ov w' c s
  refine Zr_st (q := (2, [zp a0, zj 0, zmk], [])) rfl rfl rfl ?_
  show Zr sc 32 2 [zp a0, zj 0, zmk] [] w ov w' c s
  refine rl_ic rfl ?_
  show Zr sc 32 3 [zp a0, zj 0, zmk] [zj 0] w ov w' c s
  refine Zr_st (q := (4, [zp a0, zj 0, zj 0], [])) rfl rfl rfl ?_
  show Zr sc 32 4 [zp a0, zj 0, zj 0] [] w ov w' c s
  exact h
set_option maxRecDepth 100000 in
theorem V32_4 {sc : List Value} {w w' : List zE} {ov : Option Value} {c s : Nat} {a0 : Nat} {x1 : Int} {x2 : Int} (h : (∃ f0_2 : Nat, ∃ f1_3 : Nat, ∃ f2_4 : Int, w[a0]? = some (zob 3 [zp f0_2, zp f1_3, zj f2_4]) ∧ ((zrg x2 ∧ zrg f2_4) ∧ ((f2_4 ≤ x2 → (ov = some (zj x1) ∧ w' = w ∧ c = 0 ∧ s = 0)) ∧ (¬ (f2_4 ≤ x2) → (∃ l_8 : List Int, w[f1_3]? = some (za l_8) ∧ ((0 ≤ x2 ∧ x2 < (l_8.length : Int) ∧ x2 ≤ 2147483647) ∧ ((zrg x1 ∧ zrg (zgi l_8 x2)) ∧ Zr sc 32 4 [zp a0, zj (max x1 (zgi l_8 x2)), zj (x2 + 1)] [] w ov w' c s)))))))) : Zr sc 32 4 [zp a0, zj x1, zj x2] [] w ov w' c s := by
  refine Zr_st (q := (5, [zp a0, zj x1, zj x2], [zj x2])) rfl rfl rfl ?_
  show Zr sc 32 5 [zp a0, zj x1, zj x2] [zj x2] w ov w' c s
  refine Zr_st (q := (6, [zp a0, zj x1, zj x2], [zp a0, zj x2])) rfl rfl rfl ?_
  show Zr sc 32 6 [zp a0, zj x1, zj x2] [zp a0, zj x2] w ov w' c s
  obtain ⟨f0_2, f1_3, f2_4, hw_1, h⟩ := h
  refine rl_gf rfl hw_1 rfl rfl ?_
  show Zr sc 32 9 [zp a0, zj x1, zj x2] [zj f2_4, zj x2] w ov w' c s
  obtain ⟨hr_5, h⟩ := h
  refine Zr_br (p := f2_4 ≤ x2) rfl rfl (zcmp_j (cnd := .ge) hr_5.1 hr_5.2) (fun hp => ?_) (fun hp => ?_)
  · replace h := h.1 hp
    show Zr sc 32 29 [zp a0, zj x1, zj x2] [] w ov w' c s
    refine Zr_st (q := (30, [zp a0, zj x1, zj x2], [zj x1])) rfl rfl rfl ?_
    show Zr sc 32 30 [zp a0, zj x1, zj x2] [zj x1] w ov w' c s
    obtain ⟨h1, h2, h3, h4⟩ := h
    subst h1; subst h2; subst h3; subst h4
    exact Zr_ret (ins := .ireturn) rfl rfl
  · replace h := h.2 hp
    show Zr sc 32 12 [zp a0, zj x1, zj x2] [] w ov w' c s
    refine Zr_st (q := (13, [zp a0, zj x1, zj x2], [zj x1])) rfl rfl rfl ?_
    show Zr sc 32 13 [zp a0, zj x1, zj x2] [zj x1] w ov w' c s
    refine Zr_st (q := (14, [zp a0, zj x1, zj x2], [zp a0, zj x1])) rfl rfl rfl ?_
    show Zr sc 32 14 [zp a0, zj x1, zj x2] [zp a0, zj x1] w ov w' c s
    refine rl_gf rfl hw_1 rfl rfl ?_
    show Zr sc 32 17 [zp a0, zj x1, zj x2] [zp f1_3, zj x1] w ov w' c s
    refine Zr_st (q := (18, [zp a0, zj x1, zj x2], [zj x2, zp f1_3, zj x1])) rfl rfl rfl ?_
    show Zr sc 32 18 [zp a0, zj x1, zj x2] [zj x2, zp f1_3, zj x1] w ov w' c s
    obtain ⟨l_8, hw_7, h⟩ := h
    obtain ⟨hi_6, h⟩ := h
    refine rl_ia rfl hw_7 hi_6.1 hi_6.2.1 hi_6.2.2 ?_
    show Zr sc 32 19 [zp a0, zj x1, zj x2] [zj (zgi l_8 x2), zj x1] w ov w' c s
    obtain ⟨hm_9, h⟩ := h
    refine Zr_mx (b := true) (ins := .invokestatic 22) (rest := []) rfl rfl rfl rfl (zinv_t2 (rest := []) rfl rfl rfl rfl rfl) rfl (zmx_j hm_9.1 hm_9.2) ?_
    show Zr sc 32 22 [zp a0, zj x1, zj x2] [zj (max x1 (zgi l_8 x2))] w ov w' c s
    refine Zr_st (q := (23, [zp a0, zj (max x1 (zgi l_8 x2)), zj x2], [])) rfl rfl rfl ?_
    show Zr sc 32 23 [zp a0, zj (max x1 (zgi l_8 x2)), zj x2] [] w ov w' c s
    refine rl_inc rfl rfl rfl rfl ?_
    show Zr sc 32 26 [zp a0, zj (max x1 (zgi l_8 x2)), zj (x2 + 1)] [] w ov w' c s
    refine Zr_st (q := (4, [zp a0, zj (max x1 (zgi l_8 x2)), zj (x2 + 1)], [])) rfl rfl rfl ?_
    show Zr sc 32 4 [zp a0, zj (max x1 (zgi l_8 x2)), zj (x2 + 1)] [] w ov w' c s
    exact h

-- HeapwrightLab.counted(I)I
set_option maxRecDepth 100000 in
theorem V33_0 {sc : List Value} {w w' : List zE} {ov : Option Value} {c s : Nat} {a0 : Nat} {x1 : Int} (h : ((zrg x1) ∧ ((x1 < 0 → False) ∧ (¬ (x1 < 0) → ((zrg x1 ∧ zrg 4) ∧ ((x1 ≤ 4 → (∃ f0_4 : Nat, ∃ f1_5 : Nat, ∃ f2_6 : Nat, ∃ f3_7 : Nat, ∃ f4_8 : Nat, ∃ f5_9 : Nat, ∃ f6_10 : Nat, ∃ f7_11 : Int, w[a0]? = some (zob 6 [zp f0_4, zp f1_5, zp f2_6, zp f3_7, zp f4_8, zp f5_9, zp f6_10, zj f7_11]) ∧ (∃ p_14 : Nat, ∃ w_12 : List zE, Zc sc 1 [zp a0] w (some (zp p_14)) w_12 0 0 ∧ (∃ cn_15 : Nat, ∃ fs_16 : List Value, w_12[p_14]? = some (zob cn_15 fs_16) ∧ (cn_15 = 1 ∨ cn_15 = 2 ∨ cn_15 = 4) ∧ (∃ r_23 : Int, ∃ w_21 : List zE, Zc sc 34 [zp p_14, zj x1] w_12 (some (zj r_23)) w_21 0 0 ∧ (ov = some (zj r_23) ∧ w' = w_21 ∧ c = 0 ∧ s = 0)))))) ∧ (¬ (x1 ≤ 4) → False))))))) : Zr sc 33 0 [zp a0, zj x1] [] w ov w' c s := by
  refine Zr_st (q := (1, [zp a0, zj x1], [zj x1])) rfl rfl rfl ?_
  show Zr sc 33 1 [zp a0, zj x1] [zj x1] w ov w' c s
  obtain ⟨hr_1, h⟩ := h
  refine Zr_b0 (p := x1 < 0) rfl rfl (zcmp_0 (cnd := .lt) hr_1) (fun hp => ?_) (fun hp => ?_)
  · replace h := h.1 hp
    show Zr sc 33 9 [zp a0, zj x1] [] w ov w' c s
    exact h.elim
  · replace h := h.2 hp
    show Zr sc 33 4 [zp a0, zj x1] [] w ov w' c s
    refine Zr_st (q := (5, [zp a0, zj x1], [zj x1])) rfl rfl rfl ?_
    show Zr sc 33 5 [zp a0, zj x1] [zj x1] w ov w' c s
    refine rl_ic rfl ?_
    show Zr sc 33 6 [zp a0, zj x1] [zj 4, zj x1] w ov w' c s
    obtain ⟨hr_2, h⟩ := h
    refine Zr_br (p := x1 ≤ 4) rfl rfl (zcmp_j (cnd := .le) hr_2.1 hr_2.2) (fun hp => ?_) (fun hp => ?_)
    · replace h := h.1 hp
      show Zr sc 33 19 [zp a0, zj x1] [] w ov w' c s
      refine Zr_st (q := (20, [zp a0, zj x1], [zp a0])) rfl rfl rfl ?_
      show Zr sc 33 20 [zp a0, zj x1] [zp a0] w ov w' c s
      obtain ⟨f0_4, f1_5, f2_6, f3_7, f4_8, f5_9, f6_10, f7_11, hw_3, h⟩ := h
      obtain ⟨p_14, w_12, hk_13, h⟩ := h
      refine rn_cal0 (ins := .invokevirtual 83) (rest := []) rfl rfl rfl rfl (zinv_v (fs := _) hw_3 rfl rfl rfl rfl) rfl rfl hk_13 ?_
      show Zr sc 33 23 [zp a0, zj x1] [zp p_14] w_12 ov w' c s
      refine Zr_st (q := (24, [zp a0, zj x1], [zj x1, zp p_14])) rfl rfl rfl ?_
      show Zr sc 33 24 [zp a0, zj x1] [zj x1, zp p_14] w_12 ov w' c s
      obtain ⟨cn_15, fs_16, hw_17, hcn_18, h⟩ := h
      have hz_19 : ∃ kd, zinv 33 (.invokevirtual 128) [zj x1, zp p_14] (false, w_12) = some (kd, 34, [zp p_14, zj x1], []) ∧ decide (kd < 6) = true := by rcases hcn_18 with rfl | rfl | rfl <;> exact zinv_u hw_17 rfl rfl rfl rfl rfl rfl rfl
      obtain ⟨kd_20, hz_19⟩ := hz_19
      obtain ⟨r_23, w_21, hk_22, h⟩ := h
      refine rn_cal0 (ins := .invokevirtual 128) (rest := []) rfl rfl rfl rfl hz_19.1 rfl hz_19.2 hk_22 ?_
      show Zr sc 33 27 [zp a0, zj x1] [zj r_23] w_21 ov w' c s
      obtain ⟨h1, h2, h3, h4⟩ := h
      subst h1; subst h2; subst h3; subst h4
      exact Zr_ret (ins := .ireturn) rfl rfl
    · replace h := h.2 hp
      show Zr sc 33 9 [zp a0, zj x1] [] w ov w' c s
      exact h.elim

-- HeapwrightLab$Memory.countOf(I)I
set_option maxRecDepth 100000 in
theorem V34_0_1 {sc : List Value} {w w' : List zE} {ov : Option Value} {c s : Nat} {a0 : Nat} {x1 : Int} (h : ((zrg x1) ∧ (((x1 < 5 ∨ 7 < x1) → ((zrg x1) ∧ ((x1 < 0 → (ov = some (zj 0) ∧ w' = w ∧ c = 0 ∧ s = 0)) ∧ (¬ (x1 < 0) → ((zrg x1 ∧ zrg 5) ∧ ((5 ≤ x1 → (ov = some (zj 0) ∧ w' = w ∧ c = 0 ∧ s = 0)) ∧ (¬ (5 ≤ x1) → (∃ f0_5 : Nat, ∃ f1_6 : Nat, ∃ f2_7 : Int, ∃ f3_8 : Int, ∃ f4_9 : Int, ∃ f5_10 : Int, ∃ f6_11 : Int, ∃ f7_12 : Nat, ∃ f8_13 : Nat, ∃ f9_14 : Int, ∃ f10_15 : Int, ∃ f11_16 : Int, ∃ f12_17 : Int, w[a0]? = some (zob 1 [zp f0_5, zp f1_6, zj f2_7, zj f3_8, zj f4_9, zj f5_10, zj f6_11, zp f7_12, zp f8_13, zj f9_14, zj f10_15, zj f11_16, zj f12_17]) ∧ (∃ l_20 : List Int, w[f7_12]? = some (za l_20) ∧ ((0 ≤ x1 ∧ x1 < (l_20.length : Int) ∧ x1 ≤ 2147483647) ∧ (ov = some (zj (zgi l_20 x1)) ∧ w' = w ∧ c = 0 ∧ s = 0))))))))))) ∧ (x1 = 5 → (∃ f0_22 : Nat, ∃ f1_23 : Nat, ∃ f2_24 : Int, ∃ f3_25 : Int, ∃ f4_26 : Int, ∃ f5_27 : Int, ∃ f6_28 : Int, ∃ f7_29 : Nat, ∃ f8_30 : Nat, ∃ f9_31 : Int, ∃ f10_32 : Int, ∃ f11_33 : Int, ∃ f12_34 : Int, w[a0]? = some (zob 1 [zp f0_22, zp f1_23, zj f2_24, zj f3_25, zj f4_26, zj f5_27, zj f6_28, zp f7_29, zp f8_30, zj f9_31, zj f10_32, zj f11_33, zj f12_34]) ∧ (ov = some (zj f11_33) ∧ w' = w ∧ c = 0 ∧ s = 0))) ∧ (x1 = 6 → (∃ f0_36 : Nat, ∃ f1_37 : Nat, ∃ f2_38 : Int, ∃ f3_39 : Int, ∃ f4_40 : Int, ∃ f5_41 : Int, ∃ f6_42 : Int, ∃ f7_43 : Nat, ∃ f8_44 : Nat, ∃ f9_45 : Int, ∃ f10_46 : Int, ∃ f11_47 : Int, ∃ f12_48 : Int, w[a0]? = some (zob 1 [zp f0_36, zp f1_37, zj f2_38, zj f3_39, zj f4_40, zj f5_41, zj f6_42, zp f7_43, zp f8_44, zj f9_45, zj f10_46, zj f11_47, zj f12_48]) ∧ (∃ f0_50 : Nat, ∃ f1_51 : Nat, ∃ f2_52 : Int, w[f1_37]? = some (zob 3 [zp f0_50, zp f1_51, zj f2_52]) ∧ (∃ r_55 : Int, ∃ w_53 : List zE, Zc sc 21 [zp f1_37] w (some (zj r_55)) w_53 0 0 ∧ (ov = some (zj r_55) ∧ w' = w_53 ∧ c = 0 ∧ s = 0))))) ∧ (x1 = 7 → (∃ f0_57 : Nat, ∃ f1_58 : Nat, ∃ f2_59 : Int, ∃ f3_60 : Int, ∃ f4_61 : Int, ∃ f5_62 : Int, ∃ f6_63 : Int, ∃ f7_64 : Nat, ∃ f8_65 : Nat, ∃ f9_66 : Int, ∃ f10_67 : Int, ∃ f11_68 : Int, ∃ f12_69 : Int, w[a0]? = some (zob 1 [zp f0_57, zp f1_58, zj f2_59, zj f3_60, zj f4_61, zj f5_62, zj f6_63, zp f7_64, zp f8_65, zj f9_66, zj f10_67, zj f11_68, zj f12_69]) ∧ (∃ f0_71 : Nat, ∃ f1_72 : Nat, ∃ f2_73 : Int, w[f1_58]? = some (zob 3 [zp f0_71, zp f1_72, zj f2_73]) ∧ (∃ r_76 : Int, ∃ w_74 : List zE, Zc sc 32 [zp f1_58] w (some (zj r_76)) w_74 0 0 ∧ (ov = some (zj r_76) ∧ w' = w_74 ∧ c = 0 ∧ s = 0)))))))) : Zr sc 34 0 [zp a0, zj x1] [] w ov w' c s := by
  refine Zr_st (q := (1, [zp a0, zj x1], [zj x1])) rfl rfl rfl ?_
  show Zr sc 34 1 [zp a0, zj x1] [zj x1] w ov w' c s
  obtain ⟨hr_1, h⟩ := h
  have hsw : (x1 < 5 ∨ 7 < x1) ∨ x1 = 5 ∨ x1 = 6 ∨ x1 = 7 := by omega
  rcases hsw with hp | hp | hp | hp
  · replace h := h.1 hp
    refine rl_sw (t := 49) rfl hr_1 (zsw_d hp rfl) ?_
    show Zr sc 34 49 [zp a0, zj x1] [] w ov w' c s
    refine Zr_st (q := (50, [zp a0, zj x1], [zj x1])) rfl rfl rfl ?_
    show Zr sc 34 50 [zp a0, zj x1] [zj x1] w ov w' c s
    obtain ⟨hr_2, h⟩ := h
    refine Zr_b0 (p := x1 < 0) rfl rfl (zcmp_0 (cnd := .lt) hr_2) (fun hp => ?_) (fun hp => ?_)
    · replace h := h.1 hp
      show Zr sc 34 67 [zp a0, zj x1] [] w ov w' c s
      refine rl_ic rfl ?_
      show Zr sc 34 68 [zp a0, zj x1] [zj 0] w ov w' c s
      obtain ⟨h1, h2, h3, h4⟩ := h
      subst h1; subst h2; subst h3; subst h4
      exact Zr_ret (ins := .ireturn) rfl rfl
    · replace h := h.2 hp
      show Zr sc 34 53 [zp a0, zj x1] [] w ov w' c s
      refine Zr_st (q := (54, [zp a0, zj x1], [zj x1])) rfl rfl rfl ?_
      show Zr sc 34 54 [zp a0, zj x1] [zj x1] w ov w' c s
      refine rl_ic rfl ?_
      show Zr sc 34 55 [zp a0, zj x1] [zj 5, zj x1] w ov w' c s
      obtain ⟨hr_3, h⟩ := h
      refine Zr_br (p := 5 ≤ x1) rfl rfl (zcmp_j (cnd := .ge) hr_3.1 hr_3.2) (fun hp => ?_) (fun hp => ?_)
      · replace h := h.1 hp
        show Zr sc 34 67 [zp a0, zj x1] [] w ov w' c s
        refine rl_ic rfl ?_
        show Zr sc 34 68 [zp a0, zj x1] [zj 0] w ov w' c s
        obtain ⟨h1, h2, h3, h4⟩ := h
        subst h1; subst h2; subst h3; subst h4
        exact Zr_ret (ins := .ireturn) rfl rfl
      · replace h := h.2 hp
        show Zr sc 34 58 [zp a0, zj x1] [] w ov w' c s
        refine Zr_st (q := (59, [zp a0, zj x1], [zp a0])) rfl rfl rfl ?_
        show Zr sc 34 59 [zp a0, zj x1] [zp a0] w ov w' c s
        obtain ⟨f0_5, f1_6, f2_7, f3_8, f4_9, f5_10, f6_11, f7_12, f8_13, f9_14, f10_15, f11_16, f12_17, hw_4, h⟩ := h
        refine rl_gf rfl hw_4 rfl rfl ?_
        show Zr sc 34 62 [zp a0, zj x1] [zp f7_12] w ov w' c s
        refine Zr_st (q := (63, [zp a0, zj x1], [zj x1, zp f7_12])) rfl rfl rfl ?_
        show Zr sc 34 63 [zp a0, zj x1] [zj x1, zp f7_12] w ov w' c s
        obtain ⟨l_20, hw_19, h⟩ := h
        obtain ⟨hi_18, h⟩ := h
        refine rl_ia rfl hw_19 hi_18.1 hi_18.2.1 hi_18.2.2 ?_
        show Zr sc 34 64 [zp a0, zj x1] [zj (zgi l_20 x1)] w ov w' c s
        refine Zr_st (q := (68, [zp a0, zj x1], [zj (zgi l_20 x1)])) rfl rfl rfl ?_
        show Zr sc 34 68 [zp a0, zj x1] [zj (zgi l_20 x1)] w ov w' c s
        obtain ⟨h1, h2, h3, h4⟩ := h
        subst h1; subst h2; subst h3; subst h4
        exact Zr_ret (ins := .ireturn) rfl rfl
  · replace h := h.2.1 hp
    refine rl_sw (t := 28) rfl hr_1 (by rw [hp]; rfl) ?_
    show Zr sc 34 28 [zp a0, zj x1] [] w ov w' c s
    refine Zr_st (q := (29, [zp a0, zj x1], [zp a0])) rfl rfl rfl ?_
    show Zr sc 34 29 [zp a0, zj x1] [zp a0] w ov w' c s
    obtain ⟨f0_22, f1_23, f2_24, f3_25, f4_26, f5_27, f6_28, f7_29, f8_30, f9_31, f10_32, f11_33, f12_34, hw_21, h⟩ := h
    refine rl_gf rfl hw_21 rfl rfl ?_
    show Zr sc 34 32 [zp a0, zj x1] [zj f11_33] w ov w' c s
    obtain ⟨h1, h2, h3, h4⟩ := h
    subst h1; subst h2; subst h3; subst h4
    exact Zr_ret (ins := .ireturn) rfl rfl
  · replace h := h.2.2.1 hp
    refine rl_sw (t := 33) rfl hr_1 (by rw [hp]; rfl) ?_
    show Zr sc 34 33 [zp a0, zj x1] [] w ov w' c s
    refine Zr_st (q := (34, [zp a0, zj x1], [zp a0])) rfl rfl rfl ?_
    show Zr sc 34 34 [zp a0, zj x1] [zp a0] w ov w' c s
    obtain ⟨f0_36, f1_37, f2_38, f3_39, f4_40, f5_41, f6_42, f7_43, f8_44, f9_45, f10_46, f11_47, f12_48, hw_35, h⟩ := h
    refine rl_gf rfl hw_35 rfl rfl ?_
    show Zr sc 34 37 [zp a0, zj x1] [zp f1_37] w ov w' c s
    obtain ⟨f0_50, f1_51, f2_52, hw_49, h⟩ := h
    obtain ⟨r_55, w_53, hk_54, h⟩ := h
    refine rn_cal0 (ins := .invokevirtual 118) (rest := []) rfl rfl rfl rfl (zinv_v (fs := _) hw_49 rfl rfl rfl rfl) rfl rfl hk_54 ?_
    show Zr sc 34 40 [zp a0, zj x1] [zj r_55] w_53 ov w' c s
    obtain ⟨h1, h2, h3, h4⟩ := h
    subst h1; subst h2; subst h3; subst h4
    exact Zr_ret (ins := .ireturn) rfl rfl
  · replace h := h.2.2.2 hp
    refine rl_sw (t := 41) rfl hr_1 (by rw [hp]; rfl) ?_
    show Zr sc 34 41 [zp a0, zj x1] [] w ov w' c s
    refine Zr_st (q := (42, [zp a0, zj x1], [zp a0])) rfl rfl rfl ?_
    show Zr sc 34 42 [zp a0, zj x1] [zp a0] w ov w' c s
    obtain ⟨f0_57, f1_58, f2_59, f3_60, f4_61, f5_62, f6_63, f7_64, f8_65, f9_66, f10_67, f11_68, f12_69, hw_56, h⟩ := h
    refine rl_gf rfl hw_56 rfl rfl ?_
    show Zr sc 34 45 [zp a0, zj x1] [zp f1_58] w ov w' c s
    obtain ⟨f0_71, f1_72, f2_73, hw_70, h⟩ := h
    obtain ⟨r_76, w_74, hk_75, h⟩ := h
    refine rn_cal0 (ins := .invokevirtual 121) (rest := []) rfl rfl rfl rfl (zinv_v (fs := _) hw_70 rfl rfl rfl rfl) rfl rfl hk_75 ?_
    show Zr sc 34 48 [zp a0, zj x1] [zj r_76] w_74 ov w' c s
    obtain ⟨h1, h2, h3, h4⟩ := h
    subst h1; subst h2; subst h3; subst h4
    exact Zr_ret (ins := .ireturn) rfl rfl

-- HeapwrightLab$Memory.countOf(I)I
set_option maxRecDepth 100000 in
theorem V34_0_2 {sc : List Value} {w w' : List zE} {ov : Option Value} {c s : Nat} {a0 : Nat} {x1 : Int} (h : ((zrg x1) ∧ (((x1 < 5 ∨ 7 < x1) → ((zrg x1) ∧ ((x1 < 0 → (ov = some (zj 0) ∧ w' = w ∧ c = 0 ∧ s = 0)) ∧ (¬ (x1 < 0) → ((zrg x1 ∧ zrg 5) ∧ ((5 ≤ x1 → (ov = some (zj 0) ∧ w' = w ∧ c = 0 ∧ s = 0)) ∧ (¬ (5 ≤ x1) → (∃ f0_5 : Nat, ∃ f1_6 : Nat, ∃ f2_7 : Int, ∃ f3_8 : Int, ∃ f4_9 : Int, ∃ f5_10 : Int, ∃ f6_11 : Int, ∃ f7_12 : Nat, ∃ f8_13 : Nat, ∃ f9_14 : Int, ∃ f10_15 : Int, ∃ f11_16 : Int, ∃ f12_17 : Int, w[a0]? = some (zob 2 [zp f0_5, zp f1_6, zj f2_7, zj f3_8, zj f4_9, zj f5_10, zj f6_11, zp f7_12, zp f8_13, zj f9_14, zj f10_15, zj f11_16, zj f12_17]) ∧ (∃ l_20 : List Int, w[f7_12]? = some (za l_20) ∧ ((0 ≤ x1 ∧ x1 < (l_20.length : Int) ∧ x1 ≤ 2147483647) ∧ (ov = some (zj (zgi l_20 x1)) ∧ w' = w ∧ c = 0 ∧ s = 0))))))))))) ∧ (x1 = 5 → (∃ f0_22 : Nat, ∃ f1_23 : Nat, ∃ f2_24 : Int, ∃ f3_25 : Int, ∃ f4_26 : Int, ∃ f5_27 : Int, ∃ f6_28 : Int, ∃ f7_29 : Nat, ∃ f8_30 : Nat, ∃ f9_31 : Int, ∃ f10_32 : Int, ∃ f11_33 : Int, ∃ f12_34 : Int, w[a0]? = some (zob 2 [zp f0_22, zp f1_23, zj f2_24, zj f3_25, zj f4_26, zj f5_27, zj f6_28, zp f7_29, zp f8_30, zj f9_31, zj f10_32, zj f11_33, zj f12_34]) ∧ (ov = some (zj f11_33) ∧ w' = w ∧ c = 0 ∧ s = 0))) ∧ (x1 = 6 → (∃ f0_36 : Nat, ∃ f1_37 : Nat, ∃ f2_38 : Int, ∃ f3_39 : Int, ∃ f4_40 : Int, ∃ f5_41 : Int, ∃ f6_42 : Int, ∃ f7_43 : Nat, ∃ f8_44 : Nat, ∃ f9_45 : Int, ∃ f10_46 : Int, ∃ f11_47 : Int, ∃ f12_48 : Int, w[a0]? = some (zob 2 [zp f0_36, zp f1_37, zj f2_38, zj f3_39, zj f4_40, zj f5_41, zj f6_42, zp f7_43, zp f8_44, zj f9_45, zj f10_46, zj f11_47, zj f12_48]) ∧ (∃ f0_50 : Nat, ∃ f1_51 : Nat, ∃ f2_52 : Int, w[f1_37]? = some (zob 3 [zp f0_50, zp f1_51, zj f2_52]) ∧ (∃ r_55 : Int, ∃ w_53 : List zE, Zc sc 21 [zp f1_37] w (some (zj r_55)) w_53 0 0 ∧ (ov = some (zj r_55) ∧ w' = w_53 ∧ c = 0 ∧ s = 0))))) ∧ (x1 = 7 → (∃ f0_57 : Nat, ∃ f1_58 : Nat, ∃ f2_59 : Int, ∃ f3_60 : Int, ∃ f4_61 : Int, ∃ f5_62 : Int, ∃ f6_63 : Int, ∃ f7_64 : Nat, ∃ f8_65 : Nat, ∃ f9_66 : Int, ∃ f10_67 : Int, ∃ f11_68 : Int, ∃ f12_69 : Int, w[a0]? = some (zob 2 [zp f0_57, zp f1_58, zj f2_59, zj f3_60, zj f4_61, zj f5_62, zj f6_63, zp f7_64, zp f8_65, zj f9_66, zj f10_67, zj f11_68, zj f12_69]) ∧ (∃ f0_71 : Nat, ∃ f1_72 : Nat, ∃ f2_73 : Int, w[f1_58]? = some (zob 3 [zp f0_71, zp f1_72, zj f2_73]) ∧ (∃ r_76 : Int, ∃ w_74 : List zE, Zc sc 32 [zp f1_58] w (some (zj r_76)) w_74 0 0 ∧ (ov = some (zj r_76) ∧ w' = w_74 ∧ c = 0 ∧ s = 0)))))))) : Zr sc 34 0 [zp a0, zj x1] [] w ov w' c s := by
  refine Zr_st (q := (1, [zp a0, zj x1], [zj x1])) rfl rfl rfl ?_
  show Zr sc 34 1 [zp a0, zj x1] [zj x1] w ov w' c s
  obtain ⟨hr_1, h⟩ := h
  have hsw : (x1 < 5 ∨ 7 < x1) ∨ x1 = 5 ∨ x1 = 6 ∨ x1 = 7 := by omega
  rcases hsw with hp | hp | hp | hp
  · replace h := h.1 hp
    refine rl_sw (t := 49) rfl hr_1 (zsw_d hp rfl) ?_
    show Zr sc 34 49 [zp a0, zj x1] [] w ov w' c s
    refine Zr_st (q := (50, [zp a0, zj x1], [zj x1])) rfl rfl rfl ?_
    show Zr sc 34 50 [zp a0, zj x1] [zj x1] w ov w' c s
    obtain ⟨hr_2, h⟩ := h
    refine Zr_b0 (p := x1 < 0) rfl rfl (zcmp_0 (cnd := .lt) hr_2) (fun hp => ?_) (fun hp => ?_)
    · replace h := h.1 hp
      show Zr sc 34 67 [zp a0, zj x1] [] w ov w' c s
      refine rl_ic rfl ?_
      show Zr sc 34 68 [zp a0, zj x1] [zj 0] w ov w' c s
      obtain ⟨h1, h2, h3, h4⟩ := h
      subst h1; subst h2; subst h3; subst h4
      exact Zr_ret (ins := .ireturn) rfl rfl
    · replace h := h.2 hp
      show Zr sc 34 53 [zp a0, zj x1] [] w ov w' c s
      refine Zr_st (q := (54, [zp a0, zj x1], [zj x1])) rfl rfl rfl ?_
      show Zr sc 34 54 [zp a0, zj x1] [zj x1] w ov w' c s
      refine rl_ic rfl ?_
      show Zr sc 34 55 [zp a0, zj x1] [zj 5, zj x1] w ov w' c s
      obtain ⟨hr_3, h⟩ := h
      refine Zr_br (p := 5 ≤ x1) rfl rfl (zcmp_j (cnd := .ge) hr_3.1 hr_3.2) (fun hp => ?_) (fun hp => ?_)
      · replace h := h.1 hp
        show Zr sc 34 67 [zp a0, zj x1] [] w ov w' c s
        refine rl_ic rfl ?_
        show Zr sc 34 68 [zp a0, zj x1] [zj 0] w ov w' c s
        obtain ⟨h1, h2, h3, h4⟩ := h
        subst h1; subst h2; subst h3; subst h4
        exact Zr_ret (ins := .ireturn) rfl rfl
      · replace h := h.2 hp
        show Zr sc 34 58 [zp a0, zj x1] [] w ov w' c s
        refine Zr_st (q := (59, [zp a0, zj x1], [zp a0])) rfl rfl rfl ?_
        show Zr sc 34 59 [zp a0, zj x1] [zp a0] w ov w' c s
        obtain ⟨f0_5, f1_6, f2_7, f3_8, f4_9, f5_10, f6_11, f7_12, f8_13, f9_14, f10_15, f11_16, f12_17, hw_4, h⟩ := h
        refine rl_gf rfl hw_4 rfl rfl ?_
        show Zr sc 34 62 [zp a0, zj x1] [zp f7_12] w ov w' c s
        refine Zr_st (q := (63, [zp a0, zj x1], [zj x1, zp f7_12])) rfl rfl rfl ?_
        show Zr sc 34 63 [zp a0, zj x1] [zj x1, zp f7_12] w ov w' c s
        obtain ⟨l_20, hw_19, h⟩ := h
        obtain ⟨hi_18, h⟩ := h
        refine rl_ia rfl hw_19 hi_18.1 hi_18.2.1 hi_18.2.2 ?_
        show Zr sc 34 64 [zp a0, zj x1] [zj (zgi l_20 x1)] w ov w' c s
        refine Zr_st (q := (68, [zp a0, zj x1], [zj (zgi l_20 x1)])) rfl rfl rfl ?_
        show Zr sc 34 68 [zp a0, zj x1] [zj (zgi l_20 x1)] w ov w' c s
        obtain ⟨h1, h2, h3, h4⟩ := h
        subst h1; subst h2; subst h3; subst h4
        exact Zr_ret (ins := .ireturn) rfl rfl
  · replace h := h.2.1 hp
    refine rl_sw (t := 28) rfl hr_1 (by rw [hp]; rfl) ?_
    show Zr sc 34 28 [zp a0, zj x1] [] w ov w' c s
    refine Zr_st (q := (29, [zp a0, zj x1], [zp a0])) rfl rfl rfl ?_
    show Zr sc 34 29 [zp a0, zj x1] [zp a0] w ov w' c s
    obtain ⟨f0_22, f1_23, f2_24, f3_25, f4_26, f5_27, f6_28, f7_29, f8_30, f9_31, f10_32, f11_33, f12_34, hw_21, h⟩ := h
    refine rl_gf rfl hw_21 rfl rfl ?_
    show Zr sc 34 32 [zp a0, zj x1] [zj f11_33] w ov w' c s
    obtain ⟨h1, h2, h3, h4⟩ := h
    subst h1; subst h2; subst h3; subst h4
    exact Zr_ret (ins := .ireturn) rfl rfl
  · replace h := h.2.2.1 hp
    refine rl_sw (t := 33) rfl hr_1 (by rw [hp]; rfl) ?_
    show Zr sc 34 33 [zp a0, zj x1] [] w ov w' c s
    refine Zr_st (q := (34, [zp a0, zj x1], [zp a0])) rfl rfl rfl ?_
    show Zr sc 34 34 [zp a0, zj x1] [zp a0] w ov w' c s
    obtain ⟨f0_36, f1_37, f2_38, f3_39, f4_40, f5_41, f6_42, f7_43, f8_44, f9_45, f10_46, f11_47, f12_48, hw_35, h⟩ := h
    refine rl_gf rfl hw_35 rfl rfl ?_
    show Zr sc 34 37 [zp a0, zj x1] [zp f1_37] w ov w' c s
    obtain ⟨f0_50, f1_51, f2_52, hw_49, h⟩ := h
    obtain ⟨r_55, w_53, hk_54, h⟩ := h
    refine rn_cal0 (ins := .invokevirtual 118) (rest := []) rfl rfl rfl rfl (zinv_v (fs := _) hw_49 rfl rfl rfl rfl) rfl rfl hk_54 ?_
    show Zr sc 34 40 [zp a0, zj x1] [zj r_55] w_53 ov w' c s
    obtain ⟨h1, h2, h3, h4⟩ := h
    subst h1; subst h2; subst h3; subst h4
    exact Zr_ret (ins := .ireturn) rfl rfl
  · replace h := h.2.2.2 hp
    refine rl_sw (t := 41) rfl hr_1 (by rw [hp]; rfl) ?_
    show Zr sc 34 41 [zp a0, zj x1] [] w ov w' c s
    refine Zr_st (q := (42, [zp a0, zj x1], [zp a0])) rfl rfl rfl ?_
    show Zr sc 34 42 [zp a0, zj x1] [zp a0] w ov w' c s
    obtain ⟨f0_57, f1_58, f2_59, f3_60, f4_61, f5_62, f6_63, f7_64, f8_65, f9_66, f10_67, f11_68, f12_69, hw_56, h⟩ := h
    refine rl_gf rfl hw_56 rfl rfl ?_
    show Zr sc 34 45 [zp a0, zj x1] [zp f1_58] w ov w' c s
    obtain ⟨f0_71, f1_72, f2_73, hw_70, h⟩ := h
    obtain ⟨r_76, w_74, hk_75, h⟩ := h
    refine rn_cal0 (ins := .invokevirtual 121) (rest := []) rfl rfl rfl rfl (zinv_v (fs := _) hw_70 rfl rfl rfl rfl) rfl rfl hk_75 ?_
    show Zr sc 34 48 [zp a0, zj x1] [zj r_76] w_74 ov w' c s
    obtain ⟨h1, h2, h3, h4⟩ := h
    subst h1; subst h2; subst h3; subst h4
    exact Zr_ret (ins := .ireturn) rfl rfl

-- HeapwrightLab$Memory.countOf(I)I
set_option maxRecDepth 100000 in
theorem V34_0_4 {sc : List Value} {w w' : List zE} {ov : Option Value} {c s : Nat} {a0 : Nat} {x1 : Int} (h : ((zrg x1) ∧ (((x1 < 5 ∨ 7 < x1) → ((zrg x1) ∧ ((x1 < 0 → (ov = some (zj 0) ∧ w' = w ∧ c = 0 ∧ s = 0)) ∧ (¬ (x1 < 0) → ((zrg x1 ∧ zrg 5) ∧ ((5 ≤ x1 → (ov = some (zj 0) ∧ w' = w ∧ c = 0 ∧ s = 0)) ∧ (¬ (5 ≤ x1) → (∃ f0_5 : Nat, ∃ f1_6 : Nat, ∃ f2_7 : Int, ∃ f3_8 : Int, ∃ f4_9 : Int, ∃ f5_10 : Int, ∃ f6_11 : Int, ∃ f7_12 : Nat, ∃ f8_13 : Nat, ∃ f9_14 : Int, ∃ f10_15 : Int, ∃ f11_16 : Int, ∃ f12_17 : Int, ∃ f13_18 : Nat, w[a0]? = some (zob 4 [zp f0_5, zp f1_6, zj f2_7, zj f3_8, zj f4_9, zj f5_10, zj f6_11, zp f7_12, zp f8_13, zj f9_14, zj f10_15, zj f11_16, zj f12_17, zp f13_18]) ∧ (∃ l_21 : List Int, w[f7_12]? = some (za l_21) ∧ ((0 ≤ x1 ∧ x1 < (l_21.length : Int) ∧ x1 ≤ 2147483647) ∧ (ov = some (zj (zgi l_21 x1)) ∧ w' = w ∧ c = 0 ∧ s = 0))))))))))) ∧ (x1 = 5 → (∃ f0_23 : Nat, ∃ f1_24 : Nat, ∃ f2_25 : Int, ∃ f3_26 : Int, ∃ f4_27 : Int, ∃ f5_28 : Int, ∃ f6_29 : Int, ∃ f7_30 : Nat, ∃ f8_31 : Nat, ∃ f9_32 : Int, ∃ f10_33 : Int, ∃ f11_34 : Int, ∃ f12_35 : Int, ∃ f13_36 : Nat, w[a0]? = some (zob 4 [zp f0_23, zp f1_24, zj f2_25, zj f3_26, zj f4_27, zj f5_28, zj f6_29, zp f7_30, zp f8_31, zj f9_32, zj f10_33, zj f11_34, zj f12_35, zp f13_36]) ∧ (ov = some (zj f11_34) ∧ w' = w ∧ c = 0 ∧ s = 0))) ∧ (x1 = 6 → (∃ f0_38 : Nat, ∃ f1_39 : Nat, ∃ f2_40 : Int, ∃ f3_41 : Int, ∃ f4_42 : Int, ∃ f5_43 : Int, ∃ f6_44 : Int, ∃ f7_45 : Nat, ∃ f8_46 : Nat, ∃ f9_47 : Int, ∃ f10_48 : Int, ∃ f11_49 : Int, ∃ f12_50 : Int, ∃ f13_51 : Nat, w[a0]? = some (zob 4 [zp f0_38, zp f1_39, zj f2_40, zj f3_41, zj f4_42, zj f5_43, zj f6_44, zp f7_45, zp f8_46, zj f9_47, zj f10_48, zj f11_49, zj f12_50, zp f13_51]) ∧ (∃ f0_53 : Nat, ∃ f1_54 : Nat, ∃ f2_55 : Int, w[f1_39]? = some (zob 3 [zp f0_53, zp f1_54, zj f2_55]) ∧ (∃ r_58 : Int, ∃ w_56 : List zE, Zc sc 21 [zp f1_39] w (some (zj r_58)) w_56 0 0 ∧ (ov = some (zj r_58) ∧ w' = w_56 ∧ c = 0 ∧ s = 0))))) ∧ (x1 = 7 → (∃ f0_60 : Nat, ∃ f1_61 : Nat, ∃ f2_62 : Int, ∃ f3_63 : Int, ∃ f4_64 : Int, ∃ f5_65 : Int, ∃ f6_66 : Int, ∃ f7_67 : Nat, ∃ f8_68 : Nat, ∃ f9_69 : Int, ∃ f10_70 : Int, ∃ f11_71 : Int, ∃ f12_72 : Int, ∃ f13_73 : Nat, w[a0]? = some (zob 4 [zp f0_60, zp f1_61, zj f2_62, zj f3_63, zj f4_64, zj f5_65, zj f6_66, zp f7_67, zp f8_68, zj f9_69, zj f10_70, zj f11_71, zj f12_72, zp f13_73]) ∧ (∃ f0_75 : Nat, ∃ f1_76 : Nat, ∃ f2_77 : Int, w[f1_61]? = some (zob 3 [zp f0_75, zp f1_76, zj f2_77]) ∧ (∃ r_80 : Int, ∃ w_78 : List zE, Zc sc 32 [zp f1_61] w (some (zj r_80)) w_78 0 0 ∧ (ov = some (zj r_80) ∧ w' = w_78 ∧ c = 0 ∧ s = 0)))))))) : Zr sc 34 0 [zp a0, zj x1] [] w ov w' c s := by
  refine Zr_st (q := (1, [zp a0, zj x1], [zj x1])) rfl rfl rfl ?_
  show Zr sc 34 1 [zp a0, zj x1] [zj x1] w ov w' c s
  obtain ⟨hr_1, h⟩ := h
  have hsw : (x1 < 5 ∨ 7 < x1) ∨ x1 = 5 ∨ x1 = 6 ∨ x1 = 7 := by omega
  rcases hsw with hp | hp | hp | hp
  · replace h := h.1 hp
    refine rl_sw (t := 49) rfl hr_1 (zsw_d hp rfl) ?_
    show Zr sc 34 49 [zp a0, zj x1] [] w ov w' c s
    refine Zr_st (q := (50, [zp a0, zj x1], [zj x1])) rfl rfl rfl ?_
    show Zr sc 34 50 [zp a0, zj x1] [zj x1] w ov w' c s
    obtain ⟨hr_2, h⟩ := h
    refine Zr_b0 (p := x1 < 0) rfl rfl (zcmp_0 (cnd := .lt) hr_2) (fun hp => ?_) (fun hp => ?_)
    · replace h := h.1 hp
      show Zr sc 34 67 [zp a0, zj x1] [] w ov w' c s
      refine rl_ic rfl ?_
      show Zr sc 34 68 [zp a0, zj x1] [zj 0] w ov w' c s
      obtain ⟨h1, h2, h3, h4⟩ := h
      subst h1; subst h2; subst h3; subst h4
      exact Zr_ret (ins := .ireturn) rfl rfl
    · replace h := h.2 hp
      show Zr sc 34 53 [zp a0, zj x1] [] w ov w' c s
      refine Zr_st (q := (54, [zp a0, zj x1], [zj x1])) rfl rfl rfl ?_
      show Zr sc 34 54 [zp a0, zj x1] [zj x1] w ov w' c s
      refine rl_ic rfl ?_
      show Zr sc 34 55 [zp a0, zj x1] [zj 5, zj x1] w ov w' c s
      obtain ⟨hr_3, h⟩ := h
      refine Zr_br (p := 5 ≤ x1) rfl rfl (zcmp_j (cnd := .ge) hr_3.1 hr_3.2) (fun hp => ?_) (fun hp => ?_)
      · replace h := h.1 hp
        show Zr sc 34 67 [zp a0, zj x1] [] w ov w' c s
        refine rl_ic rfl ?_
        show Zr sc 34 68 [zp a0, zj x1] [zj 0] w ov w' c s
        obtain ⟨h1, h2, h3, h4⟩ := h
        subst h1; subst h2; subst h3; subst h4
        exact Zr_ret (ins := .ireturn) rfl rfl
      · replace h := h.2 hp
        show Zr sc 34 58 [zp a0, zj x1] [] w ov w' c s
        refine Zr_st (q := (59, [zp a0, zj x1], [zp a0])) rfl rfl rfl ?_
        show Zr sc 34 59 [zp a0, zj x1] [zp a0] w ov w' c s
        obtain ⟨f0_5, f1_6, f2_7, f3_8, f4_9, f5_10, f6_11, f7_12, f8_13, f9_14, f10_15, f11_16, f12_17, f13_18, hw_4, h⟩ := h
        refine rl_gf rfl hw_4 rfl rfl ?_
        show Zr sc 34 62 [zp a0, zj x1] [zp f7_12] w ov w' c s
        refine Zr_st (q := (63, [zp a0, zj x1], [zj x1, zp f7_12])) rfl rfl rfl ?_
        show Zr sc 34 63 [zp a0, zj x1] [zj x1, zp f7_12] w ov w' c s
        obtain ⟨l_21, hw_20, h⟩ := h
        obtain ⟨hi_19, h⟩ := h
        refine rl_ia rfl hw_20 hi_19.1 hi_19.2.1 hi_19.2.2 ?_
        show Zr sc 34 64 [zp a0, zj x1] [zj (zgi l_21 x1)] w ov w' c s
        refine Zr_st (q := (68, [zp a0, zj x1], [zj (zgi l_21 x1)])) rfl rfl rfl ?_
        show Zr sc 34 68 [zp a0, zj x1] [zj (zgi l_21 x1)] w ov w' c s
        obtain ⟨h1, h2, h3, h4⟩ := h
        subst h1; subst h2; subst h3; subst h4
        exact Zr_ret (ins := .ireturn) rfl rfl
  · replace h := h.2.1 hp
    refine rl_sw (t := 28) rfl hr_1 (by rw [hp]; rfl) ?_
    show Zr sc 34 28 [zp a0, zj x1] [] w ov w' c s
    refine Zr_st (q := (29, [zp a0, zj x1], [zp a0])) rfl rfl rfl ?_
    show Zr sc 34 29 [zp a0, zj x1] [zp a0] w ov w' c s
    obtain ⟨f0_23, f1_24, f2_25, f3_26, f4_27, f5_28, f6_29, f7_30, f8_31, f9_32, f10_33, f11_34, f12_35, f13_36, hw_22, h⟩ := h
    refine rl_gf rfl hw_22 rfl rfl ?_
    show Zr sc 34 32 [zp a0, zj x1] [zj f11_34] w ov w' c s
    obtain ⟨h1, h2, h3, h4⟩ := h
    subst h1; subst h2; subst h3; subst h4
    exact Zr_ret (ins := .ireturn) rfl rfl
  · replace h := h.2.2.1 hp
    refine rl_sw (t := 33) rfl hr_1 (by rw [hp]; rfl) ?_
    show Zr sc 34 33 [zp a0, zj x1] [] w ov w' c s
    refine Zr_st (q := (34, [zp a0, zj x1], [zp a0])) rfl rfl rfl ?_
    show Zr sc 34 34 [zp a0, zj x1] [zp a0] w ov w' c s
    obtain ⟨f0_38, f1_39, f2_40, f3_41, f4_42, f5_43, f6_44, f7_45, f8_46, f9_47, f10_48, f11_49, f12_50, f13_51, hw_37, h⟩ := h
    refine rl_gf rfl hw_37 rfl rfl ?_
    show Zr sc 34 37 [zp a0, zj x1] [zp f1_39] w ov w' c s
    obtain ⟨f0_53, f1_54, f2_55, hw_52, h⟩ := h
    obtain ⟨r_58, w_56, hk_57, h⟩ := h
    refine rn_cal0 (ins := .invokevirtual 118) (rest := []) rfl rfl rfl rfl (zinv_v (fs := _) hw_52 rfl rfl rfl rfl) rfl rfl hk_57 ?_
    show Zr sc 34 40 [zp a0, zj x1] [zj r_58] w_56 ov w' c s
    obtain ⟨h1, h2, h3, h4⟩ := h
    subst h1; subst h2; subst h3; subst h4
    exact Zr_ret (ins := .ireturn) rfl rfl
  · replace h := h.2.2.2 hp
    refine rl_sw (t := 41) rfl hr_1 (by rw [hp]; rfl) ?_
    show Zr sc 34 41 [zp a0, zj x1] [] w ov w' c s
    refine Zr_st (q := (42, [zp a0, zj x1], [zp a0])) rfl rfl rfl ?_
    show Zr sc 34 42 [zp a0, zj x1] [zp a0] w ov w' c s
    obtain ⟨f0_60, f1_61, f2_62, f3_63, f4_64, f5_65, f6_66, f7_67, f8_68, f9_69, f10_70, f11_71, f12_72, f13_73, hw_59, h⟩ := h
    refine rl_gf rfl hw_59 rfl rfl ?_
    show Zr sc 34 45 [zp a0, zj x1] [zp f1_61] w ov w' c s
    obtain ⟨f0_75, f1_76, f2_77, hw_74, h⟩ := h
    obtain ⟨r_80, w_78, hk_79, h⟩ := h
    refine rn_cal0 (ins := .invokevirtual 121) (rest := []) rfl rfl rfl rfl (zinv_v (fs := _) hw_74 rfl rfl rfl rfl) rfl rfl hk_79 ?_
    show Zr sc 34 48 [zp a0, zj x1] [zj r_80] w_78 ov w' c s
    obtain ⟨h1, h2, h3, h4⟩ := h
    subst h1; subst h2; subst h3; subst h4
    exact Zr_ret (ins := .ireturn) rfl rfl

-- HeapwrightLab.peak()I
set_option maxRecDepth 100000 in
theorem V35_0 {sc : List Value} {w w' : List zE} {ov : Option Value} {c s : Nat} {a0 : Nat} (h : (∃ f0_2 : Nat, ∃ f1_3 : Nat, ∃ f2_4 : Nat, ∃ f3_5 : Nat, ∃ f4_6 : Nat, ∃ f5_7 : Nat, ∃ f6_8 : Nat, ∃ f7_9 : Int, w[a0]? = some (zob 6 [zp f0_2, zp f1_3, zp f2_4, zp f3_5, zp f4_6, zp f5_7, zp f6_8, zj f7_9]) ∧ (∃ p_12 : Nat, ∃ w_10 : List zE, Zc sc 1 [zp a0] w (some (zp p_12)) w_10 0 0 ∧ (∃ cn_13 : Nat, ∃ fs_14 : List Value, w_10[p_12]? = some (zob cn_13 fs_14) ∧ (cn_13 = 1 ∨ cn_13 = 2 ∨ cn_13 = 4) ∧ (∃ r_21 : Int, ∃ w_19 : List zE, Zc sc 34 [zp p_12, zj 5] w_10 (some (zj r_21)) w_19 0 0 ∧ (ov = some (zj r_21) ∧ w' = w_19 ∧ c = 0 ∧ s = 0)))))) : Zr sc 35 0 [zp a0] [] w ov w' c s := by
  refine Zr_st (q := (1, [zp a0], [zp a0])) rfl rfl rfl ?_
  show Zr sc 35 1 [zp a0] [zp a0] w ov w' c s
  obtain ⟨f0_2, f1_3, f2_4, f3_5, f4_6, f5_7, f6_8, f7_9, hw_1, h⟩ := h
  obtain ⟨p_12, w_10, hk_11, h⟩ := h
  refine rn_cal0 (ins := .invokevirtual 83) (rest := []) rfl rfl rfl rfl (zinv_v (fs := _) hw_1 rfl rfl rfl rfl) rfl rfl hk_11 ?_
  show Zr sc 35 4 [zp a0] [zp p_12] w_10 ov w' c s
  refine rl_ic rfl ?_
  show Zr sc 35 5 [zp a0] [zj 5, zp p_12] w_10 ov w' c s
  obtain ⟨cn_13, fs_14, hw_15, hcn_16, h⟩ := h
  have hz_17 : ∃ kd, zinv 35 (.invokevirtual 128) [zj 5, zp p_12] (false, w_10) = some (kd, 34, [zp p_12, zj 5], []) ∧ decide (kd < 6) = true := by rcases hcn_16 with rfl | rfl | rfl <;> exact zinv_u hw_15 rfl rfl rfl rfl rfl rfl rfl
  obtain ⟨kd_18, hz_17⟩ := hz_17
  obtain ⟨r_21, w_19, hk_20, h⟩ := h
  refine rn_cal0 (ins := .invokevirtual 128) (rest := []) rfl rfl rfl rfl hz_17.1 rfl hz_17.2 hk_20 ?_
  show Zr sc 35 8 [zp a0] [zj r_21] w_19 ov w' c s
  obtain ⟨h1, h2, h3, h4⟩ := h
  subst h1; subst h2; subst h3; subst h4
  exact Zr_ret (ins := .ireturn) rfl rfl

-- HeapwrightLab.wouldBe(I)I
set_option maxRecDepth 100000 in
theorem V36_0 {sc : List Value} {w w' : List zE} {ov : Option Value} {c s : Nat} {a0 : Nat} {x1 : Int} (h : (∃ w_1 : List zE, Zc sc 37 [zj x1] w none w_1 0 0 ∧ (∃ f0_4 : Nat, ∃ f1_5 : Nat, ∃ f2_6 : Nat, ∃ f3_7 : Nat, ∃ f4_8 : Nat, ∃ f5_9 : Nat, ∃ f6_10 : Nat, ∃ f7_11 : Int, w_1[a0]? = some (zob 6 [zp f0_4, zp f1_5, zp f2_6, zp f3_7, zp f4_8, zp f5_9, zp f6_10, zj f7_11]) ∧ (∃ p_14 : Nat, ∃ w_12 : List zE, Zc sc 1 [zp a0] w_1 (some (zp p_14)) w_12 0 0 ∧ (∃ cn_15 : Nat, ∃ fs_16 : List Value, w_12[p_14]? = some (zob cn_15 fs_16) ∧ (cn_15 = 1 ∨ cn_15 = 2 ∨ cn_15 = 4) ∧ (∃ r_23 : Int, ∃ w_21 : List zE, Zc sc 38 [zp p_14, zj x1] w_12 (some (zj r_23)) w_21 0 0 ∧ (ov = some (zj r_23) ∧ w' = w_21 ∧ c = 0 ∧ s = 0))))))) : Zr sc 36 0 [zp a0, zj x1] [] w ov w' c s := by
  refine Zr_st (q := (1, [zp a0, zj x1], [zj x1])) rfl rfl rfl ?_
  show Zr sc 36 1 [zp a0, zj x1] [zj x1] w ov w' c s
  obtain ⟨w_1, hk_2, h⟩ := h
  refine rn_cal0 (ins := .invokestatic 80) (rest := []) rfl rfl rfl rfl (zinv_t rfl rfl rfl rfl) rfl rfl hk_2 ?_
  show Zr sc 36 4 [zp a0, zj x1] [] w_1 ov w' c s
  refine Zr_st (q := (5, [zp a0, zj x1], [zp a0])) rfl rfl rfl ?_
  show Zr sc 36 5 [zp a0, zj x1] [zp a0] w_1 ov w' c s
  obtain ⟨f0_4, f1_5, f2_6, f3_7, f4_8, f5_9, f6_10, f7_11, hw_3, h⟩ := h
  obtain ⟨p_14, w_12, hk_13, h⟩ := h
  refine rn_cal0 (ins := .invokevirtual 83) (rest := []) rfl rfl rfl rfl (zinv_v (fs := _) hw_3 rfl rfl rfl rfl) rfl rfl hk_13 ?_
  show Zr sc 36 8 [zp a0, zj x1] [zp p_14] w_12 ov w' c s
  refine Zr_st (q := (9, [zp a0, zj x1], [zj x1, zp p_14])) rfl rfl rfl ?_
  show Zr sc 36 9 [zp a0, zj x1] [zj x1, zp p_14] w_12 ov w' c s
  obtain ⟨cn_15, fs_16, hw_17, hcn_18, h⟩ := h
  have hz_19 : ∃ kd, zinv 36 (.invokevirtual 189) [zj x1, zp p_14] (false, w_12) = some (kd, 38, [zp p_14, zj x1], []) ∧ decide (kd < 6) = true := by rcases hcn_18 with rfl | rfl | rfl <;> exact zinv_u hw_17 rfl rfl rfl rfl rfl rfl rfl
  obtain ⟨kd_20, hz_19⟩ := hz_19
  obtain ⟨r_23, w_21, hk_22, h⟩ := h
  refine rn_cal0 (ins := .invokevirtual 189) (rest := []) rfl rfl rfl rfl hz_19.1 rfl hz_19.2 hk_22 ?_
  show Zr sc 36 12 [zp a0, zj x1] [zj r_23] w_21 ov w' c s
  obtain ⟨h1, h2, h3, h4⟩ := h
  subst h1; subst h2; subst h3; subst h4
  exact Zr_ret (ins := .ireturn) rfl rfl

-- HeapwrightLab.requireSize(I)V
set_option maxRecDepth 100000 in
theorem V37_0 {sc : List Value} {w w' : List zE} {ov : Option Value} {c s : Nat} {x0 : Int} (h : ((zrg x0 ∧ zrg 1) ∧ ((x0 < 1 → False) ∧ (¬ (x0 < 1) → ((zrg x0 ∧ zrg 300) ∧ ((x0 ≤ 300 → (ov = none ∧ w' = w ∧ c = 0 ∧ s = 0)) ∧ (¬ (x0 ≤ 300) → False))))))) : Zr sc 37 0 [zj x0] [] w ov w' c s := by
  refine Zr_st (q := (1, [zj x0], [zj x0])) rfl rfl rfl ?_
  show Zr sc 37 1 [zj x0] [zj x0] w ov w' c s
  refine rl_ic rfl ?_
  show Zr sc 37 2 [zj x0] [zj 1, zj x0] w ov w' c s
  obtain ⟨hr_1, h⟩ := h
  refine Zr_br (p := x0 < 1) rfl rfl (zcmp_j (cnd := .lt) hr_1.1 hr_1.2) (fun hp => ?_) (fun hp => ?_)
  · replace h := h.1 hp
    show Zr sc 37 12 [zj x0] [] w ov w' c s
    exact h.elim
  · replace h := h.2 hp
    show Zr sc 37 5 [zj x0] [] w ov w' c s
    refine Zr_st (q := (6, [zj x0], [zj x0])) rfl rfl rfl ?_
    show Zr sc 37 6 [zj x0] [zj x0] w ov w' c s
    refine rl_si rfl (by decide) ?_
    show Zr sc 37 9 [zj x0] [zj 300, zj x0] w ov w' c s
    obtain ⟨hr_2, h⟩ := h
    refine Zr_br (p := x0 ≤ 300) rfl rfl (zcmp_j (cnd := .le) hr_2.1 hr_2.2) (fun hp => ?_) (fun hp => ?_)
    · replace h := h.1 hp
      show Zr sc 37 22 [zj x0] [] w ov w' c s
      obtain ⟨h1, h2, h3, h4⟩ := h
      subst h1; subst h2; subst h3; subst h4
      exact Zr_ret (ins := .return_) rfl rfl
    · replace h := h.2 hp
      show Zr sc 37 12 [zj x0] [] w ov w' c s
      exact h.elim

-- HeapwrightLab$Memory.placeFor(I)I
set_option maxRecDepth 100000 in
theorem V38_0_1 {sc : List Value} {w w' : List zE} {ov : Option Value} {c s : Nat} {a0 : Nat} {x1 : Int} (h : (∃ f0_2 : Nat, ∃ f1_3 : Nat, ∃ f2_4 : Int, ∃ f3_5 : Int, ∃ f4_6 : Int, ∃ f5_7 : Int, ∃ f6_8 : Int, ∃ f7_9 : Nat, ∃ f8_10 : Nat, ∃ f9_11 : Int, ∃ f10_12 : Int, ∃ f11_13 : Int, ∃ f12_14 : Int, w[a0]? = some (zob 1 [zp f0_2, zp f1_3, zj f2_4, zj f3_5, zj f4_6, zj f5_7, zj f6_8, zp f7_9, zp f8_10, zj f9_11, zj f10_12, zj f11_13, zj f12_14]) ∧ (∃ r_17 : Int, ∃ w_15 : List zE, Zc sc 39 [zp a0, zj x1] w (some (zj r_17)) w_15 0 0 ∧ (∃ f0_19 : Nat, ∃ f1_20 : Nat, ∃ f2_21 : Int, ∃ f3_22 : Int, ∃ f4_23 : Int, ∃ f5_24 : Int, ∃ f6_25 : Int, ∃ f7_26 : Nat, ∃ f8_27 : Nat, ∃ f9_28 : Int, ∃ f10_29 : Int, ∃ f11_30 : Int, ∃ f12_31 : Int, w_15[a0]? = some (zob 1 [zp f0_19, zp f1_20, zj f2_21, zj f3_22, zj f4_23, zj f5_24, zj f6_25, zp f7_26, zp f8_27, zj f9_28, zj f10_29, zj f11_30, zj f12_31]) ∧ (∃ r_34 : Int, ∃ w_32 : List zE, Zc sc 43 [zp a0, zj r_17] w_15 (some (zj r_34)) w_32 0 0 ∧ (∃ f0_36 : Nat, ∃ f1_37 : Nat, ∃ f2_38 : Int, w_32[f1_3]? = some (zob 3 [zp f0_36, zp f1_37, zj f2_38]) ∧ (∃ r_41 : Int, ∃ w_39 : List zE, Zc sc 24 [zp f1_3, zj r_34] w_32 (some (zj r_41)) w_39 0 0 ∧ (ov = some (zj r_41) ∧ w' = w_39 ∧ c = 0 ∧ s = 0)))))))) : Zr sc 38 0 [zp a0, zj x1] [] w ov w' c s := by
  refine Zr_st (q := (1, [zp a0, zj x1], [zp a0])) rfl rfl rfl ?_
  show Zr sc 38 1 [zp a0, zj x1] [zp a0] w ov w' c s
  obtain ⟨f0_2, f1_3, f2_4, f3_5, f4_6, f5_7, f6_8, f7_9, f8_10, f9_11, f10_12, f11_13, f12_14, hw_1, h⟩ := h
  refine rl_gf rfl hw_1 rfl rfl ?_
  show Zr sc 38 4 [zp a0, zj x1] [zp f1_3] w ov w' c s
  refine Zr_st (q := (5, [zp a0, zj x1], [zp a0, zp f1_3])) rfl rfl rfl ?_
  show Zr sc 38 5 [zp a0, zj x1] [zp a0, zp f1_3] w ov w' c s
  refine Zr_st (q := (6, [zp a0, zj x1], [zp a0, zp a0, zp f1_3])) rfl rfl rfl ?_
  show Zr sc 38 6 [zp a0, zj x1] [zp a0, zp a0, zp f1_3] w ov w' c s
  refine Zr_st (q := (7, [zp a0, zj x1], [zj x1, zp a0, zp a0, zp f1_3])) rfl rfl rfl ?_
  show Zr sc 38 7 [zp a0, zj x1] [zj x1, zp a0, zp a0, zp f1_3] w ov w' c s
  obtain ⟨r_17, w_15, hk_16, h⟩ := h
  refine rn_cal0 (ins := .invokevirtual 124) (rest := [zp a0, zp f1_3]) rfl rfl rfl rfl (zinv_v (fs := _) hw_1 rfl rfl rfl rfl) rfl rfl hk_16 ?_
  show Zr sc 38 10 [zp a0, zj x1] [zj r_17, zp a0, zp f1_3] w_15 ov w' c s
  obtain ⟨f0_19, f1_20, f2_21, f3_22, f4_23, f5_24, f6_25, f7_26, f8_27, f9_28, f10_29, f11_30, f12_31, hw_18, h⟩ := h
  obtain ⟨r_34, w_32, hk_33, h⟩ := h
  refine rn_cal0 (ins := .invokevirtual 127) (rest := [zp f1_3]) rfl rfl rfl rfl (zinv_v (fs := _) hw_18 rfl rfl rfl rfl) rfl rfl hk_33 ?_
  show Zr sc 38 13 [zp a0, zj x1] [zj r_34, zp f1_3] w_32 ov w' c s
  obtain ⟨f0_36, f1_37, f2_38, hw_35, h⟩ := h
  obtain ⟨r_41, w_39, hk_40, h⟩ := h
  refine rn_cal0 (ins := .invokevirtual 130) (rest := []) rfl rfl rfl rfl (zinv_v (fs := _) hw_35 rfl rfl rfl rfl) rfl rfl hk_40 ?_
  show Zr sc 38 16 [zp a0, zj x1] [zj r_41] w_39 ov w' c s
  obtain ⟨h1, h2, h3, h4⟩ := h
  subst h1; subst h2; subst h3; subst h4
  exact Zr_ret (ins := .ireturn) rfl rfl

-- HeapwrightLab$Memory.placeFor(I)I
set_option maxRecDepth 100000 in
theorem V38_0_2 {sc : List Value} {w w' : List zE} {ov : Option Value} {c s : Nat} {a0 : Nat} {x1 : Int} (h : (∃ f0_2 : Nat, ∃ f1_3 : Nat, ∃ f2_4 : Int, ∃ f3_5 : Int, ∃ f4_6 : Int, ∃ f5_7 : Int, ∃ f6_8 : Int, ∃ f7_9 : Nat, ∃ f8_10 : Nat, ∃ f9_11 : Int, ∃ f10_12 : Int, ∃ f11_13 : Int, ∃ f12_14 : Int, w[a0]? = some (zob 2 [zp f0_2, zp f1_3, zj f2_4, zj f3_5, zj f4_6, zj f5_7, zj f6_8, zp f7_9, zp f8_10, zj f9_11, zj f10_12, zj f11_13, zj f12_14]) ∧ (∃ r_17 : Int, ∃ w_15 : List zE, Zc sc 40 [zp a0, zj x1] w (some (zj r_17)) w_15 0 0 ∧ (∃ f0_19 : Nat, ∃ f1_20 : Nat, ∃ f2_21 : Int, ∃ f3_22 : Int, ∃ f4_23 : Int, ∃ f5_24 : Int, ∃ f6_25 : Int, ∃ f7_26 : Nat, ∃ f8_27 : Nat, ∃ f9_28 : Int, ∃ f10_29 : Int, ∃ f11_30 : Int, ∃ f12_31 : Int, w_15[a0]? = some (zob 2 [zp f0_19, zp f1_20, zj f2_21, zj f3_22, zj f4_23, zj f5_24, zj f6_25, zp f7_26, zp f8_27, zj f9_28, zj f10_29, zj f11_30, zj f12_31]) ∧ (∃ r_34 : Int, ∃ w_32 : List zE, Zc sc 45 [zp a0, zj r_17] w_15 (some (zj r_34)) w_32 0 0 ∧ (∃ f0_36 : Nat, ∃ f1_37 : Nat, ∃ f2_38 : Int, w_32[f1_3]? = some (zob 3 [zp f0_36, zp f1_37, zj f2_38]) ∧ (∃ r_41 : Int, ∃ w_39 : List zE, Zc sc 24 [zp f1_3, zj r_34] w_32 (some (zj r_41)) w_39 0 0 ∧ (ov = some (zj r_41) ∧ w' = w_39 ∧ c = 0 ∧ s = 0)))))))) : Zr sc 38 0 [zp a0, zj x1] [] w ov w' c s := by
  refine Zr_st (q := (1, [zp a0, zj x1], [zp a0])) rfl rfl rfl ?_
  show Zr sc 38 1 [zp a0, zj x1] [zp a0] w ov w' c s
  obtain ⟨f0_2, f1_3, f2_4, f3_5, f4_6, f5_7, f6_8, f7_9, f8_10, f9_11, f10_12, f11_13, f12_14, hw_1, h⟩ := h
  refine rl_gf rfl hw_1 rfl rfl ?_
  show Zr sc 38 4 [zp a0, zj x1] [zp f1_3] w ov w' c s
  refine Zr_st (q := (5, [zp a0, zj x1], [zp a0, zp f1_3])) rfl rfl rfl ?_
  show Zr sc 38 5 [zp a0, zj x1] [zp a0, zp f1_3] w ov w' c s
  refine Zr_st (q := (6, [zp a0, zj x1], [zp a0, zp a0, zp f1_3])) rfl rfl rfl ?_
  show Zr sc 38 6 [zp a0, zj x1] [zp a0, zp a0, zp f1_3] w ov w' c s
  refine Zr_st (q := (7, [zp a0, zj x1], [zj x1, zp a0, zp a0, zp f1_3])) rfl rfl rfl ?_
  show Zr sc 38 7 [zp a0, zj x1] [zj x1, zp a0, zp a0, zp f1_3] w ov w' c s
  obtain ⟨r_17, w_15, hk_16, h⟩ := h
  refine rn_cal0 (ins := .invokevirtual 124) (rest := [zp a0, zp f1_3]) rfl rfl rfl rfl (zinv_v (fs := _) hw_1 rfl rfl rfl rfl) rfl rfl hk_16 ?_
  show Zr sc 38 10 [zp a0, zj x1] [zj r_17, zp a0, zp f1_3] w_15 ov w' c s
  obtain ⟨f0_19, f1_20, f2_21, f3_22, f4_23, f5_24, f6_25, f7_26, f8_27, f9_28, f10_29, f11_30, f12_31, hw_18, h⟩ := h
  obtain ⟨r_34, w_32, hk_33, h⟩ := h
  refine rn_cal0 (ins := .invokevirtual 127) (rest := [zp f1_3]) rfl rfl rfl rfl (zinv_v (fs := _) hw_18 rfl rfl rfl rfl) rfl rfl hk_33 ?_
  show Zr sc 38 13 [zp a0, zj x1] [zj r_34, zp f1_3] w_32 ov w' c s
  obtain ⟨f0_36, f1_37, f2_38, hw_35, h⟩ := h
  obtain ⟨r_41, w_39, hk_40, h⟩ := h
  refine rn_cal0 (ins := .invokevirtual 130) (rest := []) rfl rfl rfl rfl (zinv_v (fs := _) hw_35 rfl rfl rfl rfl) rfl rfl hk_40 ?_
  show Zr sc 38 16 [zp a0, zj x1] [zj r_41] w_39 ov w' c s
  obtain ⟨h1, h2, h3, h4⟩ := h
  subst h1; subst h2; subst h3; subst h4
  exact Zr_ret (ins := .ireturn) rfl rfl

-- HeapwrightLab$Memory.placeFor(I)I
set_option maxRecDepth 100000 in
theorem V38_0_4 {sc : List Value} {w w' : List zE} {ov : Option Value} {c s : Nat} {a0 : Nat} {x1 : Int} (h : (∃ f0_2 : Nat, ∃ f1_3 : Nat, ∃ f2_4 : Int, ∃ f3_5 : Int, ∃ f4_6 : Int, ∃ f5_7 : Int, ∃ f6_8 : Int, ∃ f7_9 : Nat, ∃ f8_10 : Nat, ∃ f9_11 : Int, ∃ f10_12 : Int, ∃ f11_13 : Int, ∃ f12_14 : Int, ∃ f13_15 : Nat, w[a0]? = some (zob 4 [zp f0_2, zp f1_3, zj f2_4, zj f3_5, zj f4_6, zj f5_7, zj f6_8, zp f7_9, zp f8_10, zj f9_11, zj f10_12, zj f11_13, zj f12_14, zp f13_15]) ∧ (∃ r_18 : Int, ∃ w_16 : List zE, Zc sc 42 [zp a0, zj x1] w (some (zj r_18)) w_16 0 0 ∧ (∃ f0_20 : Nat, ∃ f1_21 : Nat, ∃ f2_22 : Int, ∃ f3_23 : Int, ∃ f4_24 : Int, ∃ f5_25 : Int, ∃ f6_26 : Int, ∃ f7_27 : Nat, ∃ f8_28 : Nat, ∃ f9_29 : Int, ∃ f10_30 : Int, ∃ f11_31 : Int, ∃ f12_32 : Int, ∃ f13_33 : Nat, w_16[a0]? = some (zob 4 [zp f0_20, zp f1_21, zj f2_22, zj f3_23, zj f4_24, zj f5_25, zj f6_26, zp f7_27, zp f8_28, zj f9_29, zj f10_30, zj f11_31, zj f12_32, zp f13_33]) ∧ (∃ r_36 : Int, ∃ w_34 : List zE, Zc sc 49 [zp a0, zj r_18] w_16 (some (zj r_36)) w_34 0 0 ∧ (∃ f0_38 : Nat, ∃ f1_39 : Nat, ∃ f2_40 : Int, w_34[f1_3]? = some (zob 3 [zp f0_38, zp f1_39, zj f2_40]) ∧ (∃ r_43 : Int, ∃ w_41 : List zE, Zc sc 24 [zp f1_3, zj r_36] w_34 (some (zj r_43)) w_41 0 0 ∧ (ov = some (zj r_43) ∧ w' = w_41 ∧ c = 0 ∧ s = 0)))))))) : Zr sc 38 0 [zp a0, zj x1] [] w ov w' c s := by
  refine Zr_st (q := (1, [zp a0, zj x1], [zp a0])) rfl rfl rfl ?_
  show Zr sc 38 1 [zp a0, zj x1] [zp a0] w ov w' c s
  obtain ⟨f0_2, f1_3, f2_4, f3_5, f4_6, f5_7, f6_8, f7_9, f8_10, f9_11, f10_12, f11_13, f12_14, f13_15, hw_1, h⟩ := h
  refine rl_gf rfl hw_1 rfl rfl ?_
  show Zr sc 38 4 [zp a0, zj x1] [zp f1_3] w ov w' c s
  refine Zr_st (q := (5, [zp a0, zj x1], [zp a0, zp f1_3])) rfl rfl rfl ?_
  show Zr sc 38 5 [zp a0, zj x1] [zp a0, zp f1_3] w ov w' c s
  refine Zr_st (q := (6, [zp a0, zj x1], [zp a0, zp a0, zp f1_3])) rfl rfl rfl ?_
  show Zr sc 38 6 [zp a0, zj x1] [zp a0, zp a0, zp f1_3] w ov w' c s
  refine Zr_st (q := (7, [zp a0, zj x1], [zj x1, zp a0, zp a0, zp f1_3])) rfl rfl rfl ?_
  show Zr sc 38 7 [zp a0, zj x1] [zj x1, zp a0, zp a0, zp f1_3] w ov w' c s
  obtain ⟨r_18, w_16, hk_17, h⟩ := h
  refine rn_cal0 (ins := .invokevirtual 124) (rest := [zp a0, zp f1_3]) rfl rfl rfl rfl (zinv_v (fs := _) hw_1 rfl rfl rfl rfl) rfl rfl hk_17 ?_
  show Zr sc 38 10 [zp a0, zj x1] [zj r_18, zp a0, zp f1_3] w_16 ov w' c s
  obtain ⟨f0_20, f1_21, f2_22, f3_23, f4_24, f5_25, f6_26, f7_27, f8_28, f9_29, f10_30, f11_31, f12_32, f13_33, hw_19, h⟩ := h
  obtain ⟨r_36, w_34, hk_35, h⟩ := h
  refine rn_cal0 (ins := .invokevirtual 127) (rest := [zp f1_3]) rfl rfl rfl rfl (zinv_v (fs := _) hw_19 rfl rfl rfl rfl) rfl rfl hk_35 ?_
  show Zr sc 38 13 [zp a0, zj x1] [zj r_36, zp f1_3] w_34 ov w' c s
  obtain ⟨f0_38, f1_39, f2_40, hw_37, h⟩ := h
  obtain ⟨r_43, w_41, hk_42, h⟩ := h
  refine rn_cal0 (ins := .invokevirtual 130) (rest := []) rfl rfl rfl rfl (zinv_v (fs := _) hw_37 rfl rfl rfl rfl) rfl rfl hk_42 ?_
  show Zr sc 38 16 [zp a0, zj x1] [zj r_43] w_41 ov w' c s
  obtain ⟨h1, h2, h3, h4⟩ := h
  subst h1; subst h2; subst h3; subst h4
  exact Zr_ret (ins := .ireturn) rfl rfl

-- HeapwrightLab$Buddies.roomFor(I)I
set_option maxRecDepth 100000 in
theorem V39_0 {sc : List Value} {w w' : List zE} {ov : Option Value} {c s : Nat} {a0 : Nat} {x1 : Int} (h : Zr sc 39 3 [zp a0, zj x1, zj 8] [] w ov w' c s) : Zr sc 39 0 [zp a0, zj x1, zmk] [] w ov w' c s := by
  refine rl_bi rfl (by decide) ?_
  show Zr sc 39 2 [zp a0, zj x1, zmk] [zj 8] w ov w' c s
  refine Zr_st (q := (3, [zp a0, zj x1, zj 8], [])) rfl rfl rfl ?_
  show Zr sc 39 3 [zp a0, zj x1, zj 8] [] w ov w' c s
  exact h
set_option maxRecDepth 100000 in
theorem V39_3 {sc : List Value} {w w' : List zE} {ov : Option Value} {c s : Nat} {a0 : Nat} {x1 : Int} {x2 : Int} (h : ((zrg x2 ∧ zrg 1024) ∧ ((1024 ≤ x2 → (ov = some (zj 1024) ∧ w' = w ∧ c = 0 ∧ s = 0)) ∧ (¬ (1024 ≤ x2) → (∃ f0_3 : Nat, ∃ f1_4 : Nat, ∃ f2_5 : Int, ∃ f3_6 : Int, ∃ f4_7 : Int, ∃ f5_8 : Int, ∃ f6_9 : Int, ∃ f7_10 : Nat, ∃ f8_11 : Nat, ∃ f9_12 : Int, ∃ f10_13 : Int, ∃ f11_14 : Int, ∃ f12_15 : Int, w[a0]? = some (zob 1 [zp f0_3, zp f1_4, zj f2_5, zj f3_6, zj f4_7, zj f5_8, zj f6_9, zp f7_10, zp f8_11, zj f9_12, zj f10_13, zj f11_14, zj f12_15]) ∧ ((zrg x2 ∧ zrg (x1 + f4_7)) ∧ ((x2 < (x1 + f4_7) → Zr sc 39 3 [zp a0, zj x1, zj (x2 * 2)] [] w ov w' c s) ∧ (¬ (x2 < (x1 + f4_7)) → (ov = some (zj x2) ∧ w' = w ∧ c = 0 ∧ s = 0))))))))) : Zr sc 39 3 [zp a0, zj x1, zj x2] [] w ov w' c s := by
  refine Zr_st (q := (4, [zp a0, zj x1, zj x2], [zj x2])) rfl rfl rfl ?_
  show Zr sc 39 4 [zp a0, zj x1, zj x2] [zj x2] w ov w' c s
  refine rl_si rfl (by decide) ?_
  show Zr sc 39 7 [zp a0, zj x1, zj x2] [zj 1024, zj x2] w ov w' c s
  obtain ⟨hr_1, h⟩ := h
  refine Zr_br (p := 1024 ≤ x2) rfl rfl (zcmp_j (cnd := .ge) hr_1.1 hr_1.2) (fun hp => ?_) (fun hp => ?_)
  · replace h := h.1 hp
    show Zr sc 39 29 [zp a0, zj x1, zj x2] [] w ov w' c s
    refine rl_si rfl (by decide) ?_
    show Zr sc 39 32 [zp a0, zj x1, zj x2] [zj 1024] w ov w' c s
    obtain ⟨h1, h2, h3, h4⟩ := h
    subst h1; subst h2; subst h3; subst h4
    exact Zr_ret (ins := .ireturn) rfl rfl
  · replace h := h.2 hp
    show Zr sc 39 10 [zp a0, zj x1, zj x2] [] w ov w' c s
    refine Zr_st (q := (11, [zp a0, zj x1, zj x2], [zj x2])) rfl rfl rfl ?_
    show Zr sc 39 11 [zp a0, zj x1, zj x2] [zj x2] w ov w' c s
    refine Zr_st (q := (12, [zp a0, zj x1, zj x2], [zj x1, zj x2])) rfl rfl rfl ?_
    show Zr sc 39 12 [zp a0, zj x1, zj x2] [zj x1, zj x2] w ov w' c s
    refine Zr_st (q := (13, [zp a0, zj x1, zj x2], [zp a0, zj x1, zj x2])) rfl rfl rfl ?_
    show Zr sc 39 13 [zp a0, zj x1, zj x2] [zp a0, zj x1, zj x2] w ov w' c s
    obtain ⟨f0_3, f1_4, f2_5, f3_6, f4_7, f5_8, f6_9, f7_10, f8_11, f9_12, f10_13, f11_14, f12_15, hw_2, h⟩ := h
    refine rl_gf rfl hw_2 rfl rfl ?_
    show Zr sc 39 16 [zp a0, zj x1, zj x2] [zj f4_7, zj x1, zj x2] w ov w' c s
    refine rl_add rfl ?_
    show Zr sc 39 17 [zp a0, zj x1, zj x2] [zj (x1 + f4_7), zj x2] w ov w' c s
    obtain ⟨hr_16, h⟩ := h
    refine Zr_br (p := x2 < (x1 + f4_7)) rfl rfl (zcmp_j (cnd := .lt) hr_16.1 hr_16.2) (fun hp => ?_) (fun hp => ?_)
    · replace h := h.1 hp
      show Zr sc 39 22 [zp a0, zj x1, zj x2] [] w ov w' c s
      refine Zr_st (q := (23, [zp a0, zj x1, zj x2], [zj x2])) rfl rfl rfl ?_
      show Zr sc 39 23 [zp a0, zj x1, zj x2] [zj x2] w ov w' c s
      refine rl_ic rfl ?_
      show Zr sc 39 24 [zp a0, zj x1, zj x2] [zj 2, zj x2] w ov w' c s
      refine rl_mul rfl ?_
      show Zr sc 39 25 [zp a0, zj x1, zj x2] [zj (x2 * 2)] w ov w' c s
      refine Zr_st (q := (26, [zp a0, zj x1, zj (x2 * 2)], [])) rfl rfl rfl ?_
      show Zr sc 39 26 [zp a0, zj x1, zj (x2 * 2)] [] w ov w' c s
      refine Zr_st (q := (3, [zp a0, zj x1, zj (x2 * 2)], [])) rfl rfl rfl ?_
      show Zr sc 39 3 [zp a0, zj x1, zj (x2 * 2)] [] w ov w' c s
      exact h
    · replace h := h.2 hp
      show Zr sc 39 20 [zp a0, zj x1, zj x2] [] w ov w' c s
      refine Zr_st (q := (21, [zp a0, zj x1, zj x2], [zj x2])) rfl rfl rfl ?_
      show Zr sc 39 21 [zp a0, zj x1, zj x2] [zj x2] w ov w' c s
      obtain ⟨h1, h2, h3, h4⟩ := h
      subst h1; subst h2; subst h3; subst h4
      exact Zr_ret (ins := .ireturn) rfl rfl

-- HeapwrightLab$Fits.roomFor(I)I
set_option maxRecDepth 100000 in
theorem V40_0 {sc : List Value} {w w' : List zE} {ov : Option Value} {c s : Nat} {a0 : Nat} {x1 : Int} (h : (∃ f0_2 : Nat, ∃ f1_3 : Nat, ∃ f2_4 : Int, ∃ f3_5 : Int, ∃ f4_6 : Int, ∃ f5_7 : Int, ∃ f6_8 : Int, ∃ f7_9 : Nat, ∃ f8_10 : Nat, ∃ f9_11 : Int, ∃ f10_12 : Int, ∃ f11_13 : Int, ∃ f12_14 : Int, w[a0]? = some (zob 2 [zp f0_2, zp f1_3, zj f2_4, zj f3_5, zj f4_6, zj f5_7, zj f6_8, zp f7_9, zp f8_10, zj f9_11, zj f10_12, zj f11_13, zj f12_14]) ∧ (∃ r_17 : Int, ∃ w_15 : List zE, Zc sc 41 [zj (x1 + f4_6), zj f3_5] w (some (zj r_17)) w_15 0 0 ∧ (ov = some (zj r_17) ∧ w' = w_15 ∧ c = 0 ∧ s = 0)))) : Zr sc 40 0 [zp a0, zj x1] [] w ov w' c s := by
  refine Zr_st (q := (1, [zp a0, zj x1], [zj x1])) rfl rfl rfl ?_
  show Zr sc 40 1 [zp a0, zj x1] [zj x1] w ov w' c s
  refine Zr_st (q := (2, [zp a0, zj x1], [zp a0, zj x1])) rfl rfl rfl ?_
  show Zr sc 40 2 [zp a0, zj x1] [zp a0, zj x1] w ov w' c s
  obtain ⟨f0_2, f1_3, f2_4, f3_5, f4_6, f5_7, f6_8, f7_9, f8_10, f9_11, f10_12, f11_13, f12_14, hw_1, h⟩ := h
  refine rl_gf rfl hw_1 rfl rfl ?_
  show Zr sc 40 5 [zp a0, zj x1] [zj f4_6, zj x1] w ov w' c s
  refine rl_add rfl ?_
  show Zr sc 40 6 [zp a0, zj x1] [zj (x1 + f4_6)] w ov w' c s
  refine Zr_st (q := (7, [zp a0, zj x1], [zp a0, zj (x1 + f4_6)])) rfl rfl rfl ?_
  show Zr sc 40 7 [zp a0, zj x1] [zp a0, zj (x1 + f4_6)] w ov w' c s
  refine rl_gf rfl hw_1 rfl rfl ?_
  show Zr sc 40 10 [zp a0, zj x1] [zj f3_5, zj (x1 + f4_6)] w ov w' c s
  obtain ⟨r_17, w_15, hk_16, h⟩ := h
  refine rn_cal0 (ins := .invokestatic 18) (rest := []) rfl rfl rfl rfl (zinv_t rfl rfl rfl rfl) rfl rfl hk_16 ?_
  show Zr sc 40 13 [zp a0, zj x1] [zj r_17] w_15 ov w' c s
  obtain ⟨h1, h2, h3, h4⟩ := h
  subst h1; subst h2; subst h3; subst h4
  exact Zr_ret (ins := .ireturn) rfl rfl

-- HeapwrightLab.madeUp(II)I
set_option maxRecDepth 100000 in
theorem V41_0 {sc : List Value} {w w' : List zE} {ov : Option Value} {c s : Nat} {x0 : Int} {x1 : Int} (h : (ov = some (zj (zjop 7 ((x0 + x1) - 1) (-x1))) ∧ w' = w ∧ c = 0 ∧ s = 0)) : Zr sc 41 0 [zj x0, zj x1] [] w ov w' c s := by
  refine Zr_st (q := (1, [zj x0, zj x1], [zj x0])) rfl rfl rfl ?_
  show Zr sc 41 1 [zj x0, zj x1] [zj x0] w ov w' c s
  refine Zr_st (q := (2, [zj x0, zj x1], [zj x1, zj x0])) rfl rfl rfl ?_
  show Zr sc 41 2 [zj x0, zj x1] [zj x1, zj x0] w ov w' c s
  refine rl_add rfl ?_
  show Zr sc 41 3 [zj x0, zj x1] [zj (x0 + x1)] w ov w' c s
  refine rl_ic rfl ?_
  show Zr sc 41 4 [zj x0, zj x1] [zj 1, zj (x0 + x1)] w ov w' c s
  refine rl_sub rfl ?_
  show Zr sc 41 5 [zj x0, zj x1] [zj ((x0 + x1) - 1)] w ov w' c s
  refine Zr_st (q := (6, [zj x0, zj x1], [zj x1, zj ((x0 + x1) - 1)])) rfl rfl rfl ?_
  show Zr sc 41 6 [zj x0, zj x1] [zj x1, zj ((x0 + x1) - 1)] w ov w' c s
  refine rl_neg rfl ?_
  show Zr sc 41 7 [zj x0, zj x1] [zj (-x1), zj ((x0 + x1) - 1)] w ov w' c s
  refine rl_and rfl ?_
  show Zr sc 41 8 [zj x0, zj x1] [zj (zjop 7 ((x0 + x1) - 1) (-x1))] w ov w' c s
  obtain ⟨h1, h2, h3, h4⟩ := h
  subst h1; subst h2; subst h3; subst h4
  exact Zr_ret (ins := .ireturn) rfl rfl

-- HeapwrightLab$Slabs.roomFor(I)I
set_option maxRecDepth 100000 in
theorem V42_0 {sc : List Value} {w w' : List zE} {ov : Option Value} {c s : Nat} {a0 : Nat} {x1 : Int} (h : Zr sc 42 3 [zp a0, zj x1, zj 8] [] w ov w' c s) : Zr sc 42 0 [zp a0, zj x1, zmk] [] w ov w' c s := by
  refine rl_bi rfl (by decide) ?_
  show Zr sc 42 2 [zp a0, zj x1, zmk] [zj 8] w ov w' c s
  refine Zr_st (q := (3, [zp a0, zj x1, zj 8], [])) rfl rfl rfl ?_
  show Zr sc 42 3 [zp a0, zj x1, zj 8] [] w ov w' c s
  exact h
set_option maxRecDepth 100000 in
theorem V42_3 {sc : List Value} {w w' : List zE} {ov : Option Value} {c s : Nat} {a0 : Nat} {x1 : Int} {x2 : Int} (h : ((zrg x2 ∧ zrg 128) ∧ ((128 < x2 → (∃ f0_3 : Nat, ∃ f1_4 : Nat, ∃ f2_5 : Int, ∃ f3_6 : Int, ∃ f4_7 : Int, ∃ f5_8 : Int, ∃ f6_9 : Int, ∃ f7_10 : Nat, ∃ f8_11 : Nat, ∃ f9_12 : Int, ∃ f10_13 : Int, ∃ f11_14 : Int, ∃ f12_15 : Int, ∃ f13_16 : Nat, w[a0]? = some (zob 4 [zp f0_3, zp f1_4, zj f2_5, zj f3_6, zj f4_7, zj f5_8, zj f6_9, zp f7_10, zp f8_11, zj f9_12, zj f10_13, zj f11_14, zj f12_15, zp f13_16]) ∧ (∃ r_19 : Int, ∃ w_17 : List zE, Zc sc 41 [zj (x1 + f4_7), zj 128] w (some (zj r_19)) w_17 0 0 ∧ (ov = some (zj r_19) ∧ w' = w_17 ∧ c = 0 ∧ s = 0)))) ∧ (¬ (128 < x2) → (∃ f0_21 : Nat, ∃ f1_22 : Nat, ∃ f2_23 : Int, ∃ f3_24 : Int, ∃ f4_25 : Int, ∃ f5_26 : Int, ∃ f6_27 : Int, ∃ f7_28 : Nat, ∃ f8_29 : Nat, ∃ f9_30 : Int, ∃ f10_31 : Int, ∃ f11_32 : Int, ∃ f12_33 : Int, ∃ f13_34 : Nat, w[a0]? = some (zob 4 [zp f0_21, zp f1_22, zj f2_23, zj f3_24, zj f4_25, zj f5_26, zj f6_27, zp f7_28, zp f8_29, zj f9_30, zj f10_31, zj f11_32, zj f12_33, zp f13_34]) ∧ ((zrg x2 ∧ zrg (x1 + f4_25)) ∧ ((x2 < (x1 + f4_25) → Zr sc 42 3 [zp a0, zj x1, zj (x2 * 2)] [] w ov w' c s) ∧ (¬ (x2 < (x1 + f4_25)) → (ov = some (zj x2) ∧ w' = w ∧ c = 0 ∧ s = 0))))))))) : Zr sc 42 3 [zp a0, zj x1, zj x2] [] w ov w' c s := by
  refine Zr_st (q := (4, [zp a0, zj x1, zj x2], [zj x2])) rfl rfl rfl ?_
  show Zr sc 42 4 [zp a0, zj x1, zj x2] [zj x2] w ov w' c s
  refine rl_si rfl (by decide) ?_
  show Zr sc 42 7 [zp a0, zj x1, zj x2] [zj 128, zj x2] w ov w' c s
  obtain ⟨hr_1, h⟩ := h
  refine Zr_br (p := 128 < x2) rfl rfl (zcmp_j (cnd := .gt) hr_1.1 hr_1.2) (fun hp => ?_) (fun hp => ?_)
  · replace h := h.1 hp
    show Zr sc 42 29 [zp a0, zj x1, zj x2] [] w ov w' c s
    refine Zr_st (q := (30, [zp a0, zj x1, zj x2], [zj x1])) rfl rfl rfl ?_
    show Zr sc 42 30 [zp a0, zj x1, zj x2] [zj x1] w ov w' c s
    refine Zr_st (q := (31, [zp a0, zj x1, zj x2], [zp a0, zj x1])) rfl rfl rfl ?_
    show Zr sc 42 31 [zp a0, zj x1, zj x2] [zp a0, zj x1] w ov w' c s
    obtain ⟨f0_3, f1_4, f2_5, f3_6, f4_7, f5_8, f6_9, f7_10, f8_11, f9_12, f10_13, f11_14, f12_15, f13_16, hw_2, h⟩ := h
    refine rl_gf rfl hw_2 rfl rfl ?_
    show Zr sc 42 34 [zp a0, zj x1, zj x2] [zj f4_7, zj x1] w ov w' c s
    refine rl_add rfl ?_
    show Zr sc 42 35 [zp a0, zj x1, zj x2] [zj (x1 + f4_7)] w ov w' c s
    refine rl_si rfl (by decide) ?_
    show Zr sc 42 38 [zp a0, zj x1, zj x2] [zj 128, zj (x1 + f4_7)] w ov w' c s
    obtain ⟨r_19, w_17, hk_18, h⟩ := h
    refine rn_cal0 (ins := .invokestatic 19) (rest := []) rfl rfl rfl rfl (zinv_t rfl rfl rfl rfl) rfl rfl hk_18 ?_
    show Zr sc 42 41 [zp a0, zj x1, zj x2] [zj r_19] w_17 ov w' c s
    obtain ⟨h1, h2, h3, h4⟩ := h
    subst h1; subst h2; subst h3; subst h4
    exact Zr_ret (ins := .ireturn) rfl rfl
  · replace h := h.2 hp
    show Zr sc 42 10 [zp a0, zj x1, zj x2] [] w ov w' c s
    refine Zr_st (q := (11, [zp a0, zj x1, zj x2], [zj x2])) rfl rfl rfl ?_
    show Zr sc 42 11 [zp a0, zj x1, zj x2] [zj x2] w ov w' c s
    refine Zr_st (q := (12, [zp a0, zj x1, zj x2], [zj x1, zj x2])) rfl rfl rfl ?_
    show Zr sc 42 12 [zp a0, zj x1, zj x2] [zj x1, zj x2] w ov w' c s
    refine Zr_st (q := (13, [zp a0, zj x1, zj x2], [zp a0, zj x1, zj x2])) rfl rfl rfl ?_
    show Zr sc 42 13 [zp a0, zj x1, zj x2] [zp a0, zj x1, zj x2] w ov w' c s
    obtain ⟨f0_21, f1_22, f2_23, f3_24, f4_25, f5_26, f6_27, f7_28, f8_29, f9_30, f10_31, f11_32, f12_33, f13_34, hw_20, h⟩ := h
    refine rl_gf rfl hw_20 rfl rfl ?_
    show Zr sc 42 16 [zp a0, zj x1, zj x2] [zj f4_25, zj x1, zj x2] w ov w' c s
    refine rl_add rfl ?_
    show Zr sc 42 17 [zp a0, zj x1, zj x2] [zj (x1 + f4_25), zj x2] w ov w' c s
    obtain ⟨hr_35, h⟩ := h
    refine Zr_br (p := x2 < (x1 + f4_25)) rfl rfl (zcmp_j (cnd := .lt) hr_35.1 hr_35.2) (fun hp => ?_) (fun hp => ?_)
    · replace h := h.1 hp
      show Zr sc 42 22 [zp a0, zj x1, zj x2] [] w ov w' c s
      refine Zr_st (q := (23, [zp a0, zj x1, zj x2], [zj x2])) rfl rfl rfl ?_
      show Zr sc 42 23 [zp a0, zj x1, zj x2] [zj x2] w ov w' c s
      refine rl_ic rfl ?_
      show Zr sc 42 24 [zp a0, zj x1, zj x2] [zj 2, zj x2] w ov w' c s
      refine rl_mul rfl ?_
      show Zr sc 42 25 [zp a0, zj x1, zj x2] [zj (x2 * 2)] w ov w' c s
      refine Zr_st (q := (26, [zp a0, zj x1, zj (x2 * 2)], [])) rfl rfl rfl ?_
      show Zr sc 42 26 [zp a0, zj x1, zj (x2 * 2)] [] w ov w' c s
      refine Zr_st (q := (3, [zp a0, zj x1, zj (x2 * 2)], [])) rfl rfl rfl ?_
      show Zr sc 42 3 [zp a0, zj x1, zj (x2 * 2)] [] w ov w' c s
      exact h
    · replace h := h.2 hp
      show Zr sc 42 20 [zp a0, zj x1, zj x2] [] w ov w' c s
      refine Zr_st (q := (21, [zp a0, zj x1, zj x2], [zj x2])) rfl rfl rfl ?_
      show Zr sc 42 21 [zp a0, zj x1, zj x2] [zj x2] w ov w' c s
      obtain ⟨h1, h2, h3, h4⟩ := h
      subst h1; subst h2; subst h3; subst h4
      exact Zr_ret (ins := .ireturn) rfl rfl

-- HeapwrightLab$Buddies.search(I)I
set_option maxRecDepth 100000 in
theorem V43_0 {sc : List Value} {w w' : List zE} {ov : Option Value} {c s : Nat} {a0 : Nat} {x1 : Int} (h : (∃ f0_2 : Nat, ∃ f1_3 : Nat, ∃ f2_4 : Int, ∃ f3_5 : Int, ∃ f4_6 : Int, ∃ f5_7 : Int, ∃ f6_8 : Int, ∃ f7_9 : Nat, ∃ f8_10 : Nat, ∃ f9_11 : Int, ∃ f10_12 : Int, ∃ f11_13 : Int, ∃ f12_14 : Int, w[a0]? = some (zob 1 [zp f0_2, zp f1_3, zj f2_4, zj f3_5, zj f4_6, zj f5_7, zj f6_8, zp f7_9, zp f8_10, zj f9_11, zj f10_12, zj f11_13, zj f12_14]) ∧ (∃ f0_16 : Nat, ∃ f1_17 : Nat, ∃ f2_18 : Int, w[f1_3]? = some (zob 3 [zp f0_16, zp f1_17, zj f2_18]) ∧ (∃ r_21 : Int, ∃ w_19 : List zE, Zc sc 21 [zp f1_3] w (some (zj r_21)) w_19 0 0 ∧ (∃ f0_23 : Nat, ∃ f1_24 : Nat, ∃ f2_25 : Int, ∃ f3_26 : Int, ∃ f4_27 : Int, ∃ f5_28 : Int, ∃ f6_29 : Int, ∃ f7_30 : Nat, ∃ f8_31 : Nat, ∃ f9_32 : Int, ∃ f10_33 : Int, ∃ f11_34 : Int, ∃ f12_35 : Int, w_19[a0]? = some (zob 1 [zp f0_23, zp f1_24, zj f2_25, zj f3_26, zj f4_27, zj f5_28, zj f6_29, zp f7_30, zp f8_31, zj f9_32, zj f10_33, zj f11_34, zj f12_35]) ∧ ((a0 ≠ f1_24) ∧ (∃ f0_38 : Nat, ∃ f1_39 : Nat, ∃ f2_40 : Int, w_19[f1_24]? = some (zob 3 [zp f0_38, zp f1_39, zj f2_40]) ∧ (∃ r_43 : Int, ∃ w_41 : List zE, Zc sc 44 [zp f1_24, zj x1] (w_19.set a0 (zob 1 [zp f0_23, zp f1_24, zj f2_25, zj f3_26, zj f4_27, zj f5_28, zj r_21, zp f7_30, zp f8_31, zj f9_32, zj f10_33, zj f11_34, zj f12_35])) (some (zj r_43)) w_41 0 0 ∧ (ov = some (zj r_43) ∧ w' = w_41 ∧ c = 0 ∧ s = 0))))))))) : Zr sc 43 0 [zp a0, zj x1] [] w ov w' c s := by
  refine Zr_st (q := (1, [zp a0, zj x1], [zp a0])) rfl rfl rfl ?_
  show Zr sc 43 1 [zp a0, zj x1] [zp a0] w ov w' c s
  refine Zr_st (q := (2, [zp a0, zj x1], [zp a0, zp a0])) rfl rfl rfl ?_
  show Zr sc 43 2 [zp a0, zj x1] [zp a0, zp a0] w ov w' c s
  obtain ⟨f0_2, f1_3, f2_4, f3_5, f4_6, f5_7, f6_8, f7_9, f8_10, f9_11, f10_12, f11_13, f12_14, hw_1, h⟩ := h
  refine rl_gf rfl hw_1 rfl rfl ?_
  show Zr sc 43 5 [zp a0, zj x1] [zp f1_3, zp a0] w ov w' c s
  obtain ⟨f0_16, f1_17, f2_18, hw_15, h⟩ := h
  obtain ⟨r_21, w_19, hk_20, h⟩ := h
  refine rn_cal0 (ins := .invokevirtual 19) (rest := [zp a0]) rfl rfl rfl rfl (zinv_v (fs := _) hw_15 rfl rfl rfl rfl) rfl rfl hk_20 ?_
  show Zr sc 43 8 [zp a0, zj x1] [zj r_21, zp a0] w_19 ov w' c s
  obtain ⟨f0_23, f1_24, f2_25, f3_26, f4_27, f5_28, f6_29, f7_30, f8_31, f9_32, f10_33, f11_34, f12_35, hw_22, h⟩ := h
  refine rl_pf rfl hw_22 rfl rfl rfl ?_
  show Zr sc 43 11 [zp a0, zj x1] [] (w_19.set a0 (zob 1 [zp f0_23, zp f1_24, zj f2_25, zj f3_26, zj f4_27, zj f5_28, zj r_21, zp f7_30, zp f8_31, zj f9_32, zj f10_33, zj f11_34, zj f12_35])) ov w' c s
  refine Zr_st (q := (12, [zp a0, zj x1], [zp a0])) rfl rfl rfl ?_
  show Zr sc 43 12 [zp a0, zj x1] [zp a0] (w_19.set a0 (zob 1 [zp f0_23, zp f1_24, zj f2_25, zj f3_26, zj f4_27, zj f5_28, zj r_21, zp f7_30, zp f8_31, zj f9_32, zj f10_33, zj f11_34, zj f12_35])) ov w' c s
  refine rl_gf rfl (zw_s hw_22) rfl rfl ?_
  show Zr sc 43 15 [zp a0, zj x1] [zp f1_24] (w_19.set a0 (zob 1 [zp f0_23, zp f1_24, zj f2_25, zj f3_26, zj f4_27, zj f5_28, zj r_21, zp f7_30, zp f8_31, zj f9_32, zj f10_33, zj f11_34, zj f12_35])) ov w' c s
  refine Zr_st (q := (16, [zp a0, zj x1], [zj x1, zp f1_24])) rfl rfl rfl ?_
  show Zr sc 43 16 [zp a0, zj x1] [zj x1, zp f1_24] (w_19.set a0 (zob 1 [zp f0_23, zp f1_24, zj f2_25, zj f3_26, zj f4_27, zj f5_28, zj r_21, zp f7_30, zp f8_31, zj f9_32, zj f10_33, zj f11_34, zj f12_35])) ov w' c s
  obtain ⟨hn_36, h⟩ := h
  obtain ⟨f0_38, f1_39, f2_40, hw_37, h⟩ := h
  obtain ⟨r_43, w_41, hk_42, h⟩ := h
  refine rn_cal0 (ins := .invokevirtual 28) (rest := []) rfl rfl rfl rfl (zinv_v (fs := _) (zw_o hn_36 hw_37) rfl rfl rfl rfl) rfl rfl hk_42 ?_
  show Zr sc 43 19 [zp a0, zj x1] [zj r_43] w_41 ov w' c s
  obtain ⟨h1, h2, h3, h4⟩ := h
  subst h1; subst h2; subst h3; subst h4
  exact Zr_ret (ins := .ireturn) rfl rfl

-- HeapwrightLab$Holes.tightestWith(I)I
set_option maxRecDepth 100000 in
theorem V44_0 {sc : List Value} {w w' : List zE} {ov : Option Value} {c s : Nat} {a0 : Nat} {x1 : Int} (h : Zr sc 44 4 [zp a0, zj x1, zj (-1), zj 0] [] w ov w' c s) : Zr sc 44 0 [zp a0, zj x1, zmk, zmk] [] w ov w' c s := by
  refine rl_ic rfl ?_
  show Zr sc 44 1 [zp a0, zj x1, zmk, zmk] [zj (-1)] w ov w' c s
  refine Zr_st (q := (2, [zp a0, zj x1, zj (-1), zmk], [])) rfl rfl rfl ?_
  show Zr sc 44 2 [zp a0, zj x1, zj (-1), zmk] [] w ov w' c s
  refine rl_ic rfl ?_
  show Zr sc 44 3 [zp a0, zj x1, zj (-1), zmk] [zj 0] w ov w' c s
  refine Zr_st (q := (4, [zp a0, zj x1, zj (-1), zj 0], [])) rfl rfl rfl ?_
  show Zr sc 44 4 [zp a0, zj x1, zj (-1), zj 0] [] w ov w' c s
  exact h
set_option maxRecDepth 100000 in
theorem V44_4 {sc : List Value} {w w' : List zE} {ov : Option Value} {c s : Nat} {a0 : Nat} {x1 : Int} {x2 : Int} {x3 : Int} (h : (∃ f0_2 : Nat, ∃ f1_3 : Nat, ∃ f2_4 : Int, w[a0]? = some (zob 3 [zp f0_2, zp f1_3, zj f2_4]) ∧ ((zrg x3 ∧ zrg f2_4) ∧ ((f2_4 ≤ x3 → (ov = some (zj x2) ∧ w' = w ∧ c = 0 ∧ s = 0)) ∧ (¬ (f2_4 ≤ x3) → (∃ l_8 : List Int, w[f1_3]? = some (za l_8) ∧ ((0 ≤ x3 ∧ x3 < (l_8.length : Int) ∧ x3 ≤ 2147483647) ∧ ((zrg (zgi l_8 x3) ∧ zrg x1) ∧ (((zgi l_8 x3) < x1 → Zr sc 44 4 [zp a0, zj x1, zj x2, zj (x3 + 1)] [] w ov w' c s) ∧ (¬ ((zgi l_8 x3) < x1) → ((zrg x2) ∧ ((x2 < 0 → Zr sc 44 4 [zp a0, zj x1, zj x3, zj (x3 + 1)] [] w ov w' c s) ∧ (¬ (x2 < 0) → ((0 ≤ x3 ∧ x3 < (l_8.length : Int) ∧ x3 ≤ 2147483647) ∧ ((0 ≤ x2 ∧ x2 < (l_8.length : Int) ∧ x2 ≤ 2147483647) ∧ ((zrg (zgi l_8 x3) ∧ zrg (zgi l_8 x2)) ∧ (((zgi l_8 x2) ≤ (zgi l_8 x3) → Zr sc 44 4 [zp a0, zj x1, zj x2, zj (x3 + 1)] [] w ov w' c s) ∧ (¬ ((zgi l_8 x2) ≤ (zgi l_8 x3)) → Zr sc 44 4 [zp a0, zj x1, zj x3, zj (x3 + 1)] [] w ov w' c s)))))))))))))))))) : Zr sc 44 4 [zp a0, zj x1, zj x2, zj x3] [] w ov w' c s := by
  refine Zr_st (q := (5, [zp a0, zj x1, zj x2, zj x3], [zj x3])) rfl rfl rfl ?_
  show Zr sc 44 5 [zp a0, zj x1, zj x2, zj x3] [zj x3] w ov w' c s
  refine Zr_st (q := (6, [zp a0, zj x1, zj x2, zj x3], [zp a0, zj x3])) rfl rfl rfl ?_
  show Zr sc 44 6 [zp a0, zj x1, zj x2, zj x3] [zp a0, zj x3] w ov w' c s
  obtain ⟨f0_2, f1_3, f2_4, hw_1, h⟩ := h
  refine rl_gf rfl hw_1 rfl rfl ?_
  show Zr sc 44 9 [zp a0, zj x1, zj x2, zj x3] [zj f2_4, zj x3] w ov w' c s
  obtain ⟨hr_5, h⟩ := h
  refine Zr_br (p := f2_4 ≤ x3) rfl rfl (zcmp_j (cnd := .ge) hr_5.1 hr_5.2) (fun hp => ?_) (fun hp => ?_)
  · replace h := h.1 hp
    show Zr sc 44 49 [zp a0, zj x1, zj x2, zj x3] [] w ov w' c s
    refine Zr_st (q := (50, [zp a0, zj x1, zj x2, zj x3], [zj x2])) rfl rfl rfl ?_
    show Zr sc 44 50 [zp a0, zj x1, zj x2, zj x3] [zj x2] w ov w' c s
    obtain ⟨h1, h2, h3, h4⟩ := h
    subst h1; subst h2; subst h3; subst h4
    exact Zr_ret (ins := .ireturn) rfl rfl
  · replace h := h.2 hp
    show Zr sc 44 12 [zp a0, zj x1, zj x2, zj x3] [] w ov w' c s
    refine Zr_st (q := (13, [zp a0, zj x1, zj x2, zj x3], [zp a0])) rfl rfl rfl ?_
    show Zr sc 44 13 [zp a0, zj x1, zj x2, zj x3] [zp a0] w ov w' c s
    refine rl_gf rfl hw_1 rfl rfl ?_
    show Zr sc 44 16 [zp a0, zj x1, zj x2, zj x3] [zp f1_3] w ov w' c s
    refine Zr_st (q := (17, [zp a0, zj x1, zj x2, zj x3], [zj x3, zp f1_3])) rfl rfl rfl ?_
    show Zr sc 44 17 [zp a0, zj x1, zj x2, zj x3] [zj x3, zp f1_3] w ov w' c s
    obtain ⟨l_8, hw_7, h⟩ := h
    obtain ⟨hi_6, h⟩ := h
    refine rl_ia rfl hw_7 hi_6.1 hi_6.2.1 hi_6.2.2 ?_
    show Zr sc 44 18 [zp a0, zj x1, zj x2, zj x3] [zj (zgi l_8 x3)] w ov w' c s
    refine Zr_st (q := (19, [zp a0, zj x1, zj x2, zj x3], [zj x1, zj (zgi l_8 x3)])) rfl rfl rfl ?_
    show Zr sc 44 19 [zp a0, zj x1, zj x2, zj x3] [zj x1, zj (zgi l_8 x3)] w ov w' c s
    obtain ⟨hr_9, h⟩ := h
    refine Zr_br (p := (zgi l_8 x3) < x1) rfl rfl (zcmp_j (cnd := .lt) hr_9.1 hr_9.2) (fun hp => ?_) (fun hp => ?_)
    · replace h := h.1 hp
      show Zr sc 44 43 [zp a0, zj x1, zj x2, zj x3] [] w ov w' c s
      refine rl_inc rfl rfl rfl rfl ?_
      show Zr sc 44 46 [zp a0, zj x1, zj x2, zj (x3 + 1)] [] w ov w' c s
      refine Zr_st (q := (4, [zp a0, zj x1, zj x2, zj (x3 + 1)], [])) rfl rfl rfl ?_
      show Zr sc 44 4 [zp a0, zj x1, zj x2, zj (x3 + 1)] [] w ov w' c s
      exact h
    · replace h := h.2 hp
      show Zr sc 44 22 [zp a0, zj x1, zj x2, zj x3] [] w ov w' c s
      refine Zr_st (q := (23, [zp a0, zj x1, zj x2, zj x3], [zj x2])) rfl rfl rfl ?_
      show Zr sc 44 23 [zp a0, zj x1, zj x2, zj x3] [zj x2] w ov w' c s
      obtain ⟨hr_10, h⟩ := h
      refine Zr_b0 (p := x2 < 0) rfl rfl (zcmp_0 (cnd := .lt) hr_10) (fun hp => ?_) (fun hp => ?_)
      · replace h := h.1 hp
        show Zr sc 44 41 [zp a0, zj x1, zj x2, zj x3] [] w ov w' c s
        refine Zr_st (q := (42, [zp a0, zj x1, zj x2, zj x3], [zj x3])) rfl rfl rfl ?_
        show Zr sc 44 42 [zp a0, zj x1, zj x2, zj x3] [zj x3] w ov w' c s
        refine Zr_st (q := (43, [zp a0, zj x1, zj x3, zj x3], [])) rfl rfl rfl ?_
        show Zr sc 44 43 [zp a0, zj x1, zj x3, zj x3] [] w ov w' c s
        refine rl_inc rfl rfl rfl rfl ?_
        show Zr sc 44 46 [zp a0, zj x1, zj x3, zj (x3 + 1)] [] w ov w' c s
        refine Zr_st (q := (4, [zp a0, zj x1, zj x3, zj (x3 + 1)], [])) rfl rfl rfl ?_
        show Zr sc 44 4 [zp a0, zj x1, zj x3, zj (x3 + 1)] [] w ov w' c s
        exact h
      · replace h := h.2 hp
        show Zr sc 44 26 [zp a0, zj x1, zj x2, zj x3] [] w ov w' c s
        refine Zr_st (q := (27, [zp a0, zj x1, zj x2, zj x3], [zp a0])) rfl rfl rfl ?_
        show Zr sc 44 27 [zp a0, zj x1, zj x2, zj x3] [zp a0] w ov w' c s
        refine rl_gf rfl hw_1 rfl rfl ?_
        show Zr sc 44 30 [zp a0, zj x1, zj x2, zj x3] [zp f1_3] w ov w' c s
        refine Zr_st (q := (31, [zp a0, zj x1, zj x2, zj x3], [zj x3, zp f1_3])) rfl rfl rfl ?_
        show Zr sc 44 31 [zp a0, zj x1, zj x2, zj x3] [zj x3, zp f1_3] w ov w' c s
        obtain ⟨hi_11, h⟩ := h
        refine rl_ia rfl hw_7 hi_11.1 hi_11.2.1 hi_11.2.2 ?_
        show Zr sc 44 32 [zp a0, zj x1, zj x2, zj x3] [zj (zgi l_8 x3)] w ov w' c s
        refine Zr_st (q := (33, [zp a0, zj x1, zj x2, zj x3], [zp a0, zj (zgi l_8 x3)])) rfl rfl rfl ?_
        show Zr sc 44 33 [zp a0, zj x1, zj x2, zj x3] [zp a0, zj (zgi l_8 x3)] w ov w' c s
        refine rl_gf rfl hw_1 rfl rfl ?_
        show Zr sc 44 36 [zp a0, zj x1, zj x2, zj x3] [zp f1_3, zj (zgi l_8 x3)] w ov w' c s
        refine Zr_st (q := (37, [zp a0, zj x1, zj x2, zj x3], [zj x2, zp f1_3, zj (zgi l_8 x3)])) rfl rfl rfl ?_
        show Zr sc 44 37 [zp a0, zj x1, zj x2, zj x3] [zj x2, zp f1_3, zj (zgi l_8 x3)] w ov w' c s
        obtain ⟨hi_12, h⟩ := h
        refine rl_ia rfl hw_7 hi_12.1 hi_12.2.1 hi_12.2.2 ?_
        show Zr sc 44 38 [zp a0, zj x1, zj x2, zj x3] [zj (zgi l_8 x2), zj (zgi l_8 x3)] w ov w' c s
        obtain ⟨hr_13, h⟩ := h
        refine Zr_br (p := (zgi l_8 x2) ≤ (zgi l_8 x3)) rfl rfl (zcmp_j (cnd := .ge) hr_13.1 hr_13.2) (fun hp => ?_) (fun hp => ?_)
        · replace h := h.1 hp
          show Zr sc 44 43 [zp a0, zj x1, zj x2, zj x3] [] w ov w' c s
          refine rl_inc rfl rfl rfl rfl ?_
          show Zr sc 44 46 [zp a0, zj x1, zj x2, zj (x3 + 1)] [] w ov w' c s
          refine Zr_st (q := (4, [zp a0, zj x1, zj x2, zj (x3 + 1)], [])) rfl rfl rfl ?_
          show Zr sc 44 4 [zp a0, zj x1, zj x2, zj (x3 + 1)] [] w ov w' c s
          exact h
        · replace h := h.2 hp
          show Zr sc 44 41 [zp a0, zj x1, zj x2, zj x3] [] w ov w' c s
          refine Zr_st (q := (42, [zp a0, zj x1, zj x2, zj x3], [zj x3])) rfl rfl rfl ?_
          show Zr sc 44 42 [zp a0, zj x1, zj x2, zj x3] [zj x3] w ov w' c s
          refine Zr_st (q := (43, [zp a0, zj x1, zj x3, zj x3], [])) rfl rfl rfl ?_
          show Zr sc 44 43 [zp a0, zj x1, zj x3, zj x3] [] w ov w' c s
          refine rl_inc rfl rfl rfl rfl ?_
          show Zr sc 44 46 [zp a0, zj x1, zj x3, zj (x3 + 1)] [] w ov w' c s
          refine Zr_st (q := (4, [zp a0, zj x1, zj x3, zj (x3 + 1)], [])) rfl rfl rfl ?_
          show Zr sc 44 4 [zp a0, zj x1, zj x3, zj (x3 + 1)] [] w ov w' c s
          exact h

-- HeapwrightLab$Fits.search(I)I
set_option maxRecDepth 100000 in
theorem V45_0 {sc : List Value} {w w' : List zE} {ov : Option Value} {c s : Nat} {a0 : Nat} {x1 : Int} (h : (∃ f0_2 : Nat, ∃ f1_3 : Nat, ∃ f2_4 : Int, ∃ f3_5 : Int, ∃ f4_6 : Int, ∃ f5_7 : Int, ∃ f6_8 : Int, ∃ f7_9 : Nat, ∃ f8_10 : Nat, ∃ f9_11 : Int, ∃ f10_12 : Int, ∃ f11_13 : Int, ∃ f12_14 : Int, w[a0]? = some (zob 2 [zp f0_2, zp f1_3, zj f2_4, zj f3_5, zj f4_6, zj f5_7, zj f6_8, zp f7_9, zp f8_10, zj f9_11, zj f10_12, zj f11_13, zj f12_14]) ∧ (∃ f0_16 : Nat, ∃ f1_17 : Nat, ∃ f2_18 : Int, w[f1_3]? = some (zob 3 [zp f0_16, zp f1_17, zj f2_18]) ∧ (∃ r_21 : Int, ∃ w_19 : List zE, Zc sc 21 [zp f1_3] w (some (zj r_21)) w_19 0 0 ∧ (∃ f0_23 : Nat, ∃ f1_24 : Nat, ∃ f2_25 : Int, ∃ f3_26 : Int, ∃ f4_27 : Int, ∃ f5_28 : Int, ∃ f6_29 : Int, ∃ f7_30 : Nat, ∃ f8_31 : Nat, ∃ f9_32 : Int, ∃ f10_33 : Int, ∃ f11_34 : Int, ∃ f12_35 : Int, w_19[a0]? = some (zob 2 [zp f0_23, zp f1_24, zj f2_25, zj f3_26, zj f4_27, zj f5_28, zj f6_29, zp f7_30, zp f8_31, zj f9_32, zj f10_33, zj f11_34, zj f12_35]) ∧ ((zrg f2_25) ∧ (((f2_25 < 0 ∨ 2 < f2_25) → ((a0 ≠ f1_24) ∧ (∃ f0_39 : Nat, ∃ f1_40 : Nat, ∃ f2_41 : Int, w_19[f1_24]? = some (zob 3 [zp f0_39, zp f1_40, zj f2_41]) ∧ (∃ r_44 : Int, ∃ w_42 : List zE, Zc sc 48 [zp f1_24, zj x1] (w_19.set a0 (zob 2 [zp f0_23, zp f1_24, zj f2_25, zj f3_26, zj f4_27, zj f5_28, zj r_21, zp f7_30, zp f8_31, zj f9_32, zj f10_33, zj f11_34, zj f12_35])) (some (zj r_44)) w_42 0 0 ∧ (ov = some (zj r_44) ∧ w' = w_42 ∧ c = 0 ∧ s = 0))))) ∧ (f2_25 = 0 → (∃ r_47 : Int, ∃ w_45 : List zE, Zc sc 46 [zp a0, zj 0, zj x1] (w_19.set a0 (zob 2 [zp f0_23, zp f1_24, zj f2_25, zj f3_26, zj f4_27, zj f5_28, zj r_21, zp f7_30, zp f8_31, zj f9_32, zj f10_33, zj f11_34, zj f12_35])) (some (zj r_47)) w_45 0 0 ∧ (ov = some (zj r_47) ∧ w' = w_45 ∧ c = 0 ∧ s = 0))) ∧ (f2_25 = 1 → ((a0 ≠ f1_24) ∧ (∃ f0_50 : Nat, ∃ f1_51 : Nat, ∃ f2_52 : Int, w_19[f1_24]? = some (zob 3 [zp f0_50, zp f1_51, zj f2_52]) ∧ (∃ r_55 : Int, ∃ w_53 : List zE, Zc sc 47 [zp f1_24, zj f5_28] (w_19.set a0 (zob 2 [zp f0_23, zp f1_24, zj f2_25, zj f3_26, zj f4_27, zj f5_28, zj r_21, zp f7_30, zp f8_31, zj f9_32, zj f10_33, zj f11_34, zj f12_35])) (some (zj r_55)) w_53 0 0 ∧ ((zrg r_55 ∧ zrg 0) ∧ (∃ f0_58 : Nat, ∃ f1_59 : Nat, ∃ f2_60 : Int, ∃ f3_61 : Int, ∃ f4_62 : Int, ∃ f5_63 : Int, ∃ f6_64 : Int, ∃ f7_65 : Nat, ∃ f8_66 : Nat, ∃ f9_67 : Int, ∃ f10_68 : Int, ∃ f11_69 : Int, ∃ f12_70 : Int, w_53[a0]? = some (zob 2 [zp f0_58, zp f1_59, zj f2_60, zj f3_61, zj f4_62, zj f5_63, zj f6_64, zp f7_65, zp f8_66, zj f9_67, zj f10_68, zj f11_69, zj f12_70]) ∧ (∃ r_73 : Int, ∃ w_71 : List zE, Zc sc 46 [zp a0, zj (max r_55 0), zj x1] w_53 (some (zj r_73)) w_71 0 0 ∧ (ov = some (zj r_73) ∧ w' = w_71 ∧ c = 0 ∧ s = 0)))))))) ∧ (f2_25 = 2 → ((a0 ≠ f1_24) ∧ (∃ f0_76 : Nat, ∃ f1_77 : Nat, ∃ f2_78 : Int, w_19[f1_24]? = some (zob 3 [zp f0_76, zp f1_77, zj f2_78]) ∧ (∃ r_81 : Int, ∃ w_79 : List zE, Zc sc 44 [zp f1_24, zj x1] (w_19.set a0 (zob 2 [zp f0_23, zp f1_24, zj f2_25, zj f3_26, zj f4_27, zj f5_28, zj r_21, zp f7_30, zp f8_31, zj f9_32, zj f10_33, zj f11_34, zj f12_35])) (some (zj r_81)) w_79 0 0 ∧ (ov = some (zj r_81) ∧ w' = w_79 ∧ c = 0 ∧ s = 0)))))))))))) : Zr sc 45 0 [zp a0, zj x1] [] w ov w' c s := by
  refine Zr_st (q := (1, [zp a0, zj x1], [zp a0])) rfl rfl rfl ?_
  show Zr sc 45 1 [zp a0, zj x1] [zp a0] w ov w' c s
  refine Zr_st (q := (2, [zp a0, zj x1], [zp a0, zp a0])) rfl rfl rfl ?_
  show Zr sc 45 2 [zp a0, zj x1] [zp a0, zp a0] w ov w' c s
  obtain ⟨f0_2, f1_3, f2_4, f3_5, f4_6, f5_7, f6_8, f7_9, f8_10, f9_11, f10_12, f11_13, f12_14, hw_1, h⟩ := h
  refine rl_gf rfl hw_1 rfl rfl ?_
  show Zr sc 45 5 [zp a0, zj x1] [zp f1_3, zp a0] w ov w' c s
  obtain ⟨f0_16, f1_17, f2_18, hw_15, h⟩ := h
  obtain ⟨r_21, w_19, hk_20, h⟩ := h
  refine rn_cal0 (ins := .invokevirtual 26) (rest := [zp a0]) rfl rfl rfl rfl (zinv_v (fs := _) hw_15 rfl rfl rfl rfl) rfl rfl hk_20 ?_
  show Zr sc 45 8 [zp a0, zj x1] [zj r_21, zp a0] w_19 ov w' c s
  obtain ⟨f0_23, f1_24, f2_25, f3_26, f4_27, f5_28, f6_29, f7_30, f8_31, f9_32, f10_33, f11_34, f12_35, hw_22, h⟩ := h
  refine rl_pf rfl hw_22 rfl rfl rfl ?_
  show Zr sc 45 11 [zp a0, zj x1] [] (w_19.set a0 (zob 2 [zp f0_23, zp f1_24, zj f2_25, zj f3_26, zj f4_27, zj f5_28, zj r_21, zp f7_30, zp f8_31, zj f9_32, zj f10_33, zj f11_34, zj f12_35])) ov w' c s
  refine Zr_st (q := (12, [zp a0, zj x1], [zp a0])) rfl rfl rfl ?_
  show Zr sc 45 12 [zp a0, zj x1] [zp a0] (w_19.set a0 (zob 2 [zp f0_23, zp f1_24, zj f2_25, zj f3_26, zj f4_27, zj f5_28, zj r_21, zp f7_30, zp f8_31, zj f9_32, zj f10_33, zj f11_34, zj f12_35])) ov w' c s
  refine rl_gf rfl (zw_s hw_22) rfl rfl ?_
  show Zr sc 45 15 [zp a0, zj x1] [zj f2_25] (w_19.set a0 (zob 2 [zp f0_23, zp f1_24, zj f2_25, zj f3_26, zj f4_27, zj f5_28, zj r_21, zp f7_30, zp f8_31, zj f9_32, zj f10_33, zj f11_34, zj f12_35])) ov w' c s
  obtain ⟨hr_36, h⟩ := h
  have hsw : (f2_25 < 0 ∨ 2 < f2_25) ∨ f2_25 = 0 ∨ f2_25 = 1 ∨ f2_25 = 2 := by omega
  rcases hsw with hp | hp | hp | hp
  · replace h := h.1 hp
    refine rl_sw (t := 77) rfl hr_36 (zsw_d hp rfl) ?_
    show Zr sc 45 77 [zp a0, zj x1] [] (w_19.set a0 (zob 2 [zp f0_23, zp f1_24, zj f2_25, zj f3_26, zj f4_27, zj f5_28, zj r_21, zp f7_30, zp f8_31, zj f9_32, zj f10_33, zj f11_34, zj f12_35])) ov w' c s
    refine Zr_st (q := (78, [zp a0, zj x1], [zp a0])) rfl rfl rfl ?_
    show Zr sc 45 78 [zp a0, zj x1] [zp a0] (w_19.set a0 (zob 2 [zp f0_23, zp f1_24, zj f2_25, zj f3_26, zj f4_27, zj f5_28, zj r_21, zp f7_30, zp f8_31, zj f9_32, zj f10_33, zj f11_34, zj f12_35])) ov w' c s
    refine rl_gf rfl (zw_s hw_22) rfl rfl ?_
    show Zr sc 45 81 [zp a0, zj x1] [zp f1_24] (w_19.set a0 (zob 2 [zp f0_23, zp f1_24, zj f2_25, zj f3_26, zj f4_27, zj f5_28, zj r_21, zp f7_30, zp f8_31, zj f9_32, zj f10_33, zj f11_34, zj f12_35])) ov w' c s
    refine Zr_st (q := (82, [zp a0, zj x1], [zj x1, zp f1_24])) rfl rfl rfl ?_
    show Zr sc 45 82 [zp a0, zj x1] [zj x1, zp f1_24] (w_19.set a0 (zob 2 [zp f0_23, zp f1_24, zj f2_25, zj f3_26, zj f4_27, zj f5_28, zj r_21, zp f7_30, zp f8_31, zj f9_32, zj f10_33, zj f11_34, zj f12_35])) ov w' c s
    obtain ⟨hn_37, h⟩ := h
    obtain ⟨f0_39, f1_40, f2_41, hw_38, h⟩ := h
    obtain ⟨r_44, w_42, hk_43, h⟩ := h
    refine rn_cal0 (ins := .invokevirtual 56) (rest := []) rfl rfl rfl rfl (zinv_v (fs := _) (zw_o hn_37 hw_38) rfl rfl rfl rfl) rfl rfl hk_43 ?_
    show Zr sc 45 85 [zp a0, zj x1] [zj r_44] w_42 ov w' c s
    obtain ⟨h1, h2, h3, h4⟩ := h
    subst h1; subst h2; subst h3; subst h4
    exact Zr_ret (ins := .ireturn) rfl rfl
  · replace h := h.2.1 hp
    refine rl_sw (t := 40) rfl hr_36 (by rw [hp]; rfl) ?_
    show Zr sc 45 40 [zp a0, zj x1] [] (w_19.set a0 (zob 2 [zp f0_23, zp f1_24, zj f2_25, zj f3_26, zj f4_27, zj f5_28, zj r_21, zp f7_30, zp f8_31, zj f9_32, zj f10_33, zj f11_34, zj f12_35])) ov w' c s
    refine Zr_st (q := (41, [zp a0, zj x1], [zp a0])) rfl rfl rfl ?_
    show Zr sc 45 41 [zp a0, zj x1] [zp a0] (w_19.set a0 (zob 2 [zp f0_23, zp f1_24, zj f2_25, zj f3_26, zj f4_27, zj f5_28, zj r_21, zp f7_30, zp f8_31, zj f9_32, zj f10_33, zj f11_34, zj f12_35])) ov w' c s
    refine rl_ic rfl ?_
    show Zr sc 45 42 [zp a0, zj x1] [zj 0, zp a0] (w_19.set a0 (zob 2 [zp f0_23, zp f1_24, zj f2_25, zj f3_26, zj f4_27, zj f5_28, zj r_21, zp f7_30, zp f8_31, zj f9_32, zj f10_33, zj f11_34, zj f12_35])) ov w' c s
    refine Zr_st (q := (43, [zp a0, zj x1], [zj x1, zj 0, zp a0])) rfl rfl rfl ?_
    show Zr sc 45 43 [zp a0, zj x1] [zj x1, zj 0, zp a0] (w_19.set a0 (zob 2 [zp f0_23, zp f1_24, zj f2_25, zj f3_26, zj f4_27, zj f5_28, zj r_21, zp f7_30, zp f8_31, zj f9_32, zj f10_33, zj f11_34, zj f12_35])) ov w' c s
    obtain ⟨r_47, w_45, hk_46, h⟩ := h
    refine rn_cal0 (ins := .invokevirtual 38) (rest := []) rfl rfl rfl rfl (zinv_v (fs := _) (zw_s hw_22) rfl rfl rfl rfl) rfl rfl hk_46 ?_
    show Zr sc 45 46 [zp a0, zj x1] [zj r_47] w_45 ov w' c s
    obtain ⟨h1, h2, h3, h4⟩ := h
    subst h1; subst h2; subst h3; subst h4
    exact Zr_ret (ins := .ireturn) rfl rfl
  · replace h := h.2.2.1 hp
    refine rl_sw (t := 47) rfl hr_36 (by rw [hp]; rfl) ?_
    show Zr sc 45 47 [zp a0, zj x1] [] (w_19.set a0 (zob 2 [zp f0_23, zp f1_24, zj f2_25, zj f3_26, zj f4_27, zj f5_28, zj r_21, zp f7_30, zp f8_31, zj f9_32, zj f10_33, zj f11_34, zj f12_35])) ov w' c s
    refine Zr_st (q := (48, [zp a0, zj x1], [zp a0])) rfl rfl rfl ?_
    show Zr sc 45 48 [zp a0, zj x1] [zp a0] (w_19.set a0 (zob 2 [zp f0_23, zp f1_24, zj f2_25, zj f3_26, zj f4_27, zj f5_28, zj r_21, zp f7_30, zp f8_31, zj f9_32, zj f10_33, zj f11_34, zj f12_35])) ov w' c s
    refine Zr_st (q := (49, [zp a0, zj x1], [zp a0, zp a0])) rfl rfl rfl ?_
    show Zr sc 45 49 [zp a0, zj x1] [zp a0, zp a0] (w_19.set a0 (zob 2 [zp f0_23, zp f1_24, zj f2_25, zj f3_26, zj f4_27, zj f5_28, zj r_21, zp f7_30, zp f8_31, zj f9_32, zj f10_33, zj f11_34, zj f12_35])) ov w' c s
    refine rl_gf rfl (zw_s hw_22) rfl rfl ?_
    show Zr sc 45 52 [zp a0, zj x1] [zp f1_24, zp a0] (w_19.set a0 (zob 2 [zp f0_23, zp f1_24, zj f2_25, zj f3_26, zj f4_27, zj f5_28, zj r_21, zp f7_30, zp f8_31, zj f9_32, zj f10_33, zj f11_34, zj f12_35])) ov w' c s
    refine Zr_st (q := (53, [zp a0, zj x1], [zp a0, zp f1_24, zp a0])) rfl rfl rfl ?_
    show Zr sc 45 53 [zp a0, zj x1] [zp a0, zp f1_24, zp a0] (w_19.set a0 (zob 2 [zp f0_23, zp f1_24, zj f2_25, zj f3_26, zj f4_27, zj f5_28, zj r_21, zp f7_30, zp f8_31, zj f9_32, zj f10_33, zj f11_34, zj f12_35])) ov w' c s
    refine rl_gf rfl (zw_s hw_22) rfl rfl ?_
    show Zr sc 45 56 [zp a0, zj x1] [zj f5_28, zp f1_24, zp a0] (w_19.set a0 (zob 2 [zp f0_23, zp f1_24, zj f2_25, zj f3_26, zj f4_27, zj f5_28, zj r_21, zp f7_30, zp f8_31, zj f9_32, zj f10_33, zj f11_34, zj f12_35])) ov w' c s
    obtain ⟨hn_48, h⟩ := h
    obtain ⟨f0_50, f1_51, f2_52, hw_49, h⟩ := h
    obtain ⟨r_55, w_53, hk_54, h⟩ := h
    refine rn_cal0 (ins := .invokevirtual 44) (rest := [zp a0]) rfl rfl rfl rfl (zinv_v (fs := _) (zw_o hn_48 hw_49) rfl rfl rfl rfl) rfl rfl hk_54 ?_
    show Zr sc 45 59 [zp a0, zj x1] [zj r_55, zp a0] w_53 ov w' c s
    refine rl_ic rfl ?_
    show Zr sc 45 60 [zp a0, zj x1] [zj 0, zj r_55, zp a0] w_53 ov w' c s
    obtain ⟨hm_56, h⟩ := h
    refine Zr_mx (b := true) (ins := .invokestatic 48) (rest := [zp a0]) rfl rfl rfl rfl (zinv_t2 (rest := [zp a0]) rfl rfl rfl rfl rfl) rfl (zmx_j hm_56.1 hm_56.2) ?_
    show Zr sc 45 63 [zp a0, zj x1] [zj (max r_55 0), zp a0] w_53 ov w' c s
    refine Zr_st (q := (64, [zp a0, zj x1], [zj x1, zj (max r_55 0), zp a0])) rfl rfl rfl ?_
    show Zr sc 45 64 [zp a0, zj x1] [zj x1, zj (max r_55 0), zp a0] w_53 ov w' c s
    obtain ⟨f0_58, f1_59, f2_60, f3_61, f4_62, f5_63, f6_64, f7_65, f8_66, f9_67, f10_68, f11_69, f12_70, hw_57, h⟩ := h
    obtain ⟨r_73, w_71, hk_72, h⟩ := h
    refine rn_cal0 (ins := .invokevirtual 38) (rest := []) rfl rfl rfl rfl (zinv_v (fs := _) hw_57 rfl rfl rfl rfl) rfl rfl hk_72 ?_
    show Zr sc 45 67 [zp a0, zj x1] [zj r_73] w_71 ov w' c s
    obtain ⟨h1, h2, h3, h4⟩ := h
    subst h1; subst h2; subst h3; subst h4
    exact Zr_ret (ins := .ireturn) rfl rfl
  · replace h := h.2.2.2 hp
    refine rl_sw (t := 68) rfl hr_36 (by rw [hp]; rfl) ?_
    show Zr sc 45 68 [zp a0, zj x1] [] (w_19.set a0 (zob 2 [zp f0_23, zp f1_24, zj f2_25, zj f3_26, zj f4_27, zj f5_28, zj r_21, zp f7_30, zp f8_31, zj f9_32, zj f10_33, zj f11_34, zj f12_35])) ov w' c s
    refine Zr_st (q := (69, [zp a0, zj x1], [zp a0])) rfl rfl rfl ?_
    show Zr sc 45 69 [zp a0, zj x1] [zp a0] (w_19.set a0 (zob 2 [zp f0_23, zp f1_24, zj f2_25, zj f3_26, zj f4_27, zj f5_28, zj r_21, zp f7_30, zp f8_31, zj f9_32, zj f10_33, zj f11_34, zj f12_35])) ov w' c s
    refine rl_gf rfl (zw_s hw_22) rfl rfl ?_
    show Zr sc 45 72 [zp a0, zj x1] [zp f1_24] (w_19.set a0 (zob 2 [zp f0_23, zp f1_24, zj f2_25, zj f3_26, zj f4_27, zj f5_28, zj r_21, zp f7_30, zp f8_31, zj f9_32, zj f10_33, zj f11_34, zj f12_35])) ov w' c s
    refine Zr_st (q := (73, [zp a0, zj x1], [zj x1, zp f1_24])) rfl rfl rfl ?_
    show Zr sc 45 73 [zp a0, zj x1] [zj x1, zp f1_24] (w_19.set a0 (zob 2 [zp f0_23, zp f1_24, zj f2_25, zj f3_26, zj f4_27, zj f5_28, zj r_21, zp f7_30, zp f8_31, zj f9_32, zj f10_33, zj f11_34, zj f12_35])) ov w' c s
    obtain ⟨hn_74, h⟩ := h
    obtain ⟨f0_76, f1_77, f2_78, hw_75, h⟩ := h
    obtain ⟨r_81, w_79, hk_80, h⟩ := h
    refine rn_cal0 (ins := .invokevirtual 53) (rest := []) rfl rfl rfl rfl (zinv_v (fs := _) (zw_o hn_74 hw_75) rfl rfl rfl rfl) rfl rfl hk_80 ?_
    show Zr sc 45 76 [zp a0, zj x1] [zj r_81] w_79 ov w' c s
    obtain ⟨h1, h2, h3, h4⟩ := h
    subst h1; subst h2; subst h3; subst h4
    exact Zr_ret (ins := .ireturn) rfl rfl

-- HeapwrightLab$Fits.searchRound(II)I
set_option maxRecDepth 100000 in
theorem V46_0 {sc : List Value} {w w' : List zE} {ov : Option Value} {c s : Nat} {a0 : Nat} {x1 : Int} {x2 : Int} (h : (∃ f0_2 : Nat, ∃ f1_3 : Nat, ∃ f2_4 : Int, ∃ f3_5 : Int, ∃ f4_6 : Int, ∃ f5_7 : Int, ∃ f6_8 : Int, ∃ f7_9 : Nat, ∃ f8_10 : Nat, ∃ f9_11 : Int, ∃ f10_12 : Int, ∃ f11_13 : Int, ∃ f12_14 : Int, w[a0]? = some (zob 2 [zp f0_2, zp f1_3, zj f2_4, zj f3_5, zj f4_6, zj f5_7, zj f6_8, zp f7_9, zp f8_10, zj f9_11, zj f10_12, zj f11_13, zj f12_14]) ∧ (∃ f0_16 : Nat, ∃ f1_17 : Nat, ∃ f2_18 : Int, w[f1_3]? = some (zob 3 [zp f0_16, zp f1_17, zj f2_18]) ∧ (∃ r_21 : Int, ∃ w_19 : List zE, Zc sc 21 [zp f1_3] w (some (zj r_21)) w_19 0 0 ∧ Zr sc 46 11 [zp a0, zj x1, zj x2, zj r_21, zj 0, zmk] [] w_19 ov w' c s)))) : Zr sc 46 0 [zp a0, zj x1, zj x2, zmk, zmk, zmk] [] w ov w' c s := by
  refine Zr_st (q := (1, [zp a0, zj x1, zj x2, zmk, zmk, zmk], [zp a0])) rfl rfl rfl ?_
  show Zr sc 46 1 [zp a0, zj x1, zj x2, zmk, zmk, zmk] [zp a0] w ov w' c s
  obtain ⟨f0_2, f1_3, f2_4, f3_5, f4_6, f5_7, f6_8, f7_9, f8_10, f9_11, f10_12, f11_13, f12_14, hw_1, h⟩ := h
  refine rl_gf rfl hw_1 rfl rfl ?_
  show Zr sc 46 4 [zp a0, zj x1, zj x2, zmk, zmk, zmk] [zp f1_3] w ov w' c s
  obtain ⟨f0_16, f1_17, f2_18, hw_15, h⟩ := h
  obtain ⟨r_21, w_19, hk_20, h⟩ := h
  refine rn_cal0 (ins := .invokevirtual 26) (rest := []) rfl rfl rfl rfl (zinv_v (fs := _) hw_15 rfl rfl rfl rfl) rfl rfl hk_20 ?_
  show Zr sc 46 7 [zp a0, zj x1, zj x2, zmk, zmk, zmk] [zj r_21] w_19 ov w' c s
  refine Zr_st (q := (8, [zp a0, zj x1, zj x2, zj r_21, zmk, zmk], [])) rfl rfl rfl ?_
  show Zr sc 46 8 [zp a0, zj x1, zj x2, zj r_21, zmk, zmk] [] w_19 ov w' c s
  refine rl_ic rfl ?_
  show Zr sc 46 9 [zp a0, zj x1, zj x2, zj r_21, zmk, zmk] [zj 0] w_19 ov w' c s
  refine Zr_st (q := (11, [zp a0, zj x1, zj x2, zj r_21, zj 0, zmk], [])) rfl rfl rfl ?_
  show Zr sc 46 11 [zp a0, zj x1, zj x2, zj r_21, zj 0, zmk] [] w_19 ov w' c s
  exact h
set_option maxRecDepth 100000 in
theorem V46_11 {sc : List Value} {w w' : List zE} {ov : Option Value} {c s : Nat} {a0 : Nat} {x1 : Int} {x2 : Int} {x3 : Int} {x4 : Int} {v5 : Value} (h : ((zrg x4 ∧ zrg x3) ∧ ((x3 ≤ x4 → (ov = some (zj (-1)) ∧ w' = w ∧ c = 0 ∧ s = 0)) ∧ (¬ (x3 ≤ x4) → ((zrg (x1 + x4) ∧ zrg x3) ∧ ((x3 ≤ (x1 + x4) → (∃ f0_4 : Nat, ∃ f1_5 : Nat, ∃ f2_6 : Int, ∃ f3_7 : Int, ∃ f4_8 : Int, ∃ f5_9 : Int, ∃ f6_10 : Int, ∃ f7_11 : Nat, ∃ f8_12 : Nat, ∃ f9_13 : Int, ∃ f10_14 : Int, ∃ f11_15 : Int, ∃ f12_16 : Int, w[a0]? = some (zob 2 [zp f0_4, zp f1_5, zj f2_6, zj f3_7, zj f4_8, zj f5_9, zj f6_10, zp f7_11, zp f8_12, zj f9_13, zj f10_14, zj f11_15, zj f12_16]) ∧ (∃ f0_18 : Nat, ∃ f1_19 : Nat, ∃ f2_20 : Int, w[f1_5]? = some (zob 3 [zp f0_18, zp f1_19, zj f2_20]) ∧ (∃ r_23 : Int, ∃ w_21 : List zE, Zc sc 26 [zp f1_5, zj ((x1 + x4) - x3)] w (some (zj r_23)) w_21 0 0 ∧ ((zrg r_23 ∧ zrg x2) ∧ ((r_23 < x2 → Zr sc 46 11 [zp a0, zj x1, zj x2, zj x3, zj (x4 + 1), zj ((x1 + x4) - x3)] [] w_21 ov w' c s) ∧ (¬ (r_23 < x2) → (∃ f0_26 : Nat, ∃ f1_27 : Nat, ∃ f2_28 : Int, ∃ f3_29 : Int, ∃ f4_30 : Int, ∃ f5_31 : Int, ∃ f6_32 : Int, ∃ f7_33 : Nat, ∃ f8_34 : Nat, ∃ f9_35 : Int, ∃ f10_36 : Int, ∃ f11_37 : Int, ∃ f12_38 : Int, w_21[a0]? = some (zob 2 [zp f0_26, zp f1_27, zj f2_28, zj f3_29, zj f4_30, zj f5_31, zj f6_32, zp f7_33, zp f8_34, zj f9_35, zj f10_36, zj f11_37, zj f12_38]) ∧ (ov = some (zj ((x1 + x4) - x3)) ∧ w' = (w_21.set a0 (zob 2 [zp f0_26, zp f1_27, zj f2_28, zj f3_29, zj f4_30, zj f5_31, zj (x4 + 1), zp f7_33, zp f8_34, zj f9_35, zj f10_36, zj f11_37, zj f12_38])) ∧ c = 0 ∧ s = 0))))))))) ∧ (¬ (x3 ≤ (x1 + x4)) → (∃ f0_40 : Nat, ∃ f1_41 : Nat, ∃ f2_42 : Int, ∃ f3_43 : Int, ∃ f4_44 : Int, ∃ f5_45 : Int, ∃ f6_46 : Int, ∃ f7_47 : Nat, ∃ f8_48 : Nat, ∃ f9_49 : Int, ∃ f10_50 : Int, ∃ f11_51 : Int, ∃ f12_52 : Int, w[a0]? = some (zob 2 [zp f0_40, zp f1_41, zj f2_42, zj f3_43, zj f4_44, zj f5_45, zj f6_46, zp f7_47, zp f8_48, zj f9_49, zj f10_50, zj f11_51, zj f12_52]) ∧ (∃ f0_54 : Nat, ∃ f1_55 : Nat, ∃ f2_56 : Int, w[f1_41]? = some (zob 3 [zp f0_54, zp f1_55, zj f2_56]) ∧ (∃ r_59 : Int, ∃ w_57 : List zE, Zc sc 26 [zp f1_41, zj (x1 + x4)] w (some (zj r_59)) w_57 0 0 ∧ ((zrg r_59 ∧ zrg x2) ∧ ((r_59 < x2 → Zr sc 46 11 [zp a0, zj x1, zj x2, zj x3, zj (x4 + 1), zj (x1 + x4)] [] w_57 ov w' c s) ∧ (¬ (r_59 < x2) → (∃ f0_62 : Nat, ∃ f1_63 : Nat, ∃ f2_64 : Int, ∃ f3_65 : Int, ∃ f4_66 : Int, ∃ f5_67 : Int, ∃ f6_68 : Int, ∃ f7_69 : Nat, ∃ f8_70 : Nat, ∃ f9_71 : Int, ∃ f10_72 : Int, ∃ f11_73 : Int, ∃ f12_74 : Int, w_57[a0]? = some (zob 2 [zp f0_62, zp f1_63, zj f2_64, zj f3_65, zj f4_66, zj f5_67, zj f6_68, zp f7_69, zp f8_70, zj f9_71, zj f10_72, zj f11_73, zj f12_74]) ∧ (ov = some (zj (x1 + x4)) ∧ w' = (w_57.set a0 (zob 2 [zp f0_62, zp f1_63, zj f2_64, zj f3_65, zj f4_66, zj f5_67, zj (x4 + 1), zp f7_69, zp f8_70, zj f9_71, zj f10_72, zj f11_73, zj f12_74])) ∧ c = 0 ∧ s = 0))))))))))))))) : Zr sc 46 11 [zp a0, zj x1, zj x2, zj x3, zj x4, v5] [] w ov w' c s := by
  refine Zr_st (q := (13, [zp a0, zj x1, zj x2, zj x3, zj x4, v5], [zj x4])) rfl rfl rfl ?_
  show Zr sc 46 13 [zp a0, zj x1, zj x2, zj x3, zj x4, v5] [zj x4] w ov w' c s
  refine Zr_st (q := (14, [zp a0, zj x1, zj x2, zj x3, zj x4, v5], [zj x3, zj x4])) rfl rfl rfl ?_
  show Zr sc 46 14 [zp a0, zj x1, zj x2, zj x3, zj x4, v5] [zj x3, zj x4] w ov w' c s
  obtain ⟨hr_1, h⟩ := h
  refine Zr_br (p := x3 ≤ x4) rfl rfl (zcmp_j (cnd := .ge) hr_1.1 hr_1.2) (fun hp => ?_) (fun hp => ?_)
  · replace h := h.1 hp
    show Zr sc 46 70 [zp a0, zj x1, zj x2, zj x3, zj x4, v5] [] w ov w' c s
    refine rl_ic rfl ?_
    show Zr sc 46 71 [zp a0, zj x1, zj x2, zj x3, zj x4, v5] [zj (-1)] w ov w' c s
    obtain ⟨h1, h2, h3, h4⟩ := h
    subst h1; subst h2; subst h3; subst h4
    exact Zr_ret (ins := .ireturn) rfl rfl
  · replace h := h.2 hp
    show Zr sc 46 17 [zp a0, zj x1, zj x2, zj x3, zj x4, v5] [] w ov w' c s
    refine Zr_st (q := (18, [zp a0, zj x1, zj x2, zj x3, zj x4, v5], [zj x1])) rfl rfl rfl ?_
    show Zr sc 46 18 [zp a0, zj x1, zj x2, zj x3, zj x4, v5] [zj x1] w ov w' c s
    refine Zr_st (q := (20, [zp a0, zj x1, zj x2, zj x3, zj x4, v5], [zj x4, zj x1])) rfl rfl rfl ?_
    show Zr sc 46 20 [zp a0, zj x1, zj x2, zj x3, zj x4, v5] [zj x4, zj x1] w ov w' c s
    refine rl_add rfl ?_
    show Zr sc 46 21 [zp a0, zj x1, zj x2, zj x3, zj x4, v5] [zj (x1 + x4)] w ov w' c s
    refine Zr_st (q := (22, [zp a0, zj x1, zj x2, zj x3, zj x4, v5], [zj x3, zj (x1 + x4)])) rfl rfl rfl ?_
    show Zr sc 46 22 [zp a0, zj x1, zj x2, zj x3, zj x4, v5] [zj x3, zj (x1 + x4)] w ov w' c s
    obtain ⟨hr_2, h⟩ := h
    refine Zr_br (p := x3 ≤ (x1 + x4)) rfl rfl (zcmp_j (cnd := .ge) hr_2.1 hr_2.2) (fun hp => ?_) (fun hp => ?_)
    · replace h := h.1 hp
      show Zr sc 46 32 [zp a0, zj x1, zj x2, zj x3, zj x4, v5] [] w ov w' c s
      refine Zr_st (q := (33, [zp a0, zj x1, zj x2, zj x3, zj x4, v5], [zj x1])) rfl rfl rfl ?_
      show Zr sc 46 33 [zp a0, zj x1, zj x2, zj x3, zj x4, v5] [zj x1] w ov w' c s
      refine Zr_st (q := (35, [zp a0, zj x1, zj x2, zj x3, zj x4, v5], [zj x4, zj x1])) rfl rfl rfl ?_
      show Zr sc 46 35 [zp a0, zj x1, zj x2, zj x3, zj x4, v5] [zj x4, zj x1] w ov w' c s
      refine rl_add rfl ?_
      show Zr sc 46 36 [zp a0, zj x1, zj x2, zj x3, zj x4, v5] [zj (x1 + x4)] w ov w' c s
      refine Zr_st (q := (37, [zp a0, zj x1, zj x2, zj x3, zj x4, v5], [zj x3, zj (x1 + x4)])) rfl rfl rfl ?_
      show Zr sc 46 37 [zp a0, zj x1, zj x2, zj x3, zj x4, v5] [zj x3, zj (x1 + x4)] w ov w' c s
      refine rl_sub rfl ?_
      show Zr sc 46 38 [zp a0, zj x1, zj x2, zj x3, zj x4, v5] [zj ((x1 + x4) - x3)] w ov w' c s
      refine Zr_st (q := (40, [zp a0, zj x1, zj x2, zj x3, zj x4, zj ((x1 + x4) - x3)], [])) rfl rfl rfl ?_
      show Zr sc 46 40 [zp a0, zj x1, zj x2, zj x3, zj x4, zj ((x1 + x4) - x3)] [] w ov w' c s
      refine Zr_st (q := (41, [zp a0, zj x1, zj x2, zj x3, zj x4, zj ((x1 + x4) - x3)], [zp a0])) rfl rfl rfl ?_
      show Zr sc 46 41 [zp a0, zj x1, zj x2, zj x3, zj x4, zj ((x1 + x4) - x3)] [zp a0] w ov w' c s
      obtain ⟨f0_4, f1_5, f2_6, f3_7, f4_8, f5_9, f6_10, f7_11, f8_12, f9_13, f10_14, f11_15, f12_16, hw_3, h⟩ := h
      refine rl_gf rfl hw_3 rfl rfl ?_
      show Zr sc 46 44 [zp a0, zj x1, zj x2, zj x3, zj x4, zj ((x1 + x4) - x3)] [zp f1_5] w ov w' c s
      refine Zr_st (q := (46, [zp a0, zj x1, zj x2, zj x3, zj x4, zj ((x1 + x4) - x3)], [zj ((x1 + x4) - x3), zp f1_5])) rfl rfl rfl ?_
      show Zr sc 46 46 [zp a0, zj x1, zj x2, zj x3, zj x4, zj ((x1 + x4) - x3)] [zj ((x1 + x4) - x3), zp f1_5] w ov w' c s
      obtain ⟨f0_18, f1_19, f2_20, hw_17, h⟩ := h
      obtain ⟨r_23, w_21, hk_22, h⟩ := h
      refine rn_cal0 (ins := .invokevirtual 66) (rest := []) rfl rfl rfl rfl (zinv_v (fs := _) hw_17 rfl rfl rfl rfl) rfl rfl hk_22 ?_
      show Zr sc 46 49 [zp a0, zj x1, zj x2, zj x3, zj x4, zj ((x1 + x4) - x3)] [zj r_23] w_21 ov w' c s
      refine Zr_st (q := (50, [zp a0, zj x1, zj x2, zj x3, zj x4, zj ((x1 + x4) - x3)], [zj x2, zj r_23])) rfl rfl rfl ?_
      show Zr sc 46 50 [zp a0, zj x1, zj x2, zj x3, zj x4, zj ((x1 + x4) - x3)] [zj x2, zj r_23] w_21 ov w' c s
      obtain ⟨hr_24, h⟩ := h
      refine Zr_br (p := r_23 < x2) rfl rfl (zcmp_j (cnd := .lt) hr_24.1 hr_24.2) (fun hp => ?_) (fun hp => ?_)
      · replace h := h.1 hp
        show Zr sc 46 64 [zp a0, zj x1, zj x2, zj x3, zj x4, zj ((x1 + x4) - x3)] [] w_21 ov w' c s
        refine rl_inc rfl rfl rfl rfl ?_
        show Zr sc 46 67 [zp a0, zj x1, zj x2, zj x3, zj (x4 + 1), zj ((x1 + x4) - x3)] [] w_21 ov w' c s
        refine Zr_st (q := (11, [zp a0, zj x1, zj x2, zj x3, zj (x4 + 1), zj ((x1 + x4) - x3)], [])) rfl rfl rfl ?_
        show Zr sc 46 11 [zp a0, zj x1, zj x2, zj x3, zj (x4 + 1), zj ((x1 + x4) - x3)] [] w_21 ov w' c s
        exact h
      · replace h := h.2 hp
        show Zr sc 46 53 [zp a0, zj x1, zj x2, zj x3, zj x4, zj ((x1 + x4) - x3)] [] w_21 ov w' c s
        refine Zr_st (q := (54, [zp a0, zj x1, zj x2, zj x3, zj x4, zj ((x1 + x4) - x3)], [zp a0])) rfl rfl rfl ?_
        show Zr sc 46 54 [zp a0, zj x1, zj x2, zj x3, zj x4, zj ((x1 + x4) - x3)] [zp a0] w_21 ov w' c s
        refine Zr_st (q := (56, [zp a0, zj x1, zj x2, zj x3, zj x4, zj ((x1 + x4) - x3)], [zj x4, zp a0])) rfl rfl rfl ?_
        show Zr sc 46 56 [zp a0, zj x1, zj x2, zj x3, zj x4, zj ((x1 + x4) - x3)] [zj x4, zp a0] w_21 ov w' c s
        refine rl_ic rfl ?_
        show Zr sc 46 57 [zp a0, zj x1, zj x2, zj x3, zj x4, zj ((x1 + x4) - x3)] [zj 1, zj x4, zp a0] w_21 ov w' c s
        refine rl_add rfl ?_
        show Zr sc 46 58 [zp a0, zj x1, zj x2, zj x3, zj x4, zj ((x1 + x4) - x3)] [zj (x4 + 1), zp a0] w_21 ov w' c s
        obtain ⟨f0_26, f1_27, f2_28, f3_29, f4_30, f5_31, f6_32, f7_33, f8_34, f9_35, f10_36, f11_37, f12_38, hw_25, h⟩ := h
        refine rl_pf rfl hw_25 rfl rfl rfl ?_
        show Zr sc 46 61 [zp a0, zj x1, zj x2, zj x3, zj x4, zj ((x1 + x4) - x3)] [] (w_21.set a0 (zob 2 [zp f0_26, zp f1_27, zj f2_28, zj f3_29, zj f4_30, zj f5_31, zj (x4 + 1), zp f7_33, zp f8_34, zj f9_35, zj f10_36, zj f11_37, zj f12_38])) ov w' c s
        refine Zr_st (q := (63, [zp a0, zj x1, zj x2, zj x3, zj x4, zj ((x1 + x4) - x3)], [zj ((x1 + x4) - x3)])) rfl rfl rfl ?_
        show Zr sc 46 63 [zp a0, zj x1, zj x2, zj x3, zj x4, zj ((x1 + x4) - x3)] [zj ((x1 + x4) - x3)] (w_21.set a0 (zob 2 [zp f0_26, zp f1_27, zj f2_28, zj f3_29, zj f4_30, zj f5_31, zj (x4 + 1), zp f7_33, zp f8_34, zj f9_35, zj f10_36, zj f11_37, zj f12_38])) ov w' c s
        obtain ⟨h1, h2, h3, h4⟩ := h
        subst h1; subst h2; subst h3; subst h4
        exact Zr_ret (ins := .ireturn) rfl rfl
    · replace h := h.2 hp
      show Zr sc 46 25 [zp a0, zj x1, zj x2, zj x3, zj x4, v5] [] w ov w' c s
      refine Zr_st (q := (26, [zp a0, zj x1, zj x2, zj x3, zj x4, v5], [zj x1])) rfl rfl rfl ?_
      show Zr sc 46 26 [zp a0, zj x1, zj x2, zj x3, zj x4, v5] [zj x1] w ov w' c s
      refine Zr_st (q := (28, [zp a0, zj x1, zj x2, zj x3, zj x4, v5], [zj x4, zj x1])) rfl rfl rfl ?_
      show Zr sc 46 28 [zp a0, zj x1, zj x2, zj x3, zj x4, v5] [zj x4, zj x1] w ov w' c s
      refine rl_add rfl ?_
      show Zr sc 46 29 [zp a0, zj x1, zj x2, zj x3, zj x4, v5] [zj (x1 + x4)] w ov w' c s
      refine Zr_st (q := (38, [zp a0, zj x1, zj x2, zj x3, zj x4, v5], [zj (x1 + x4)])) rfl rfl rfl ?_
      show Zr sc 46 38 [zp a0, zj x1, zj x2, zj x3, zj x4, v5] [zj (x1 + x4)] w ov w' c s
      refine Zr_st (q := (40, [zp a0, zj x1, zj x2, zj x3, zj x4, zj (x1 + x4)], [])) rfl rfl rfl ?_
      show Zr sc 46 40 [zp a0, zj x1, zj x2, zj x3, zj x4, zj (x1 + x4)] [] w ov w' c s
      refine Zr_st (q := (41, [zp a0, zj x1, zj x2, zj x3, zj x4, zj (x1 + x4)], [zp a0])) rfl rfl rfl ?_
      show Zr sc 46 41 [zp a0, zj x1, zj x2, zj x3, zj x4, zj (x1 + x4)] [zp a0] w ov w' c s
      obtain ⟨f0_40, f1_41, f2_42, f3_43, f4_44, f5_45, f6_46, f7_47, f8_48, f9_49, f10_50, f11_51, f12_52, hw_39, h⟩ := h
      refine rl_gf rfl hw_39 rfl rfl ?_
      show Zr sc 46 44 [zp a0, zj x1, zj x2, zj x3, zj x4, zj (x1 + x4)] [zp f1_41] w ov w' c s
      refine Zr_st (q := (46, [zp a0, zj x1, zj x2, zj x3, zj x4, zj (x1 + x4)], [zj (x1 + x4), zp f1_41])) rfl rfl rfl ?_
      show Zr sc 46 46 [zp a0, zj x1, zj x2, zj x3, zj x4, zj (x1 + x4)] [zj (x1 + x4), zp f1_41] w ov w' c s
      obtain ⟨f0_54, f1_55, f2_56, hw_53, h⟩ := h
      obtain ⟨r_59, w_57, hk_58, h⟩ := h
      refine rn_cal0 (ins := .invokevirtual 66) (rest := []) rfl rfl rfl rfl (zinv_v (fs := _) hw_53 rfl rfl rfl rfl) rfl rfl hk_58 ?_
      show Zr sc 46 49 [zp a0, zj x1, zj x2, zj x3, zj x4, zj (x1 + x4)] [zj r_59] w_57 ov w' c s
      refine Zr_st (q := (50, [zp a0, zj x1, zj x2, zj x3, zj x4, zj (x1 + x4)], [zj x2, zj r_59])) rfl rfl rfl ?_
      show Zr sc 46 50 [zp a0, zj x1, zj x2, zj x3, zj x4, zj (x1 + x4)] [zj x2, zj r_59] w_57 ov w' c s
      obtain ⟨hr_60, h⟩ := h
      refine Zr_br (p := r_59 < x2) rfl rfl (zcmp_j (cnd := .lt) hr_60.1 hr_60.2) (fun hp => ?_) (fun hp => ?_)
      · replace h := h.1 hp
        show Zr sc 46 64 [zp a0, zj x1, zj x2, zj x3, zj x4, zj (x1 + x4)] [] w_57 ov w' c s
        refine rl_inc rfl rfl rfl rfl ?_
        show Zr sc 46 67 [zp a0, zj x1, zj x2, zj x3, zj (x4 + 1), zj (x1 + x4)] [] w_57 ov w' c s
        refine Zr_st (q := (11, [zp a0, zj x1, zj x2, zj x3, zj (x4 + 1), zj (x1 + x4)], [])) rfl rfl rfl ?_
        show Zr sc 46 11 [zp a0, zj x1, zj x2, zj x3, zj (x4 + 1), zj (x1 + x4)] [] w_57 ov w' c s
        exact h
      · replace h := h.2 hp
        show Zr sc 46 53 [zp a0, zj x1, zj x2, zj x3, zj x4, zj (x1 + x4)] [] w_57 ov w' c s
        refine Zr_st (q := (54, [zp a0, zj x1, zj x2, zj x3, zj x4, zj (x1 + x4)], [zp a0])) rfl rfl rfl ?_
        show Zr sc 46 54 [zp a0, zj x1, zj x2, zj x3, zj x4, zj (x1 + x4)] [zp a0] w_57 ov w' c s
        refine Zr_st (q := (56, [zp a0, zj x1, zj x2, zj x3, zj x4, zj (x1 + x4)], [zj x4, zp a0])) rfl rfl rfl ?_
        show Zr sc 46 56 [zp a0, zj x1, zj x2, zj x3, zj x4, zj (x1 + x4)] [zj x4, zp a0] w_57 ov w' c s
        refine rl_ic rfl ?_
        show Zr sc 46 57 [zp a0, zj x1, zj x2, zj x3, zj x4, zj (x1 + x4)] [zj 1, zj x4, zp a0] w_57 ov w' c s
        refine rl_add rfl ?_
        show Zr sc 46 58 [zp a0, zj x1, zj x2, zj x3, zj x4, zj (x1 + x4)] [zj (x4 + 1), zp a0] w_57 ov w' c s
        obtain ⟨f0_62, f1_63, f2_64, f3_65, f4_66, f5_67, f6_68, f7_69, f8_70, f9_71, f10_72, f11_73, f12_74, hw_61, h⟩ := h
        refine rl_pf rfl hw_61 rfl rfl rfl ?_
        show Zr sc 46 61 [zp a0, zj x1, zj x2, zj x3, zj x4, zj (x1 + x4)] [] (w_57.set a0 (zob 2 [zp f0_62, zp f1_63, zj f2_64, zj f3_65, zj f4_66, zj f5_67, zj (x4 + 1), zp f7_69, zp f8_70, zj f9_71, zj f10_72, zj f11_73, zj f12_74])) ov w' c s
        refine Zr_st (q := (63, [zp a0, zj x1, zj x2, zj x3, zj x4, zj (x1 + x4)], [zj (x1 + x4)])) rfl rfl rfl ?_
        show Zr sc 46 63 [zp a0, zj x1, zj x2, zj x3, zj x4, zj (x1 + x4)] [zj (x1 + x4)] (w_57.set a0 (zob 2 [zp f0_62, zp f1_63, zj f2_64, zj f3_65, zj f4_66, zj f5_67, zj (x4 + 1), zp f7_69, zp f8_70, zj f9_71, zj f10_72, zj f11_73, zj f12_74])) ov w' c s
        obtain ⟨h1, h2, h3, h4⟩ := h
        subst h1; subst h2; subst h3; subst h4
        exact Zr_ret (ins := .ireturn) rfl rfl

-- HeapwrightLab$Holes.firstReaching(I)I
set_option maxRecDepth 100000 in
theorem V47_0 {sc : List Value} {w w' : List zE} {ov : Option Value} {c s : Nat} {a0 : Nat} {x1 : Int} (h : Zr sc 47 2 [zp a0, zj x1, zj 0] [] w ov w' c s) : Zr sc 47 0 [zp a0, zj x1, zmk] [] w ov w' c s := by
  refine rl_ic rfl ?_
  show Zr sc 47 1 [zp a0, zj x1, zmk] [zj 0] w ov w' c s
  refine Zr_st (q := (2, [zp a0, zj x1, zj 0], [])) rfl rfl rfl ?_
  show Zr sc 47 2 [zp a0, zj x1, zj 0] [] w ov w' c s
  exact h
set_option maxRecDepth 100000 in
theorem V47_2 {sc : List Value} {w w' : List zE} {ov : Option Value} {c s : Nat} {a0 : Nat} {x1 : Int} {x2 : Int} (h : (∃ f0_2 : Nat, ∃ f1_3 : Nat, ∃ f2_4 : Int, w[a0]? = some (zob 3 [zp f0_2, zp f1_3, zj f2_4]) ∧ ((zrg x2 ∧ zrg f2_4) ∧ ((f2_4 ≤ x2 → (ov = some (zj (-1)) ∧ w' = w ∧ c = 0 ∧ s = 0)) ∧ (¬ (f2_4 ≤ x2) → (∃ l_8 : List Int, w[f0_2]? = some (za l_8) ∧ ((0 ≤ x2 ∧ x2 < (l_8.length : Int) ∧ x2 ≤ 2147483647) ∧ (∃ l_11 : List Int, w[f1_3]? = some (za l_11) ∧ ((0 ≤ x2 ∧ x2 < (l_11.length : Int) ∧ x2 ≤ 2147483647) ∧ ((zrg ((zgi l_8 x2) + (zgi l_11 x2)) ∧ zrg x1) ∧ ((((zgi l_8 x2) + (zgi l_11 x2)) ≤ x1 → Zr sc 47 2 [zp a0, zj x1, zj (x2 + 1)] [] w ov w' c s) ∧ (¬ (((zgi l_8 x2) + (zgi l_11 x2)) ≤ x1) → (ov = some (zj x2) ∧ w' = w ∧ c = 0 ∧ s = 0))))))))))))) : Zr sc 47 2 [zp a0, zj x1, zj x2] [] w ov w' c s := by
  refine Zr_st (q := (3, [zp a0, zj x1, zj x2], [zj x2])) rfl rfl rfl ?_
  show Zr sc 47 3 [zp a0, zj x1, zj x2] [zj x2] w ov w' c s
  refine Zr_st (q := (4, [zp a0, zj x1, zj x2], [zp a0, zj x2])) rfl rfl rfl ?_
  show Zr sc 47 4 [zp a0, zj x1, zj x2] [zp a0, zj x2] w ov w' c s
  obtain ⟨f0_2, f1_3, f2_4, hw_1, h⟩ := h
  refine rl_gf rfl hw_1 rfl rfl ?_
  show Zr sc 47 7 [zp a0, zj x1, zj x2] [zj f2_4, zj x2] w ov w' c s
  obtain ⟨hr_5, h⟩ := h
  refine Zr_br (p := f2_4 ≤ x2) rfl rfl (zcmp_j (cnd := .ge) hr_5.1 hr_5.2) (fun hp => ?_) (fun hp => ?_)
  · replace h := h.1 hp
    show Zr sc 47 35 [zp a0, zj x1, zj x2] [] w ov w' c s
    refine rl_ic rfl ?_
    show Zr sc 47 36 [zp a0, zj x1, zj x2] [zj (-1)] w ov w' c s
    obtain ⟨h1, h2, h3, h4⟩ := h
    subst h1; subst h2; subst h3; subst h4
    exact Zr_ret (ins := .ireturn) rfl rfl
  · replace h := h.2 hp
    show Zr sc 47 10 [zp a0, zj x1, zj x2] [] w ov w' c s
    refine Zr_st (q := (11, [zp a0, zj x1, zj x2], [zp a0])) rfl rfl rfl ?_
    show Zr sc 47 11 [zp a0, zj x1, zj x2] [zp a0] w ov w' c s
    refine rl_gf rfl hw_1 rfl rfl ?_
    show Zr sc 47 14 [zp a0, zj x1, zj x2] [zp f0_2] w ov w' c s
    refine Zr_st (q := (15, [zp a0, zj x1, zj x2], [zj x2, zp f0_2])) rfl rfl rfl ?_
    show Zr sc 47 15 [zp a0, zj x1, zj x2] [zj x2, zp f0_2] w ov w' c s
    obtain ⟨l_8, hw_7, h⟩ := h
    obtain ⟨hi_6, h⟩ := h
    refine rl_ia rfl hw_7 hi_6.1 hi_6.2.1 hi_6.2.2 ?_
    show Zr sc 47 16 [zp a0, zj x1, zj x2] [zj (zgi l_8 x2)] w ov w' c s
    refine Zr_st (q := (17, [zp a0, zj x1, zj x2], [zp a0, zj (zgi l_8 x2)])) rfl rfl rfl ?_
    show Zr sc 47 17 [zp a0, zj x1, zj x2] [zp a0, zj (zgi l_8 x2)] w ov w' c s
    refine rl_gf rfl hw_1 rfl rfl ?_
    show Zr sc 47 20 [zp a0, zj x1, zj x2] [zp f1_3, zj (zgi l_8 x2)] w ov w' c s
    refine Zr_st (q := (21, [zp a0, zj x1, zj x2], [zj x2, zp f1_3, zj (zgi l_8 x2)])) rfl rfl rfl ?_
    show Zr sc 47 21 [zp a0, zj x1, zj x2] [zj x2, zp f1_3, zj (zgi l_8 x2)] w ov w' c s
    obtain ⟨l_11, hw_10, h⟩ := h
    obtain ⟨hi_9, h⟩ := h
    refine rl_ia rfl hw_10 hi_9.1 hi_9.2.1 hi_9.2.2 ?_
    show Zr sc 47 22 [zp a0, zj x1, zj x2] [zj (zgi l_11 x2), zj (zgi l_8 x2)] w ov w' c s
    refine rl_add rfl ?_
    show Zr sc 47 23 [zp a0, zj x1, zj x2] [zj ((zgi l_8 x2) + (zgi l_11 x2))] w ov w' c s
    refine Zr_st (q := (24, [zp a0, zj x1, zj x2], [zj x1, zj ((zgi l_8 x2) + (zgi l_11 x2))])) rfl rfl rfl ?_
    show Zr sc 47 24 [zp a0, zj x1, zj x2] [zj x1, zj ((zgi l_8 x2) + (zgi l_11 x2))] w ov w' c s
    obtain ⟨hr_12, h⟩ := h
    refine Zr_br (p := ((zgi l_8 x2) + (zgi l_11 x2)) ≤ x1) rfl rfl (zcmp_j (cnd := .le) hr_12.1 hr_12.2) (fun hp => ?_) (fun hp => ?_)
    · replace h := h.1 hp
      show Zr sc 47 29 [zp a0, zj x1, zj x2] [] w ov w' c s
      refine rl_inc rfl rfl rfl rfl ?_
      show Zr sc 47 32 [zp a0, zj x1, zj (x2 + 1)] [] w ov w' c s
      refine Zr_st (q := (2, [zp a0, zj x1, zj (x2 + 1)], [])) rfl rfl rfl ?_
      show Zr sc 47 2 [zp a0, zj x1, zj (x2 + 1)] [] w ov w' c s
      exact h
    · replace h := h.2 hp
      show Zr sc 47 27 [zp a0, zj x1, zj x2] [] w ov w' c s
      refine Zr_st (q := (28, [zp a0, zj x1, zj x2], [zj x2])) rfl rfl rfl ?_
      show Zr sc 47 28 [zp a0, zj x1, zj x2] [zj x2] w ov w' c s
      obtain ⟨h1, h2, h3, h4⟩ := h
      subst h1; subst h2; subst h3; subst h4
      exact Zr_ret (ins := .ireturn) rfl rfl

-- HeapwrightLab$Holes.widestWith(I)I
set_option maxRecDepth 100000 in
theorem V48_0 {sc : List Value} {w w' : List zE} {ov : Option Value} {c s : Nat} {a0 : Nat} {x1 : Int} (h : Zr sc 48 4 [zp a0, zj x1, zj (-1), zj 0] [] w ov w' c s) : Zr sc 48 0 [zp a0, zj x1, zmk, zmk] [] w ov w' c s := by
  refine rl_ic rfl ?_
  show Zr sc 48 1 [zp a0, zj x1, zmk, zmk] [zj (-1)] w ov w' c s
  refine Zr_st (q := (2, [zp a0, zj x1, zj (-1), zmk], [])) rfl rfl rfl ?_
  show Zr sc 48 2 [zp a0, zj x1, zj (-1), zmk] [] w ov w' c s
  refine rl_ic rfl ?_
  show Zr sc 48 3 [zp a0, zj x1, zj (-1), zmk] [zj 0] w ov w' c s
  refine Zr_st (q := (4, [zp a0, zj x1, zj (-1), zj 0], [])) rfl rfl rfl ?_
  show Zr sc 48 4 [zp a0, zj x1, zj (-1), zj 0] [] w ov w' c s
  exact h
set_option maxRecDepth 100000 in
theorem V48_4 {sc : List Value} {w w' : List zE} {ov : Option Value} {c s : Nat} {a0 : Nat} {x1 : Int} {x2 : Int} {x3 : Int} (h : (∃ f0_2 : Nat, ∃ f1_3 : Nat, ∃ f2_4 : Int, w[a0]? = some (zob 3 [zp f0_2, zp f1_3, zj f2_4]) ∧ ((zrg x3 ∧ zrg f2_4) ∧ ((f2_4 ≤ x3 → (ov = some (zj x2) ∧ w' = w ∧ c = 0 ∧ s = 0)) ∧ (¬ (f2_4 ≤ x3) → (∃ l_8 : List Int, w[f1_3]? = some (za l_8) ∧ ((0 ≤ x3 ∧ x3 < (l_8.length : Int) ∧ x3 ≤ 2147483647) ∧ ((zrg (zgi l_8 x3) ∧ zrg x1) ∧ (((zgi l_8 x3) < x1 → Zr sc 48 4 [zp a0, zj x1, zj x2, zj (x3 + 1)] [] w ov w' c s) ∧ (¬ ((zgi l_8 x3) < x1) → ((zrg x2) ∧ ((x2 < 0 → Zr sc 48 4 [zp a0, zj x1, zj x3, zj (x3 + 1)] [] w ov w' c s) ∧ (¬ (x2 < 0) → ((0 ≤ x3 ∧ x3 < (l_8.length : Int) ∧ x3 ≤ 2147483647) ∧ ((0 ≤ x2 ∧ x2 < (l_8.length : Int) ∧ x2 ≤ 2147483647) ∧ ((zrg (zgi l_8 x3) ∧ zrg (zgi l_8 x2)) ∧ (((zgi l_8 x3) ≤ (zgi l_8 x2) → Zr sc 48 4 [zp a0, zj x1, zj x2, zj (x3 + 1)] [] w ov w' c s) ∧ (¬ ((zgi l_8 x3) ≤ (zgi l_8 x2)) → Zr sc 48 4 [zp a0, zj x1, zj x3, zj (x3 + 1)] [] w ov w' c s)))))))))))))))))) : Zr sc 48 4 [zp a0, zj x1, zj x2, zj x3] [] w ov w' c s := by
  refine Zr_st (q := (5, [zp a0, zj x1, zj x2, zj x3], [zj x3])) rfl rfl rfl ?_
  show Zr sc 48 5 [zp a0, zj x1, zj x2, zj x3] [zj x3] w ov w' c s
  refine Zr_st (q := (6, [zp a0, zj x1, zj x2, zj x3], [zp a0, zj x3])) rfl rfl rfl ?_
  show Zr sc 48 6 [zp a0, zj x1, zj x2, zj x3] [zp a0, zj x3] w ov w' c s
  obtain ⟨f0_2, f1_3, f2_4, hw_1, h⟩ := h
  refine rl_gf rfl hw_1 rfl rfl ?_
  show Zr sc 48 9 [zp a0, zj x1, zj x2, zj x3] [zj f2_4, zj x3] w ov w' c s
  obtain ⟨hr_5, h⟩ := h
  refine Zr_br (p := f2_4 ≤ x3) rfl rfl (zcmp_j (cnd := .ge) hr_5.1 hr_5.2) (fun hp => ?_) (fun hp => ?_)
  · replace h := h.1 hp
    show Zr sc 48 49 [zp a0, zj x1, zj x2, zj x3] [] w ov w' c s
    refine Zr_st (q := (50, [zp a0, zj x1, zj x2, zj x3], [zj x2])) rfl rfl rfl ?_
    show Zr sc 48 50 [zp a0, zj x1, zj x2, zj x3] [zj x2] w ov w' c s
    obtain ⟨h1, h2, h3, h4⟩ := h
    subst h1; subst h2; subst h3; subst h4
    exact Zr_ret (ins := .ireturn) rfl rfl
  · replace h := h.2 hp
    show Zr sc 48 12 [zp a0, zj x1, zj x2, zj x3] [] w ov w' c s
    refine Zr_st (q := (13, [zp a0, zj x1, zj x2, zj x3], [zp a0])) rfl rfl rfl ?_
    show Zr sc 48 13 [zp a0, zj x1, zj x2, zj x3] [zp a0] w ov w' c s
    refine rl_gf rfl hw_1 rfl rfl ?_
    show Zr sc 48 16 [zp a0, zj x1, zj x2, zj x3] [zp f1_3] w ov w' c s
    refine Zr_st (q := (17, [zp a0, zj x1, zj x2, zj x3], [zj x3, zp f1_3])) rfl rfl rfl ?_
    show Zr sc 48 17 [zp a0, zj x1, zj x2, zj x3] [zj x3, zp f1_3] w ov w' c s
    obtain ⟨l_8, hw_7, h⟩ := h
    obtain ⟨hi_6, h⟩ := h
    refine rl_ia rfl hw_7 hi_6.1 hi_6.2.1 hi_6.2.2 ?_
    show Zr sc 48 18 [zp a0, zj x1, zj x2, zj x3] [zj (zgi l_8 x3)] w ov w' c s
    refine Zr_st (q := (19, [zp a0, zj x1, zj x2, zj x3], [zj x1, zj (zgi l_8 x3)])) rfl rfl rfl ?_
    show Zr sc 48 19 [zp a0, zj x1, zj x2, zj x3] [zj x1, zj (zgi l_8 x3)] w ov w' c s
    obtain ⟨hr_9, h⟩ := h
    refine Zr_br (p := (zgi l_8 x3) < x1) rfl rfl (zcmp_j (cnd := .lt) hr_9.1 hr_9.2) (fun hp => ?_) (fun hp => ?_)
    · replace h := h.1 hp
      show Zr sc 48 43 [zp a0, zj x1, zj x2, zj x3] [] w ov w' c s
      refine rl_inc rfl rfl rfl rfl ?_
      show Zr sc 48 46 [zp a0, zj x1, zj x2, zj (x3 + 1)] [] w ov w' c s
      refine Zr_st (q := (4, [zp a0, zj x1, zj x2, zj (x3 + 1)], [])) rfl rfl rfl ?_
      show Zr sc 48 4 [zp a0, zj x1, zj x2, zj (x3 + 1)] [] w ov w' c s
      exact h
    · replace h := h.2 hp
      show Zr sc 48 22 [zp a0, zj x1, zj x2, zj x3] [] w ov w' c s
      refine Zr_st (q := (23, [zp a0, zj x1, zj x2, zj x3], [zj x2])) rfl rfl rfl ?_
      show Zr sc 48 23 [zp a0, zj x1, zj x2, zj x3] [zj x2] w ov w' c s
      obtain ⟨hr_10, h⟩ := h
      refine Zr_b0 (p := x2 < 0) rfl rfl (zcmp_0 (cnd := .lt) hr_10) (fun hp => ?_) (fun hp => ?_)
      · replace h := h.1 hp
        show Zr sc 48 41 [zp a0, zj x1, zj x2, zj x3] [] w ov w' c s
        refine Zr_st (q := (42, [zp a0, zj x1, zj x2, zj x3], [zj x3])) rfl rfl rfl ?_
        show Zr sc 48 42 [zp a0, zj x1, zj x2, zj x3] [zj x3] w ov w' c s
        refine Zr_st (q := (43, [zp a0, zj x1, zj x3, zj x3], [])) rfl rfl rfl ?_
        show Zr sc 48 43 [zp a0, zj x1, zj x3, zj x3] [] w ov w' c s
        refine rl_inc rfl rfl rfl rfl ?_
        show Zr sc 48 46 [zp a0, zj x1, zj x3, zj (x3 + 1)] [] w ov w' c s
        refine Zr_st (q := (4, [zp a0, zj x1, zj x3, zj (x3 + 1)], [])) rfl rfl rfl ?_
        show Zr sc 48 4 [zp a0, zj x1, zj x3, zj (x3 + 1)] [] w ov w' c s
        exact h
      · replace h := h.2 hp
        show Zr sc 48 26 [zp a0, zj x1, zj x2, zj x3] [] w ov w' c s
        refine Zr_st (q := (27, [zp a0, zj x1, zj x2, zj x3], [zp a0])) rfl rfl rfl ?_
        show Zr sc 48 27 [zp a0, zj x1, zj x2, zj x3] [zp a0] w ov w' c s
        refine rl_gf rfl hw_1 rfl rfl ?_
        show Zr sc 48 30 [zp a0, zj x1, zj x2, zj x3] [zp f1_3] w ov w' c s
        refine Zr_st (q := (31, [zp a0, zj x1, zj x2, zj x3], [zj x3, zp f1_3])) rfl rfl rfl ?_
        show Zr sc 48 31 [zp a0, zj x1, zj x2, zj x3] [zj x3, zp f1_3] w ov w' c s
        obtain ⟨hi_11, h⟩ := h
        refine rl_ia rfl hw_7 hi_11.1 hi_11.2.1 hi_11.2.2 ?_
        show Zr sc 48 32 [zp a0, zj x1, zj x2, zj x3] [zj (zgi l_8 x3)] w ov w' c s
        refine Zr_st (q := (33, [zp a0, zj x1, zj x2, zj x3], [zp a0, zj (zgi l_8 x3)])) rfl rfl rfl ?_
        show Zr sc 48 33 [zp a0, zj x1, zj x2, zj x3] [zp a0, zj (zgi l_8 x3)] w ov w' c s
        refine rl_gf rfl hw_1 rfl rfl ?_
        show Zr sc 48 36 [zp a0, zj x1, zj x2, zj x3] [zp f1_3, zj (zgi l_8 x3)] w ov w' c s
        refine Zr_st (q := (37, [zp a0, zj x1, zj x2, zj x3], [zj x2, zp f1_3, zj (zgi l_8 x3)])) rfl rfl rfl ?_
        show Zr sc 48 37 [zp a0, zj x1, zj x2, zj x3] [zj x2, zp f1_3, zj (zgi l_8 x3)] w ov w' c s
        obtain ⟨hi_12, h⟩ := h
        refine rl_ia rfl hw_7 hi_12.1 hi_12.2.1 hi_12.2.2 ?_
        show Zr sc 48 38 [zp a0, zj x1, zj x2, zj x3] [zj (zgi l_8 x2), zj (zgi l_8 x3)] w ov w' c s
        obtain ⟨hr_13, h⟩ := h
        refine Zr_br (p := (zgi l_8 x3) ≤ (zgi l_8 x2)) rfl rfl (zcmp_j (cnd := .le) hr_13.1 hr_13.2) (fun hp => ?_) (fun hp => ?_)
        · replace h := h.1 hp
          show Zr sc 48 43 [zp a0, zj x1, zj x2, zj x3] [] w ov w' c s
          refine rl_inc rfl rfl rfl rfl ?_
          show Zr sc 48 46 [zp a0, zj x1, zj x2, zj (x3 + 1)] [] w ov w' c s
          refine Zr_st (q := (4, [zp a0, zj x1, zj x2, zj (x3 + 1)], [])) rfl rfl rfl ?_
          show Zr sc 48 4 [zp a0, zj x1, zj x2, zj (x3 + 1)] [] w ov w' c s
          exact h
        · replace h := h.2 hp
          show Zr sc 48 41 [zp a0, zj x1, zj x2, zj x3] [] w ov w' c s
          refine Zr_st (q := (42, [zp a0, zj x1, zj x2, zj x3], [zj x3])) rfl rfl rfl ?_
          show Zr sc 48 42 [zp a0, zj x1, zj x2, zj x3] [zj x3] w ov w' c s
          refine Zr_st (q := (43, [zp a0, zj x1, zj x3, zj x3], [])) rfl rfl rfl ?_
          show Zr sc 48 43 [zp a0, zj x1, zj x3, zj x3] [] w ov w' c s
          refine rl_inc rfl rfl rfl rfl ?_
          show Zr sc 48 46 [zp a0, zj x1, zj x3, zj (x3 + 1)] [] w ov w' c s
          refine Zr_st (q := (4, [zp a0, zj x1, zj x3, zj (x3 + 1)], [])) rfl rfl rfl ?_
          show Zr sc 48 4 [zp a0, zj x1, zj x3, zj (x3 + 1)] [] w ov w' c s
          exact h

-- HeapwrightLab$Slabs.search(I)I
set_option maxRecDepth 100000 in
theorem V49_0 {sc : List Value} {w w' : List zE} {ov : Option Value} {c s : Nat} {a0 : Nat} {x1 : Int} (h : ((zrg x1 ∧ zrg 128) ∧ ((128 ≤ x1 → ((zrg (-1)) ∧ ((zrg x1 ∧ zrg 128) ∧ ((128 < x1 → (∃ f0_5 : Nat, ∃ f1_6 : Nat, ∃ f2_7 : Int, ∃ f3_8 : Int, ∃ f4_9 : Int, ∃ f5_10 : Int, ∃ f6_11 : Int, ∃ f7_12 : Nat, ∃ f8_13 : Nat, ∃ f9_14 : Int, ∃ f10_15 : Int, ∃ f11_16 : Int, ∃ f12_17 : Int, ∃ f13_18 : Nat, w[a0]? = some (zob 4 [zp f0_5, zp f1_6, zj f2_7, zj f3_8, zj f4_9, zj f5_10, zj f6_11, zp f7_12, zp f8_13, zj f9_14, zj f10_15, zj f11_16, zj f12_17, zp f13_18]) ∧ ((zrg x1 ∧ zrg 128) ∧ ((a0 ≠ f1_6) ∧ (∃ f0_22 : Nat, ∃ f1_23 : Nat, ∃ f2_24 : Int, w[f1_6]? = some (zob 3 [zp f0_22, zp f1_23, zj f2_24]) ∧ (∃ r_27 : Int, ∃ w_25 : List zE, Zc sc 52 [zp f1_6, zj (max x1 128)] (w.set a0 (zob 4 [zp f0_5, zp f1_6, zj f2_7, zj f3_8, zj f4_9, zj f5_10, zj 0, zp f7_12, zp f8_13, zj f9_14, zj f10_15, zj f11_16, zj f12_17, zp f13_18])) (some (zj r_27)) w_25 0 0 ∧ (ov = some (zj r_27) ∧ w' = w_25 ∧ c = 0 ∧ s = 0))))))) ∧ (¬ (128 < x1) → (∃ f0_29 : Nat, ∃ f1_30 : Nat, ∃ f2_31 : Int, ∃ f3_32 : Int, ∃ f4_33 : Int, ∃ f5_34 : Int, ∃ f6_35 : Int, ∃ f7_36 : Nat, ∃ f8_37 : Nat, ∃ f9_38 : Int, ∃ f10_39 : Int, ∃ f11_40 : Int, ∃ f12_41 : Int, ∃ f13_42 : Nat, w[a0]? = some (zob 4 [zp f0_29, zp f1_30, zj f2_31, zj f3_32, zj f4_33, zj f5_34, zj f6_35, zp f7_36, zp f8_37, zj f9_38, zj f10_39, zj f11_40, zj f12_41, zp f13_42]) ∧ (∃ r_45 : Int, ∃ w_43 : List zE, Zc sc 51 [zp a0, zj x1, zj 1024] w (some (zj r_45)) w_43 0 0 ∧ (∃ f0_47 : Nat, ∃ f1_48 : Nat, ∃ f2_49 : Int, ∃ f3_50 : Int, ∃ f4_51 : Int, ∃ f5_52 : Int, ∃ f6_53 : Int, ∃ f7_54 : Nat, ∃ f8_55 : Nat, ∃ f9_56 : Int, ∃ f10_57 : Int, ∃ f11_58 : Int, ∃ f12_59 : Int, ∃ f13_60 : Nat, w_43[a0]? = some (zob 4 [zp f0_47, zp f1_48, zj f2_49, zj f3_50, zj f4_51, zj f5_52, zj f6_53, zp f7_54, zp f8_55, zj f9_56, zj f10_57, zj f11_58, zj f12_59, zp f13_60]) ∧ ((zrg x1 ∧ zrg 128) ∧ ((a0 ≠ f1_48) ∧ (∃ f0_64 : Nat, ∃ f1_65 : Nat, ∃ f2_66 : Int, w_43[f1_48]? = some (zob 3 [zp f0_64, zp f1_65, zj f2_66]) ∧ (∃ r_69 : Int, ∃ w_67 : List zE, Zc sc 52 [zp f1_48, zj (max x1 128)] (w_43.set a0 (zob 4 [zp f0_47, zp f1_48, zj f2_49, zj f3_50, zj f4_51, zj f5_52, zj r_45, zp f7_54, zp f8_55, zj f9_56, zj f10_57, zj f11_58, zj f12_59, zp f13_60])) (some (zj r_69)) w_67 0 0 ∧ (ov = some (zj r_69) ∧ w' = w_67 ∧ c = 0 ∧ s = 0))))))))))))) ∧ (¬ (128 ≤ x1) → (∃ f0_71 : Nat, ∃ f1_72 : Nat, ∃ f2_73 : Int, ∃ f3_74 : Int, ∃ f4_75 : Int, ∃ f5_76 : Int, ∃ f6_77 : Int, ∃ f7_78 : Nat, ∃ f8_79 : Nat, ∃ f9_80 : Int, ∃ f10_81 : Int, ∃ f11_82 : Int, ∃ f12_83 : Int, ∃ f13_84 : Nat, w[a0]? = some (zob 4 [zp f0_71, zp f1_72, zj f2_73, zj f3_74, zj f4_75, zj f5_76, zj f6_77, zp f7_78, zp f8_79, zj f9_80, zj f10_81, zj f11_82, zj f12_83, zp f13_84]) ∧ (∃ f0_86 : Nat, ∃ f1_87 : Nat, ∃ f2_88 : Int, w[f1_72]? = some (zob 3 [zp f0_86, zp f1_87, zj f2_88]) ∧ (∃ r_91 : Int, ∃ w_89 : List zE, Zc sc 50 [zp f1_72, zj x1] w (some (zj r_91)) w_89 0 0 ∧ ((zrg r_91) ∧ ((r_91 < 0 → ((zrg x1 ∧ zrg 128) ∧ ((128 < x1 → (∃ f0_95 : Nat, ∃ f1_96 : Nat, ∃ f2_97 : Int, ∃ f3_98 : Int, ∃ f4_99 : Int, ∃ f5_100 : Int, ∃ f6_101 : Int, ∃ f7_102 : Nat, ∃ f8_103 : Nat, ∃ f9_104 : Int, ∃ f10_105 : Int, ∃ f11_106 : Int, ∃ f12_107 : Int, ∃ f13_108 : Nat, w_89[a0]? = some (zob 4 [zp f0_95, zp f1_96, zj f2_97, zj f3_98, zj f4_99, zj f5_100, zj f6_101, zp f7_102, zp f8_103, zj f9_104, zj f10_105, zj f11_106, zj f12_107, zp f13_108]) ∧ ((zrg x1 ∧ zrg 128) ∧ ((a0 ≠ f1_96) ∧ (∃ f0_112 : Nat, ∃ f1_113 : Nat, ∃ f2_114 : Int, w_89[f1_96]? = some (zob 3 [zp f0_112, zp f1_113, zj f2_114]) ∧ (∃ r_117 : Int, ∃ w_115 : List zE, Zc sc 52 [zp f1_96, zj (max x1 128)] (w_89.set a0 (zob 4 [zp f0_95, zp f1_96, zj f2_97, zj f3_98, zj f4_99, zj f5_100, zj 0, zp f7_102, zp f8_103, zj f9_104, zj f10_105, zj f11_106, zj f12_107, zp f13_108])) (some (zj r_117)) w_115 0 0 ∧ (ov = some (zj r_117) ∧ w' = w_115 ∧ c = 0 ∧ s = 0))))))) ∧ (¬ (128 < x1) → (∃ f0_119 : Nat, ∃ f1_120 : Nat, ∃ f2_121 : Int, ∃ f3_122 : Int, ∃ f4_123 : Int, ∃ f5_124 : Int, ∃ f6_125 : Int, ∃ f7_126 : Nat, ∃ f8_127 : Nat, ∃ f9_128 : Int, ∃ f10_129 : Int, ∃ f11_130 : Int, ∃ f12_131 : Int, ∃ f13_132 : Nat, w_89[a0]? = some (zob 4 [zp f0_119, zp f1_120, zj f2_121, zj f3_122, zj f4_123, zj f5_124, zj f6_125, zp f7_126, zp f8_127, zj f9_128, zj f10_129, zj f11_130, zj f12_131, zp f13_132]) ∧ (∃ r_135 : Int, ∃ w_133 : List zE, Zc sc 51 [zp a0, zj x1, zj 1024] w_89 (some (zj r_135)) w_133 0 0 ∧ (∃ f0_137 : Nat, ∃ f1_138 : Nat, ∃ f2_139 : Int, ∃ f3_140 : Int, ∃ f4_141 : Int, ∃ f5_142 : Int, ∃ f6_143 : Int, ∃ f7_144 : Nat, ∃ f8_145 : Nat, ∃ f9_146 : Int, ∃ f10_147 : Int, ∃ f11_148 : Int, ∃ f12_149 : Int, ∃ f13_150 : Nat, w_133[a0]? = some (zob 4 [zp f0_137, zp f1_138, zj f2_139, zj f3_140, zj f4_141, zj f5_142, zj f6_143, zp f7_144, zp f8_145, zj f9_146, zj f10_147, zj f11_148, zj f12_149, zp f13_150]) ∧ ((zrg x1 ∧ zrg 128) ∧ ((a0 ≠ f1_138) ∧ (∃ f0_154 : Nat, ∃ f1_155 : Nat, ∃ f2_156 : Int, w_133[f1_138]? = some (zob 3 [zp f0_154, zp f1_155, zj f2_156]) ∧ (∃ r_159 : Int, ∃ w_157 : List zE, Zc sc 52 [zp f1_138, zj (max x1 128)] (w_133.set a0 (zob 4 [zp f0_137, zp f1_138, zj f2_139, zj f3_140, zj f4_141, zj f5_142, zj r_135, zp f7_144, zp f8_145, zj f9_146, zj f10_147, zj f11_148, zj f12_149, zp f13_150])) (some (zj r_159)) w_157 0 0 ∧ (ov = some (zj r_159) ∧ w' = w_157 ∧ c = 0 ∧ s = 0)))))))))))) ∧ (¬ (r_91 < 0) → (∃ f0_161 : Nat, ∃ f1_162 : Nat, ∃ f2_163 : Int, ∃ f3_164 : Int, ∃ f4_165 : Int, ∃ f5_166 : Int, ∃ f6_167 : Int, ∃ f7_168 : Nat, ∃ f8_169 : Nat, ∃ f9_170 : Int, ∃ f10_171 : Int, ∃ f11_172 : Int, ∃ f12_173 : Int, ∃ f13_174 : Nat, w_89[a0]? = some (zob 4 [zp f0_161, zp f1_162, zj f2_163, zj f3_164, zj f4_165, zj f5_166, zj f6_167, zp f7_168, zp f8_169, zj f9_170, zj f10_171, zj f11_172, zj f12_173, zp f13_174]) ∧ (∃ f0_176 : Nat, ∃ f1_177 : Nat, ∃ f2_178 : Int, w_89[f1_162]? = some (zob 3 [zp f0_176, zp f1_177, zj f2_178]) ∧ (∃ r_181 : Int, ∃ w_179 : List zE, Zc sc 24 [zp f1_162, zj r_91] w_89 (some (zj r_181)) w_179 0 0 ∧ (∃ f0_183 : Nat, ∃ f1_184 : Nat, ∃ f2_185 : Int, ∃ f3_186 : Int, ∃ f4_187 : Int, ∃ f5_188 : Int, ∃ f6_189 : Int, ∃ f7_190 : Nat, ∃ f8_191 : Nat, ∃ f9_192 : Int, ∃ f10_193 : Int, ∃ f11_194 : Int, ∃ f12_195 : Int, ∃ f13_196 : Nat, w_179[a0]? = some (zob 4 [zp f0_183, zp f1_184, zj f2_185, zj f3_186, zj f4_187, zj f5_188, zj f6_189, zp f7_190, zp f8_191, zj f9_192, zj f10_193, zj f11_194, zj f12_195, zp f13_196]) ∧ (∃ r_199 : Int, ∃ w_197 : List zE, Zc sc 51 [zp a0, zj x1, zj r_181] w_179 (some (zj r_199)) w_197 0 0 ∧ (∃ f0_201 : Nat, ∃ f1_202 : Nat, ∃ f2_203 : Int, ∃ f3_204 : Int, ∃ f4_205 : Int, ∃ f5_206 : Int, ∃ f6_207 : Int, ∃ f7_208 : Nat, ∃ f8_209 : Nat, ∃ f9_210 : Int, ∃ f10_211 : Int, ∃ f11_212 : Int, ∃ f12_213 : Int, ∃ f13_214 : Nat, w_197[a0]? = some (zob 4 [zp f0_201, zp f1_202, zj f2_203, zj f3_204, zj f4_205, zj f5_206, zj f6_207, zp f7_208, zp f8_209, zj f9_210, zj f10_211, zj f11_212, zj f12_213, zp f13_214]) ∧ (ov = some (zj r_91) ∧ w' = (w_197.set a0 (zob 4 [zp f0_201, zp f1_202, zj f2_203, zj f3_204, zj f4_205, zj f5_206, zj r_199, zp f7_208, zp f8_209, zj f9_210, zj f10_211, zj f11_212, zj f12_213, zp f13_214])) ∧ c = 0 ∧ s = 0))))))))))))))))) : Zr sc 49 0 [zp a0, zj x1, zmk] [] w ov w' c s := by
  refine Zr_st (q := (1, [zp a0, zj x1, zmk], [zj x1])) rfl rfl rfl ?_
  show Zr sc 49 1 [zp a0, zj x1, zmk] [zj x1] w ov w' c s
  refine rl_si rfl (by decide) ?_
  show Zr sc 49 4 [zp a0, zj x1, zmk] [zj 128, zj x1] w ov w' c s
  obtain ⟨hr_1, h⟩ := h
  refine Zr_br (p := 128 ≤ x1) rfl rfl (zcmp_j (cnd := .ge) hr_1.1 hr_1.2) (fun hp => ?_) (fun hp => ?_)
  · replace h := h.1 hp
    show Zr sc 49 18 [zp a0, zj x1, zmk] [] w ov w' c s
    refine rl_ic rfl ?_
    show Zr sc 49 19 [zp a0, zj x1, zmk] [zj (-1)] w ov w' c s
    refine Zr_st (q := (20, [zp a0, zj x1, zj (-1)], [])) rfl rfl rfl ?_
    show Zr sc 49 20 [zp a0, zj x1, zj (-1)] [] w ov w' c s
    refine Zr_st (q := (21, [zp a0, zj x1, zj (-1)], [zj (-1)])) rfl rfl rfl ?_
    show Zr sc 49 21 [zp a0, zj x1, zj (-1)] [zj (-1)] w ov w' c s
    obtain ⟨hr_2, h⟩ := h
    refine Zr_b0 (p := (-1) < 0) rfl rfl (zcmp_0 (cnd := .lt) hr_2) (fun hp => ?_) (fun hp => absurd (by decide) hp)
    show Zr sc 49 43 [zp a0, zj x1, zj (-1)] [] w ov w' c s
    refine Zr_st (q := (44, [zp a0, zj x1, zj (-1)], [zp a0])) rfl rfl rfl ?_
    show Zr sc 49 44 [zp a0, zj x1, zj (-1)] [zp a0] w ov w' c s
    refine Zr_st (q := (45, [zp a0, zj x1, zj (-1)], [zj x1, zp a0])) rfl rfl rfl ?_
    show Zr sc 49 45 [zp a0, zj x1, zj (-1)] [zj x1, zp a0] w ov w' c s
    refine rl_si rfl (by decide) ?_
    show Zr sc 49 48 [zp a0, zj x1, zj (-1)] [zj 128, zj x1, zp a0] w ov w' c s
    obtain ⟨hr_3, h⟩ := h
    refine Zr_br (p := 128 < x1) rfl rfl (zcmp_j (cnd := .gt) hr_3.1 hr_3.2) (fun hp => ?_) (fun hp => ?_)
    · replace h := h.1 hp
      show Zr sc 49 62 [zp a0, zj x1, zj (-1)] [zp a0] w ov w' c s
      refine rl_ic rfl ?_
      show Zr sc 49 63 [zp a0, zj x1, zj (-1)] [zj 0, zp a0] w ov w' c s
      obtain ⟨f0_5, f1_6, f2_7, f3_8, f4_9, f5_10, f6_11, f7_12, f8_13, f9_14, f10_15, f11_16, f12_17, f13_18, hw_4, h⟩ := h
      refine rl_pf rfl hw_4 rfl rfl rfl ?_
      show Zr sc 49 66 [zp a0, zj x1, zj (-1)] [] (w.set a0 (zob 4 [zp f0_5, zp f1_6, zj f2_7, zj f3_8, zj f4_9, zj f5_10, zj 0, zp f7_12, zp f8_13, zj f9_14, zj f10_15, zj f11_16, zj f12_17, zp f13_18])) ov w' c s
      refine Zr_st (q := (67, [zp a0, zj x1, zj (-1)], [zp a0])) rfl rfl rfl ?_
      show Zr sc 49 67 [zp a0, zj x1, zj (-1)] [zp a0] (w.set a0 (zob 4 [zp f0_5, zp f1_6, zj f2_7, zj f3_8, zj f4_9, zj f5_10, zj 0, zp f7_12, zp f8_13, zj f9_14, zj f10_15, zj f11_16, zj f12_17, zp f13_18])) ov w' c s
      refine rl_gf rfl (zw_s hw_4) rfl rfl ?_
      show Zr sc 49 70 [zp a0, zj x1, zj (-1)] [zp f1_6] (w.set a0 (zob 4 [zp f0_5, zp f1_6, zj f2_7, zj f3_8, zj f4_9, zj f5_10, zj 0, zp f7_12, zp f8_13, zj f9_14, zj f10_15, zj f11_16, zj f12_17, zp f13_18])) ov w' c s
      refine Zr_st (q := (71, [zp a0, zj x1, zj (-1)], [zj x1, zp f1_6])) rfl rfl rfl ?_
      show Zr sc 49 71 [zp a0, zj x1, zj (-1)] [zj x1, zp f1_6] (w.set a0 (zob 4 [zp f0_5, zp f1_6, zj f2_7, zj f3_8, zj f4_9, zj f5_10, zj 0, zp f7_12, zp f8_13, zj f9_14, zj f10_15, zj f11_16, zj f12_17, zp f13_18])) ov w' c s
      refine rl_si rfl (by decide) ?_
      show Zr sc 49 74 [zp a0, zj x1, zj (-1)] [zj 128, zj x1, zp f1_6] (w.set a0 (zob 4 [zp f0_5, zp f1_6, zj f2_7, zj f3_8, zj f4_9, zj f5_10, zj 0, zp f7_12, zp f8_13, zj f9_14, zj f10_15, zj f11_16, zj f12_17, zp f13_18])) ov w' c s
      obtain ⟨hm_19, h⟩ := h
      refine Zr_mx (b := true) (ins := .invokestatic 42) (rest := [zp f1_6]) rfl rfl rfl rfl (zinv_t2 (rest := [zp f1_6]) rfl rfl rfl rfl rfl) rfl (zmx_j hm_19.1 hm_19.2) ?_
      show Zr sc 49 77 [zp a0, zj x1, zj (-1)] [zj (max x1 128), zp f1_6] (w.set a0 (zob 4 [zp f0_5, zp f1_6, zj f2_7, zj f3_8, zj f4_9, zj f5_10, zj 0, zp f7_12, zp f8_13, zj f9_14, zj f10_15, zj f11_16, zj f12_17, zp f13_18])) ov w' c s
      obtain ⟨hn_20, h⟩ := h
      obtain ⟨f0_22, f1_23, f2_24, hw_21, h⟩ := h
      obtain ⟨r_27, w_25, hk_26, h⟩ := h
      refine rn_cal0 (ins := .invokevirtual 47) (rest := []) rfl rfl rfl rfl (zinv_v (fs := _) (zw_o hn_20 hw_21) rfl rfl rfl rfl) rfl rfl hk_26 ?_
      show Zr sc 49 80 [zp a0, zj x1, zj (-1)] [zj r_27] w_25 ov w' c s
      obtain ⟨h1, h2, h3, h4⟩ := h
      subst h1; subst h2; subst h3; subst h4
      exact Zr_ret (ins := .ireturn) rfl rfl
    · replace h := h.2 hp
      show Zr sc 49 51 [zp a0, zj x1, zj (-1)] [zp a0] w ov w' c s
      refine Zr_st (q := (52, [zp a0, zj x1, zj (-1)], [zp a0, zp a0])) rfl rfl rfl ?_
      show Zr sc 49 52 [zp a0, zj x1, zj (-1)] [zp a0, zp a0] w ov w' c s
      refine Zr_st (q := (53, [zp a0, zj x1, zj (-1)], [zj x1, zp a0, zp a0])) rfl rfl rfl ?_
      show Zr sc 49 53 [zp a0, zj x1, zj (-1)] [zj x1, zp a0, zp a0] w ov w' c s
      refine rl_si rfl (by decide) ?_
      show Zr sc 49 56 [zp a0, zj x1, zj (-1)] [zj 1024, zj x1, zp a0, zp a0] w ov w' c s
      obtain ⟨f0_29, f1_30, f2_31, f3_32, f4_33, f5_34, f6_35, f7_36, f8_37, f9_38, f10_39, f11_40, f12_41, f13_42, hw_28, h⟩ := h
      obtain ⟨r_45, w_43, hk_44, h⟩ := h
      refine rn_cal0 (ins := .invokevirtual 36) (rest := [zp a0]) rfl rfl rfl rfl (zinv_v (fs := _) hw_28 rfl rfl rfl rfl) rfl rfl hk_44 ?_
      show Zr sc 49 59 [zp a0, zj x1, zj (-1)] [zj r_45, zp a0] w_43 ov w' c s
      refine Zr_st (q := (63, [zp a0, zj x1, zj (-1)], [zj r_45, zp a0])) rfl rfl rfl ?_
      show Zr sc 49 63 [zp a0, zj x1, zj (-1)] [zj r_45, zp a0] w_43 ov w' c s
      obtain ⟨f0_47, f1_48, f2_49, f3_50, f4_51, f5_52, f6_53, f7_54, f8_55, f9_56, f10_57, f11_58, f12_59, f13_60, hw_46, h⟩ := h
      refine rl_pf rfl hw_46 rfl rfl rfl ?_
      show Zr sc 49 66 [zp a0, zj x1, zj (-1)] [] (w_43.set a0 (zob 4 [zp f0_47, zp f1_48, zj f2_49, zj f3_50, zj f4_51, zj f5_52, zj r_45, zp f7_54, zp f8_55, zj f9_56, zj f10_57, zj f11_58, zj f12_59, zp f13_60])) ov w' c s
      refine Zr_st (q := (67, [zp a0, zj x1, zj (-1)], [zp a0])) rfl rfl rfl ?_
      show Zr sc 49 67 [zp a0, zj x1, zj (-1)] [zp a0] (w_43.set a0 (zob 4 [zp f0_47, zp f1_48, zj f2_49, zj f3_50, zj f4_51, zj f5_52, zj r_45, zp f7_54, zp f8_55, zj f9_56, zj f10_57, zj f11_58, zj f12_59, zp f13_60])) ov w' c s
      refine rl_gf rfl (zw_s hw_46) rfl rfl ?_
      show Zr sc 49 70 [zp a0, zj x1, zj (-1)] [zp f1_48] (w_43.set a0 (zob 4 [zp f0_47, zp f1_48, zj f2_49, zj f3_50, zj f4_51, zj f5_52, zj r_45, zp f7_54, zp f8_55, zj f9_56, zj f10_57, zj f11_58, zj f12_59, zp f13_60])) ov w' c s
      refine Zr_st (q := (71, [zp a0, zj x1, zj (-1)], [zj x1, zp f1_48])) rfl rfl rfl ?_
      show Zr sc 49 71 [zp a0, zj x1, zj (-1)] [zj x1, zp f1_48] (w_43.set a0 (zob 4 [zp f0_47, zp f1_48, zj f2_49, zj f3_50, zj f4_51, zj f5_52, zj r_45, zp f7_54, zp f8_55, zj f9_56, zj f10_57, zj f11_58, zj f12_59, zp f13_60])) ov w' c s
      refine rl_si rfl (by decide) ?_
      show Zr sc 49 74 [zp a0, zj x1, zj (-1)] [zj 128, zj x1, zp f1_48] (w_43.set a0 (zob 4 [zp f0_47, zp f1_48, zj f2_49, zj f3_50, zj f4_51, zj f5_52, zj r_45, zp f7_54, zp f8_55, zj f9_56, zj f10_57, zj f11_58, zj f12_59, zp f13_60])) ov w' c s
      obtain ⟨hm_61, h⟩ := h
      refine Zr_mx (b := true) (ins := .invokestatic 42) (rest := [zp f1_48]) rfl rfl rfl rfl (zinv_t2 (rest := [zp f1_48]) rfl rfl rfl rfl rfl) rfl (zmx_j hm_61.1 hm_61.2) ?_
      show Zr sc 49 77 [zp a0, zj x1, zj (-1)] [zj (max x1 128), zp f1_48] (w_43.set a0 (zob 4 [zp f0_47, zp f1_48, zj f2_49, zj f3_50, zj f4_51, zj f5_52, zj r_45, zp f7_54, zp f8_55, zj f9_56, zj f10_57, zj f11_58, zj f12_59, zp f13_60])) ov w' c s
      obtain ⟨hn_62, h⟩ := h
      obtain ⟨f0_64, f1_65, f2_66, hw_63, h⟩ := h
      obtain ⟨r_69, w_67, hk_68, h⟩ := h
      refine rn_cal0 (ins := .invokevirtual 47) (rest := []) rfl rfl rfl rfl (zinv_v (fs := _) (zw_o hn_62 hw_63) rfl rfl rfl rfl) rfl rfl hk_68 ?_
      show Zr sc 49 80 [zp a0, zj x1, zj (-1)] [zj r_69] w_67 ov w' c s
      obtain ⟨h1, h2, h3, h4⟩ := h
      subst h1; subst h2; subst h3; subst h4
      exact Zr_ret (ins := .ireturn) rfl rfl
  · replace h := h.2 hp
    show Zr sc 49 7 [zp a0, zj x1, zmk] [] w ov w' c s
    refine Zr_st (q := (8, [zp a0, zj x1, zmk], [zp a0])) rfl rfl rfl ?_
    show Zr sc 49 8 [zp a0, zj x1, zmk] [zp a0] w ov w' c s
    obtain ⟨f0_71, f1_72, f2_73, f3_74, f4_75, f5_76, f6_77, f7_78, f8_79, f9_80, f10_81, f11_82, f12_83, f13_84, hw_70, h⟩ := h
    refine rl_gf rfl hw_70 rfl rfl ?_
    show Zr sc 49 11 [zp a0, zj x1, zmk] [zp f1_72] w ov w' c s
    refine Zr_st (q := (12, [zp a0, zj x1, zmk], [zj x1, zp f1_72])) rfl rfl rfl ?_
    show Zr sc 49 12 [zp a0, zj x1, zmk] [zj x1, zp f1_72] w ov w' c s
    obtain ⟨f0_86, f1_87, f2_88, hw_85, h⟩ := h
    obtain ⟨r_91, w_89, hk_90, h⟩ := h
    refine rn_cal0 (ins := .invokevirtual 27) (rest := []) rfl rfl rfl rfl (zinv_v (fs := _) hw_85 rfl rfl rfl rfl) rfl rfl hk_90 ?_
    show Zr sc 49 15 [zp a0, zj x1, zmk] [zj r_91] w_89 ov w' c s
    refine Zr_st (q := (19, [zp a0, zj x1, zmk], [zj r_91])) rfl rfl rfl ?_
    show Zr sc 49 19 [zp a0, zj x1, zmk] [zj r_91] w_89 ov w' c s
    refine Zr_st (q := (20, [zp a0, zj x1, zj r_91], [])) rfl rfl rfl ?_
    show Zr sc 49 20 [zp a0, zj x1, zj r_91] [] w_89 ov w' c s
    refine Zr_st (q := (21, [zp a0, zj x1, zj r_91], [zj r_91])) rfl rfl rfl ?_
    show Zr sc 49 21 [zp a0, zj x1, zj r_91] [zj r_91] w_89 ov w' c s
    obtain ⟨hr_92, h⟩ := h
    refine Zr_b0 (p := r_91 < 0) rfl rfl (zcmp_0 (cnd := .lt) hr_92) (fun hp => ?_) (fun hp => ?_)
    · replace h := h.1 hp
      show Zr sc 49 43 [zp a0, zj x1, zj r_91] [] w_89 ov w' c s
      refine Zr_st (q := (44, [zp a0, zj x1, zj r_91], [zp a0])) rfl rfl rfl ?_
      show Zr sc 49 44 [zp a0, zj x1, zj r_91] [zp a0] w_89 ov w' c s
      refine Zr_st (q := (45, [zp a0, zj x1, zj r_91], [zj x1, zp a0])) rfl rfl rfl ?_
      show Zr sc 49 45 [zp a0, zj x1, zj r_91] [zj x1, zp a0] w_89 ov w' c s
      refine rl_si rfl (by decide) ?_
      show Zr sc 49 48 [zp a0, zj x1, zj r_91] [zj 128, zj x1, zp a0] w_89 ov w' c s
      obtain ⟨hr_93, h⟩ := h
      refine Zr_br (p := 128 < x1) rfl rfl (zcmp_j (cnd := .gt) hr_93.1 hr_93.2) (fun hp => ?_) (fun hp => ?_)
      · replace h := h.1 hp
        show Zr sc 49 62 [zp a0, zj x1, zj r_91] [zp a0] w_89 ov w' c s
        refine rl_ic rfl ?_
        show Zr sc 49 63 [zp a0, zj x1, zj r_91] [zj 0, zp a0] w_89 ov w' c s
        obtain ⟨f0_95, f1_96, f2_97, f3_98, f4_99, f5_100, f6_101, f7_102, f8_103, f9_104, f10_105, f11_106, f12_107, f13_108, hw_94, h⟩ := h
        refine rl_pf rfl hw_94 rfl rfl rfl ?_
        show Zr sc 49 66 [zp a0, zj x1, zj r_91] [] (w_89.set a0 (zob 4 [zp f0_95, zp f1_96, zj f2_97, zj f3_98, zj f4_99, zj f5_100, zj 0, zp f7_102, zp f8_103, zj f9_104, zj f10_105, zj f11_106, zj f12_107, zp f13_108])) ov w' c s
        refine Zr_st (q := (67, [zp a0, zj x1, zj r_91], [zp a0])) rfl rfl rfl ?_
        show Zr sc 49 67 [zp a0, zj x1, zj r_91] [zp a0] (w_89.set a0 (zob 4 [zp f0_95, zp f1_96, zj f2_97, zj f3_98, zj f4_99, zj f5_100, zj 0, zp f7_102, zp f8_103, zj f9_104, zj f10_105, zj f11_106, zj f12_107, zp f13_108])) ov w' c s
        refine rl_gf rfl (zw_s hw_94) rfl rfl ?_
        show Zr sc 49 70 [zp a0, zj x1, zj r_91] [zp f1_96] (w_89.set a0 (zob 4 [zp f0_95, zp f1_96, zj f2_97, zj f3_98, zj f4_99, zj f5_100, zj 0, zp f7_102, zp f8_103, zj f9_104, zj f10_105, zj f11_106, zj f12_107, zp f13_108])) ov w' c s
        refine Zr_st (q := (71, [zp a0, zj x1, zj r_91], [zj x1, zp f1_96])) rfl rfl rfl ?_
        show Zr sc 49 71 [zp a0, zj x1, zj r_91] [zj x1, zp f1_96] (w_89.set a0 (zob 4 [zp f0_95, zp f1_96, zj f2_97, zj f3_98, zj f4_99, zj f5_100, zj 0, zp f7_102, zp f8_103, zj f9_104, zj f10_105, zj f11_106, zj f12_107, zp f13_108])) ov w' c s
        refine rl_si rfl (by decide) ?_
        show Zr sc 49 74 [zp a0, zj x1, zj r_91] [zj 128, zj x1, zp f1_96] (w_89.set a0 (zob 4 [zp f0_95, zp f1_96, zj f2_97, zj f3_98, zj f4_99, zj f5_100, zj 0, zp f7_102, zp f8_103, zj f9_104, zj f10_105, zj f11_106, zj f12_107, zp f13_108])) ov w' c s
        obtain ⟨hm_109, h⟩ := h
        refine Zr_mx (b := true) (ins := .invokestatic 42) (rest := [zp f1_96]) rfl rfl rfl rfl (zinv_t2 (rest := [zp f1_96]) rfl rfl rfl rfl rfl) rfl (zmx_j hm_109.1 hm_109.2) ?_
        show Zr sc 49 77 [zp a0, zj x1, zj r_91] [zj (max x1 128), zp f1_96] (w_89.set a0 (zob 4 [zp f0_95, zp f1_96, zj f2_97, zj f3_98, zj f4_99, zj f5_100, zj 0, zp f7_102, zp f8_103, zj f9_104, zj f10_105, zj f11_106, zj f12_107, zp f13_108])) ov w' c s
        obtain ⟨hn_110, h⟩ := h
        obtain ⟨f0_112, f1_113, f2_114, hw_111, h⟩ := h
        obtain ⟨r_117, w_115, hk_116, h⟩ := h
        refine rn_cal0 (ins := .invokevirtual 47) (rest := []) rfl rfl rfl rfl (zinv_v (fs := _) (zw_o hn_110 hw_111) rfl rfl rfl rfl) rfl rfl hk_116 ?_
        show Zr sc 49 80 [zp a0, zj x1, zj r_91] [zj r_117] w_115 ov w' c s
        obtain ⟨h1, h2, h3, h4⟩ := h
        subst h1; subst h2; subst h3; subst h4
        exact Zr_ret (ins := .ireturn) rfl rfl
      · replace h := h.2 hp
        show Zr sc 49 51 [zp a0, zj x1, zj r_91] [zp a0] w_89 ov w' c s
        refine Zr_st (q := (52, [zp a0, zj x1, zj r_91], [zp a0, zp a0])) rfl rfl rfl ?_
        show Zr sc 49 52 [zp a0, zj x1, zj r_91] [zp a0, zp a0] w_89 ov w' c s
        refine Zr_st (q := (53, [zp a0, zj x1, zj r_91], [zj x1, zp a0, zp a0])) rfl rfl rfl ?_
        show Zr sc 49 53 [zp a0, zj x1, zj r_91] [zj x1, zp a0, zp a0] w_89 ov w' c s
        refine rl_si rfl (by decide) ?_
        show Zr sc 49 56 [zp a0, zj x1, zj r_91] [zj 1024, zj x1, zp a0, zp a0] w_89 ov w' c s
        obtain ⟨f0_119, f1_120, f2_121, f3_122, f4_123, f5_124, f6_125, f7_126, f8_127, f9_128, f10_129, f11_130, f12_131, f13_132, hw_118, h⟩ := h
        obtain ⟨r_135, w_133, hk_134, h⟩ := h
        refine rn_cal0 (ins := .invokevirtual 36) (rest := [zp a0]) rfl rfl rfl rfl (zinv_v (fs := _) hw_118 rfl rfl rfl rfl) rfl rfl hk_134 ?_
        show Zr sc 49 59 [zp a0, zj x1, zj r_91] [zj r_135, zp a0] w_133 ov w' c s
        refine Zr_st (q := (63, [zp a0, zj x1, zj r_91], [zj r_135, zp a0])) rfl rfl rfl ?_
        show Zr sc 49 63 [zp a0, zj x1, zj r_91] [zj r_135, zp a0] w_133 ov w' c s
        obtain ⟨f0_137, f1_138, f2_139, f3_140, f4_141, f5_142, f6_143, f7_144, f8_145, f9_146, f10_147, f11_148, f12_149, f13_150, hw_136, h⟩ := h
        refine rl_pf rfl hw_136 rfl rfl rfl ?_
        show Zr sc 49 66 [zp a0, zj x1, zj r_91] [] (w_133.set a0 (zob 4 [zp f0_137, zp f1_138, zj f2_139, zj f3_140, zj f4_141, zj f5_142, zj r_135, zp f7_144, zp f8_145, zj f9_146, zj f10_147, zj f11_148, zj f12_149, zp f13_150])) ov w' c s
        refine Zr_st (q := (67, [zp a0, zj x1, zj r_91], [zp a0])) rfl rfl rfl ?_
        show Zr sc 49 67 [zp a0, zj x1, zj r_91] [zp a0] (w_133.set a0 (zob 4 [zp f0_137, zp f1_138, zj f2_139, zj f3_140, zj f4_141, zj f5_142, zj r_135, zp f7_144, zp f8_145, zj f9_146, zj f10_147, zj f11_148, zj f12_149, zp f13_150])) ov w' c s
        refine rl_gf rfl (zw_s hw_136) rfl rfl ?_
        show Zr sc 49 70 [zp a0, zj x1, zj r_91] [zp f1_138] (w_133.set a0 (zob 4 [zp f0_137, zp f1_138, zj f2_139, zj f3_140, zj f4_141, zj f5_142, zj r_135, zp f7_144, zp f8_145, zj f9_146, zj f10_147, zj f11_148, zj f12_149, zp f13_150])) ov w' c s
        refine Zr_st (q := (71, [zp a0, zj x1, zj r_91], [zj x1, zp f1_138])) rfl rfl rfl ?_
        show Zr sc 49 71 [zp a0, zj x1, zj r_91] [zj x1, zp f1_138] (w_133.set a0 (zob 4 [zp f0_137, zp f1_138, zj f2_139, zj f3_140, zj f4_141, zj f5_142, zj r_135, zp f7_144, zp f8_145, zj f9_146, zj f10_147, zj f11_148, zj f12_149, zp f13_150])) ov w' c s
        refine rl_si rfl (by decide) ?_
        show Zr sc 49 74 [zp a0, zj x1, zj r_91] [zj 128, zj x1, zp f1_138] (w_133.set a0 (zob 4 [zp f0_137, zp f1_138, zj f2_139, zj f3_140, zj f4_141, zj f5_142, zj r_135, zp f7_144, zp f8_145, zj f9_146, zj f10_147, zj f11_148, zj f12_149, zp f13_150])) ov w' c s
        obtain ⟨hm_151, h⟩ := h
        refine Zr_mx (b := true) (ins := .invokestatic 42) (rest := [zp f1_138]) rfl rfl rfl rfl (zinv_t2 (rest := [zp f1_138]) rfl rfl rfl rfl rfl) rfl (zmx_j hm_151.1 hm_151.2) ?_
        show Zr sc 49 77 [zp a0, zj x1, zj r_91] [zj (max x1 128), zp f1_138] (w_133.set a0 (zob 4 [zp f0_137, zp f1_138, zj f2_139, zj f3_140, zj f4_141, zj f5_142, zj r_135, zp f7_144, zp f8_145, zj f9_146, zj f10_147, zj f11_148, zj f12_149, zp f13_150])) ov w' c s
        obtain ⟨hn_152, h⟩ := h
        obtain ⟨f0_154, f1_155, f2_156, hw_153, h⟩ := h
        obtain ⟨r_159, w_157, hk_158, h⟩ := h
        refine rn_cal0 (ins := .invokevirtual 47) (rest := []) rfl rfl rfl rfl (zinv_v (fs := _) (zw_o hn_152 hw_153) rfl rfl rfl rfl) rfl rfl hk_158 ?_
        show Zr sc 49 80 [zp a0, zj x1, zj r_91] [zj r_159] w_157 ov w' c s
        obtain ⟨h1, h2, h3, h4⟩ := h
        subst h1; subst h2; subst h3; subst h4
        exact Zr_ret (ins := .ireturn) rfl rfl
    · replace h := h.2 hp
      show Zr sc 49 24 [zp a0, zj x1, zj r_91] [] w_89 ov w' c s
      refine Zr_st (q := (25, [zp a0, zj x1, zj r_91], [zp a0])) rfl rfl rfl ?_
      show Zr sc 49 25 [zp a0, zj x1, zj r_91] [zp a0] w_89 ov w' c s
      refine Zr_st (q := (26, [zp a0, zj x1, zj r_91], [zp a0, zp a0])) rfl rfl rfl ?_
      show Zr sc 49 26 [zp a0, zj x1, zj r_91] [zp a0, zp a0] w_89 ov w' c s
      refine Zr_st (q := (27, [zp a0, zj x1, zj r_91], [zj x1, zp a0, zp a0])) rfl rfl rfl ?_
      show Zr sc 49 27 [zp a0, zj x1, zj r_91] [zj x1, zp a0, zp a0] w_89 ov w' c s
      refine Zr_st (q := (28, [zp a0, zj x1, zj r_91], [zp a0, zj x1, zp a0, zp a0])) rfl rfl rfl ?_
      show Zr sc 49 28 [zp a0, zj x1, zj r_91] [zp a0, zj x1, zp a0, zp a0] w_89 ov w' c s
      obtain ⟨f0_161, f1_162, f2_163, f3_164, f4_165, f5_166, f6_167, f7_168, f8_169, f9_170, f10_171, f11_172, f12_173, f13_174, hw_160, h⟩ := h
      refine rl_gf rfl hw_160 rfl rfl ?_
      show Zr sc 49 31 [zp a0, zj x1, zj r_91] [zp f1_162, zj x1, zp a0, zp a0] w_89 ov w' c s
      refine Zr_st (q := (32, [zp a0, zj x1, zj r_91], [zj r_91, zp f1_162, zj x1, zp a0, zp a0])) rfl rfl rfl ?_
      show Zr sc 49 32 [zp a0, zj x1, zj r_91] [zj r_91, zp f1_162, zj x1, zp a0, zp a0] w_89 ov w' c s
      obtain ⟨f0_176, f1_177, f2_178, hw_175, h⟩ := h
      obtain ⟨r_181, w_179, hk_180, h⟩ := h
      refine rn_cal0 (ins := .invokevirtual 33) (rest := [zj x1, zp a0, zp a0]) rfl rfl rfl rfl (zinv_v (fs := _) hw_175 rfl rfl rfl rfl) rfl rfl hk_180 ?_
      show Zr sc 49 35 [zp a0, zj x1, zj r_91] [zj r_181, zj x1, zp a0, zp a0] w_179 ov w' c s
      obtain ⟨f0_183, f1_184, f2_185, f3_186, f4_187, f5_188, f6_189, f7_190, f8_191, f9_192, f10_193, f11_194, f12_195, f13_196, hw_182, h⟩ := h
      obtain ⟨r_199, w_197, hk_198, h⟩ := h
      refine rn_cal0 (ins := .invokevirtual 36) (rest := [zp a0]) rfl rfl rfl rfl (zinv_v (fs := _) hw_182 rfl rfl rfl rfl) rfl rfl hk_198 ?_
      show Zr sc 49 38 [zp a0, zj x1, zj r_91] [zj r_199, zp a0] w_197 ov w' c s
      obtain ⟨f0_201, f1_202, f2_203, f3_204, f4_205, f5_206, f6_207, f7_208, f8_209, f9_210, f10_211, f11_212, f12_213, f13_214, hw_200, h⟩ := h
      refine rl_pf rfl hw_200 rfl rfl rfl ?_
      show Zr sc 49 41 [zp a0, zj x1, zj r_91] [] (w_197.set a0 (zob 4 [zp f0_201, zp f1_202, zj f2_203, zj f3_204, zj f4_205, zj f5_206, zj r_199, zp f7_208, zp f8_209, zj f9_210, zj f10_211, zj f11_212, zj f12_213, zp f13_214])) ov w' c s
      refine Zr_st (q := (42, [zp a0, zj x1, zj r_91], [zj r_91])) rfl rfl rfl ?_
      show Zr sc 49 42 [zp a0, zj x1, zj r_91] [zj r_91] (w_197.set a0 (zob 4 [zp f0_201, zp f1_202, zj f2_203, zj f3_204, zj f4_205, zj f5_206, zj r_199, zp f7_208, zp f8_209, zj f9_210, zj f10_211, zj f11_212, zj f12_213, zp f13_214])) ov w' c s
      obtain ⟨h1, h2, h3, h4⟩ := h
      subst h1; subst h2; subst h3; subst h4
      exact Zr_ret (ins := .ireturn) rfl rfl

-- HeapwrightLab$Holes.firstOfSize(I)I
set_option maxRecDepth 100000 in
theorem V50_0 {sc : List Value} {w w' : List zE} {ov : Option Value} {c s : Nat} {a0 : Nat} {x1 : Int} (h : Zr sc 50 2 [zp a0, zj x1, zj 0] [] w ov w' c s) : Zr sc 50 0 [zp a0, zj x1, zmk] [] w ov w' c s := by
  refine rl_ic rfl ?_
  show Zr sc 50 1 [zp a0, zj x1, zmk] [zj 0] w ov w' c s
  refine Zr_st (q := (2, [zp a0, zj x1, zj 0], [])) rfl rfl rfl ?_
  show Zr sc 50 2 [zp a0, zj x1, zj 0] [] w ov w' c s
  exact h
set_option maxRecDepth 100000 in
theorem V50_2 {sc : List Value} {w w' : List zE} {ov : Option Value} {c s : Nat} {a0 : Nat} {x1 : Int} {x2 : Int} (h : (∃ f0_2 : Nat, ∃ f1_3 : Nat, ∃ f2_4 : Int, w[a0]? = some (zob 3 [zp f0_2, zp f1_3, zj f2_4]) ∧ ((zrg x2 ∧ zrg f2_4) ∧ ((f2_4 ≤ x2 → (ov = some (zj (-1)) ∧ w' = w ∧ c = 0 ∧ s = 0)) ∧ (¬ (f2_4 ≤ x2) → (∃ l_8 : List Int, w[f1_3]? = some (za l_8) ∧ ((0 ≤ x2 ∧ x2 < (l_8.length : Int) ∧ x2 ≤ 2147483647) ∧ ((zrg (zgi l_8 x2) ∧ zrg x1) ∧ (((zgi l_8 x2) ≠ x1 → Zr sc 50 2 [zp a0, zj x1, zj (x2 + 1)] [] w ov w' c s) ∧ (¬ ((zgi l_8 x2) ≠ x1) → (ov = some (zj x2) ∧ w' = w ∧ c = 0 ∧ s = 0))))))))))) : Zr sc 50 2 [zp a0, zj x1, zj x2] [] w ov w' c s := by
  refine Zr_st (q := (3, [zp a0, zj x1, zj x2], [zj x2])) rfl rfl rfl ?_
  show Zr sc 50 3 [zp a0, zj x1, zj x2] [zj x2] w ov w' c s
  refine Zr_st (q := (4, [zp a0, zj x1, zj x2], [zp a0, zj x2])) rfl rfl rfl ?_
  show Zr sc 50 4 [zp a0, zj x1, zj x2] [zp a0, zj x2] w ov w' c s
  obtain ⟨f0_2, f1_3, f2_4, hw_1, h⟩ := h
  refine rl_gf rfl hw_1 rfl rfl ?_
  show Zr sc 50 7 [zp a0, zj x1, zj x2] [zj f2_4, zj x2] w ov w' c s
  obtain ⟨hr_5, h⟩ := h
  refine Zr_br (p := f2_4 ≤ x2) rfl rfl (zcmp_j (cnd := .ge) hr_5.1 hr_5.2) (fun hp => ?_) (fun hp => ?_)
  · replace h := h.1 hp
    show Zr sc 50 28 [zp a0, zj x1, zj x2] [] w ov w' c s
    refine rl_ic rfl ?_
    show Zr sc 50 29 [zp a0, zj x1, zj x2] [zj (-1)] w ov w' c s
    obtain ⟨h1, h2, h3, h4⟩ := h
    subst h1; subst h2; subst h3; subst h4
    exact Zr_ret (ins := .ireturn) rfl rfl
  · replace h := h.2 hp
    show Zr sc 50 10 [zp a0, zj x1, zj x2] [] w ov w' c s
    refine Zr_st (q := (11, [zp a0, zj x1, zj x2], [zp a0])) rfl rfl rfl ?_
    show Zr sc 50 11 [zp a0, zj x1, zj x2] [zp a0] w ov w' c s
    refine rl_gf rfl hw_1 rfl rfl ?_
    show Zr sc 50 14 [zp a0, zj x1, zj x2] [zp f1_3] w ov w' c s
    refine Zr_st (q := (15, [zp a0, zj x1, zj x2], [zj x2, zp f1_3])) rfl rfl rfl ?_
    show Zr sc 50 15 [zp a0, zj x1, zj x2] [zj x2, zp f1_3] w ov w' c s
    obtain ⟨l_8, hw_7, h⟩ := h
    obtain ⟨hi_6, h⟩ := h
    refine rl_ia rfl hw_7 hi_6.1 hi_6.2.1 hi_6.2.2 ?_
    show Zr sc 50 16 [zp a0, zj x1, zj x2] [zj (zgi l_8 x2)] w ov w' c s
    refine Zr_st (q := (17, [zp a0, zj x1, zj x2], [zj x1, zj (zgi l_8 x2)])) rfl rfl rfl ?_
    show Zr sc 50 17 [zp a0, zj x1, zj x2] [zj x1, zj (zgi l_8 x2)] w ov w' c s
    obtain ⟨hr_9, h⟩ := h
    refine Zr_br (p := (zgi l_8 x2) ≠ x1) rfl rfl (zcmp_j (cnd := .ne) hr_9.1 hr_9.2) (fun hp => ?_) (fun hp => ?_)
    · replace h := h.1 hp
      show Zr sc 50 22 [zp a0, zj x1, zj x2] [] w ov w' c s
      refine rl_inc rfl rfl rfl rfl ?_
      show Zr sc 50 25 [zp a0, zj x1, zj (x2 + 1)] [] w ov w' c s
      refine Zr_st (q := (2, [zp a0, zj x1, zj (x2 + 1)], [])) rfl rfl rfl ?_
      show Zr sc 50 2 [zp a0, zj x1, zj (x2 + 1)] [] w ov w' c s
      exact h
    · replace h := h.2 hp
      show Zr sc 50 20 [zp a0, zj x1, zj x2] [] w ov w' c s
      refine Zr_st (q := (21, [zp a0, zj x1, zj x2], [zj x2])) rfl rfl rfl ?_
      show Zr sc 50 21 [zp a0, zj x1, zj x2] [zj x2] w ov w' c s
      obtain ⟨h1, h2, h3, h4⟩ := h
      subst h1; subst h2; subst h3; subst h4
      exact Zr_ret (ins := .ireturn) rfl rfl

-- HeapwrightLab$Slabs.pagesOf(II)I
set_option maxRecDepth 100000 in
theorem V51_0 {sc : List Value} {w w' : List zE} {ov : Option Value} {c s : Nat} {a0 : Nat} {x1 : Int} {x2 : Int} (h : Zr sc 51 5 [zp a0, zj x1, zj x2, zj 0, zj 0] [] w ov w' c s) : Zr sc 51 0 [zp a0, zj x1, zj x2, zmk, zmk] [] w ov w' c s := by
  refine rl_ic rfl ?_
  show Zr sc 51 1 [zp a0, zj x1, zj x2, zmk, zmk] [zj 0] w ov w' c s
  refine Zr_st (q := (2, [zp a0, zj x1, zj x2, zj 0, zmk], [])) rfl rfl rfl ?_
  show Zr sc 51 2 [zp a0, zj x1, zj x2, zj 0, zmk] [] w ov w' c s
  refine rl_ic rfl ?_
  show Zr sc 51 3 [zp a0, zj x1, zj x2, zj 0, zmk] [zj 0] w ov w' c s
  refine Zr_st (q := (5, [zp a0, zj x1, zj x2, zj 0, zj 0], [])) rfl rfl rfl ?_
  show Zr sc 51 5 [zp a0, zj x1, zj x2, zj 0, zj 0] [] w ov w' c s
  exact h
set_option maxRecDepth 100000 in
theorem V51_5 {sc : List Value} {w w' : List zE} {ov : Option Value} {c s : Nat} {a0 : Nat} {x1 : Int} {x2 : Int} {x3 : Int} {x4 : Int} (h : ((zrg x4 ∧ zrg 8) ∧ ((8 ≤ x4 → (ov = some (zj x3) ∧ w' = w ∧ c = 0 ∧ s = 0)) ∧ (¬ (8 ≤ x4) → ((zrg (x4 * 128) ∧ zrg x2) ∧ ((x2 < (x4 * 128) → (ov = some (zj x3) ∧ w' = w ∧ c = 0 ∧ s = 0)) ∧ (¬ (x2 < (x4 * 128)) → (∃ f0_4 : Nat, ∃ f1_5 : Nat, ∃ f2_6 : Int, ∃ f3_7 : Int, ∃ f4_8 : Int, ∃ f5_9 : Int, ∃ f6_10 : Int, ∃ f7_11 : Nat, ∃ f8_12 : Nat, ∃ f9_13 : Int, ∃ f10_14 : Int, ∃ f11_15 : Int, ∃ f12_16 : Int, ∃ f13_17 : Nat, w[a0]? = some (zob 4 [zp f0_4, zp f1_5, zj f2_6, zj f3_7, zj f4_8, zj f5_9, zj f6_10, zp f7_11, zp f8_12, zj f9_13, zj f10_14, zj f11_15, zj f12_16, zp f13_17]) ∧ (∃ l_20 : List Int, w[f13_17]? = some (za l_20) ∧ ((0 ≤ x4 ∧ x4 < (l_20.length : Int) ∧ x4 ≤ 2147483647) ∧ ((zrg (zgi l_20 x4) ∧ zrg x1) ∧ (((zgi l_20 x4) ≠ x1 → Zr sc 51 5 [zp a0, zj x1, zj x2, zj x3, zj (x4 + 1)] [] w ov w' c s) ∧ (¬ ((zgi l_20 x4) ≠ x1) → Zr sc 51 5 [zp a0, zj x1, zj x2, zj (x3 + 1), zj (x4 + 1)] [] w ov w' c s))))))))))))) : Zr sc 51 5 [zp a0, zj x1, zj x2, zj x3, zj x4] [] w ov w' c s := by
  refine Zr_st (q := (7, [zp a0, zj x1, zj x2, zj x3, zj x4], [zj x4])) rfl rfl rfl ?_
  show Zr sc 51 7 [zp a0, zj x1, zj x2, zj x3, zj x4] [zj x4] w ov w' c s
  refine rl_bi rfl (by decide) ?_
  show Zr sc 51 9 [zp a0, zj x1, zj x2, zj x3, zj x4] [zj 8, zj x4] w ov w' c s
  obtain ⟨hr_1, h⟩ := h
  refine Zr_br (p := 8 ≤ x4) rfl rfl (zcmp_j (cnd := .ge) hr_1.1 hr_1.2) (fun hp => ?_) (fun hp => ?_)
  · replace h := h.1 hp
    show Zr sc 51 42 [zp a0, zj x1, zj x2, zj x3, zj x4] [] w ov w' c s
    refine Zr_st (q := (43, [zp a0, zj x1, zj x2, zj x3, zj x4], [zj x3])) rfl rfl rfl ?_
    show Zr sc 51 43 [zp a0, zj x1, zj x2, zj x3, zj x4] [zj x3] w ov w' c s
    obtain ⟨h1, h2, h3, h4⟩ := h
    subst h1; subst h2; subst h3; subst h4
    exact Zr_ret (ins := .ireturn) rfl rfl
  · replace h := h.2 hp
    show Zr sc 51 12 [zp a0, zj x1, zj x2, zj x3, zj x4] [] w ov w' c s
    refine Zr_st (q := (14, [zp a0, zj x1, zj x2, zj x3, zj x4], [zj x4])) rfl rfl rfl ?_
    show Zr sc 51 14 [zp a0, zj x1, zj x2, zj x3, zj x4] [zj x4] w ov w' c s
    refine rl_si rfl (by decide) ?_
    show Zr sc 51 17 [zp a0, zj x1, zj x2, zj x3, zj x4] [zj 128, zj x4] w ov w' c s
    refine rl_mul rfl ?_
    show Zr sc 51 18 [zp a0, zj x1, zj x2, zj x3, zj x4] [zj (x4 * 128)] w ov w' c s
    refine Zr_st (q := (19, [zp a0, zj x1, zj x2, zj x3, zj x4], [zj x2, zj (x4 * 128)])) rfl rfl rfl ?_
    show Zr sc 51 19 [zp a0, zj x1, zj x2, zj x3, zj x4] [zj x2, zj (x4 * 128)] w ov w' c s
    obtain ⟨hr_2, h⟩ := h
    refine Zr_br (p := x2 < (x4 * 128)) rfl rfl (zcmp_j (cnd := .gt) hr_2.1 hr_2.2) (fun hp => ?_) (fun hp => ?_)
    · replace h := h.1 hp
      show Zr sc 51 42 [zp a0, zj x1, zj x2, zj x3, zj x4] [] w ov w' c s
      refine Zr_st (q := (43, [zp a0, zj x1, zj x2, zj x3, zj x4], [zj x3])) rfl rfl rfl ?_
      show Zr sc 51 43 [zp a0, zj x1, zj x2, zj x3, zj x4] [zj x3] w ov w' c s
      obtain ⟨h1, h2, h3, h4⟩ := h
      subst h1; subst h2; subst h3; subst h4
      exact Zr_ret (ins := .ireturn) rfl rfl
    · replace h := h.2 hp
      show Zr sc 51 22 [zp a0, zj x1, zj x2, zj x3, zj x4] [] w ov w' c s
      refine Zr_st (q := (23, [zp a0, zj x1, zj x2, zj x3, zj x4], [zp a0])) rfl rfl rfl ?_
      show Zr sc 51 23 [zp a0, zj x1, zj x2, zj x3, zj x4] [zp a0] w ov w' c s
      obtain ⟨f0_4, f1_5, f2_6, f3_7, f4_8, f5_9, f6_10, f7_11, f8_12, f9_13, f10_14, f11_15, f12_16, f13_17, hw_3, h⟩ := h
      refine rl_gf rfl hw_3 rfl rfl ?_
      show Zr sc 51 26 [zp a0, zj x1, zj x2, zj x3, zj x4] [zp f13_17] w ov w' c s
      refine Zr_st (q := (28, [zp a0, zj x1, zj x2, zj x3, zj x4], [zj x4, zp f13_17])) rfl rfl rfl ?_
      show Zr sc 51 28 [zp a0, zj x1, zj x2, zj x3, zj x4] [zj x4, zp f13_17] w ov w' c s
      obtain ⟨l_20, hw_19, h⟩ := h
      obtain ⟨hi_18, h⟩ := h
      refine rl_ia rfl hw_19 hi_18.1 hi_18.2.1 hi_18.2.2 ?_
      show Zr sc 51 29 [zp a0, zj x1, zj x2, zj x3, zj x4] [zj (zgi l_20 x4)] w ov w' c s
      refine Zr_st (q := (30, [zp a0, zj x1, zj x2, zj x3, zj x4], [zj x1, zj (zgi l_20 x4)])) rfl rfl rfl ?_
      show Zr sc 51 30 [zp a0, zj x1, zj x2, zj x3, zj x4] [zj x1, zj (zgi l_20 x4)] w ov w' c s
      obtain ⟨hr_21, h⟩ := h
      refine Zr_br (p := (zgi l_20 x4) ≠ x1) rfl rfl (zcmp_j (cnd := .ne) hr_21.1 hr_21.2) (fun hp => ?_) (fun hp => ?_)
      · replace h := h.1 hp
        show Zr sc 51 36 [zp a0, zj x1, zj x2, zj x3, zj x4] [] w ov w' c s
        refine rl_inc rfl rfl rfl rfl ?_
        show Zr sc 51 39 [zp a0, zj x1, zj x2, zj x3, zj (x4 + 1)] [] w ov w' c s
        refine Zr_st (q := (5, [zp a0, zj x1, zj x2, zj x3, zj (x4 + 1)], [])) rfl rfl rfl ?_
        show Zr sc 51 5 [zp a0, zj x1, zj x2, zj x3, zj (x4 + 1)] [] w ov w' c s
        exact h
      · replace h := h.2 hp
        show Zr sc 51 33 [zp a0, zj x1, zj x2, zj x3, zj x4] [] w ov w' c s
        refine rl_inc rfl rfl rfl rfl ?_
        show Zr sc 51 36 [zp a0, zj x1, zj x2, zj (x3 + 1), zj x4] [] w ov w' c s
        refine rl_inc rfl rfl rfl rfl ?_
        show Zr sc 51 39 [zp a0, zj x1, zj x2, zj (x3 + 1), zj (x4 + 1)] [] w ov w' c s
        refine Zr_st (q := (5, [zp a0, zj x1, zj x2, zj (x3 + 1), zj (x4 + 1)], [])) rfl rfl rfl ?_
        show Zr sc 51 5 [zp a0, zj x1, zj x2, zj (x3 + 1), zj (x4 + 1)] [] w ov w' c s
        exact h

-- HeapwrightLab$Holes.firstWith(I)I
set_option maxRecDepth 100000 in
theorem V52_0 {sc : List Value} {w w' : List zE} {ov : Option Value} {c s : Nat} {a0 : Nat} {x1 : Int} (h : Zr sc 52 2 [zp a0, zj x1, zj 0] [] w ov w' c s) : Zr sc 52 0 [zp a0, zj x1, zmk] [] w ov w' c s := by
  refine rl_ic rfl ?_
  show Zr sc 52 1 [zp a0, zj x1, zmk] [zj 0] w ov w' c s
  refine Zr_st (q := (2, [zp a0, zj x1, zj 0], [])) rfl rfl rfl ?_
  show Zr sc 52 2 [zp a0, zj x1, zj 0] [] w ov w' c s
  exact h
set_option maxRecDepth 100000 in
theorem V52_2 {sc : List Value} {w w' : List zE} {ov : Option Value} {c s : Nat} {a0 : Nat} {x1 : Int} {x2 : Int} (h : (∃ f0_2 : Nat, ∃ f1_3 : Nat, ∃ f2_4 : Int, w[a0]? = some (zob 3 [zp f0_2, zp f1_3, zj f2_4]) ∧ ((zrg x2 ∧ zrg f2_4) ∧ ((f2_4 ≤ x2 → (ov = some (zj (-1)) ∧ w' = w ∧ c = 0 ∧ s = 0)) ∧ (¬ (f2_4 ≤ x2) → (∃ l_8 : List Int, w[f1_3]? = some (za l_8) ∧ ((0 ≤ x2 ∧ x2 < (l_8.length : Int) ∧ x2 ≤ 2147483647) ∧ ((zrg (zgi l_8 x2) ∧ zrg x1) ∧ (((zgi l_8 x2) < x1 → Zr sc 52 2 [zp a0, zj x1, zj (x2 + 1)] [] w ov w' c s) ∧ (¬ ((zgi l_8 x2) < x1) → (ov = some (zj x2) ∧ w' = w ∧ c = 0 ∧ s = 0))))))))))) : Zr sc 52 2 [zp a0, zj x1, zj x2] [] w ov w' c s := by
  refine Zr_st (q := (3, [zp a0, zj x1, zj x2], [zj x2])) rfl rfl rfl ?_
  show Zr sc 52 3 [zp a0, zj x1, zj x2] [zj x2] w ov w' c s
  refine Zr_st (q := (4, [zp a0, zj x1, zj x2], [zp a0, zj x2])) rfl rfl rfl ?_
  show Zr sc 52 4 [zp a0, zj x1, zj x2] [zp a0, zj x2] w ov w' c s
  obtain ⟨f0_2, f1_3, f2_4, hw_1, h⟩ := h
  refine rl_gf rfl hw_1 rfl rfl ?_
  show Zr sc 52 7 [zp a0, zj x1, zj x2] [zj f2_4, zj x2] w ov w' c s
  obtain ⟨hr_5, h⟩ := h
  refine Zr_br (p := f2_4 ≤ x2) rfl rfl (zcmp_j (cnd := .ge) hr_5.1 hr_5.2) (fun hp => ?_) (fun hp => ?_)
  · replace h := h.1 hp
    show Zr sc 52 28 [zp a0, zj x1, zj x2] [] w ov w' c s
    refine rl_ic rfl ?_
    show Zr sc 52 29 [zp a0, zj x1, zj x2] [zj (-1)] w ov w' c s
    obtain ⟨h1, h2, h3, h4⟩ := h
    subst h1; subst h2; subst h3; subst h4
    exact Zr_ret (ins := .ireturn) rfl rfl
  · replace h := h.2 hp
    show Zr sc 52 10 [zp a0, zj x1, zj x2] [] w ov w' c s
    refine Zr_st (q := (11, [zp a0, zj x1, zj x2], [zp a0])) rfl rfl rfl ?_
    show Zr sc 52 11 [zp a0, zj x1, zj x2] [zp a0] w ov w' c s
    refine rl_gf rfl hw_1 rfl rfl ?_
    show Zr sc 52 14 [zp a0, zj x1, zj x2] [zp f1_3] w ov w' c s
    refine Zr_st (q := (15, [zp a0, zj x1, zj x2], [zj x2, zp f1_3])) rfl rfl rfl ?_
    show Zr sc 52 15 [zp a0, zj x1, zj x2] [zj x2, zp f1_3] w ov w' c s
    obtain ⟨l_8, hw_7, h⟩ := h
    obtain ⟨hi_6, h⟩ := h
    refine rl_ia rfl hw_7 hi_6.1 hi_6.2.1 hi_6.2.2 ?_
    show Zr sc 52 16 [zp a0, zj x1, zj x2] [zj (zgi l_8 x2)] w ov w' c s
    refine Zr_st (q := (17, [zp a0, zj x1, zj x2], [zj x1, zj (zgi l_8 x2)])) rfl rfl rfl ?_
    show Zr sc 52 17 [zp a0, zj x1, zj x2] [zj x1, zj (zgi l_8 x2)] w ov w' c s
    obtain ⟨hr_9, h⟩ := h
    refine Zr_br (p := (zgi l_8 x2) < x1) rfl rfl (zcmp_j (cnd := .lt) hr_9.1 hr_9.2) (fun hp => ?_) (fun hp => ?_)
    · replace h := h.1 hp
      show Zr sc 52 22 [zp a0, zj x1, zj x2] [] w ov w' c s
      refine rl_inc rfl rfl rfl rfl ?_
      show Zr sc 52 25 [zp a0, zj x1, zj (x2 + 1)] [] w ov w' c s
      refine Zr_st (q := (2, [zp a0, zj x1, zj (x2 + 1)], [])) rfl rfl rfl ?_
      show Zr sc 52 2 [zp a0, zj x1, zj (x2 + 1)] [] w ov w' c s
      exact h
    · replace h := h.2 hp
      show Zr sc 52 20 [zp a0, zj x1, zj x2] [] w ov w' c s
      refine Zr_st (q := (21, [zp a0, zj x1, zj x2], [zj x2])) rfl rfl rfl ?_
      show Zr sc 52 21 [zp a0, zj x1, zj x2] [zj x2] w ov w' c s
      obtain ⟨h1, h2, h3, h4⟩ := h
      subst h1; subst h2; subst h3; subst h4
      exact Zr_ret (ins := .ireturn) rfl rfl

-- HeapwrightLab.greatest()I
set_option maxRecDepth 100000 in
theorem V53_0 {sc : List Value} {w w' : List zE} {ov : Option Value} {c s : Nat} {a0 : Nat} (h : (∃ f0_2 : Nat, ∃ f1_3 : Nat, ∃ f2_4 : Nat, ∃ f3_5 : Nat, ∃ f4_6 : Nat, ∃ f5_7 : Nat, ∃ f6_8 : Nat, ∃ f7_9 : Int, w[a0]? = some (zob 6 [zp f0_2, zp f1_3, zp f2_4, zp f3_5, zp f4_6, zp f5_7, zp f6_8, zj f7_9]) ∧ (∃ p_12 : Nat, ∃ w_10 : List zE, Zc sc 1 [zp a0] w (some (zp p_12)) w_10 0 0 ∧ (∃ cn_13 : Nat, ∃ fs_14 : List Value, w_10[p_12]? = some (zob cn_13 fs_14) ∧ (cn_13 = 1 ∨ cn_13 = 2 ∨ cn_13 = 4) ∧ (∃ r_21 : Int, ∃ w_19 : List zE, Zc sc 54 [zp p_12] w_10 (some (zj r_21)) w_19 0 0 ∧ (ov = some (zj r_21) ∧ w' = w_19 ∧ c = 0 ∧ s = 0)))))) : Zr sc 53 0 [zp a0] [] w ov w' c s := by
  refine Zr_st (q := (1, [zp a0], [zp a0])) rfl rfl rfl ?_
  show Zr sc 53 1 [zp a0] [zp a0] w ov w' c s
  obtain ⟨f0_2, f1_3, f2_4, f3_5, f4_6, f5_7, f6_8, f7_9, hw_1, h⟩ := h
  obtain ⟨p_12, w_10, hk_11, h⟩ := h
  refine rn_cal0 (ins := .invokevirtual 83) (rest := []) rfl rfl rfl rfl (zinv_v (fs := _) hw_1 rfl rfl rfl rfl) rfl rfl hk_11 ?_
  show Zr sc 53 4 [zp a0] [zp p_12] w_10 ov w' c s
  obtain ⟨cn_13, fs_14, hw_15, hcn_16, h⟩ := h
  have hz_17 : ∃ kd, zinv 53 (.invokevirtual 192) [zp p_12] (false, w_10) = some (kd, 54, [zp p_12], []) ∧ decide (kd < 6) = true := by rcases hcn_16 with rfl | rfl | rfl <;> exact zinv_u hw_15 rfl rfl rfl rfl rfl rfl rfl
  obtain ⟨kd_18, hz_17⟩ := hz_17
  obtain ⟨r_21, w_19, hk_20, h⟩ := h
  refine rn_cal0 (ins := .invokevirtual 192) (rest := []) rfl rfl rfl rfl hz_17.1 rfl hz_17.2 hk_20 ?_
  show Zr sc 53 7 [zp a0] [zj r_21] w_19 ov w' c s
  obtain ⟨h1, h2, h3, h4⟩ := h
  subst h1; subst h2; subst h3; subst h4
  exact Zr_ret (ins := .ireturn) rfl rfl

-- HeapwrightLab$Memory.greatestSize()I
set_option maxRecDepth 100000 in
theorem V54_0_1 {sc : List Value} {w w' : List zE} {ov : Option Value} {c s : Nat} {a0 : Nat} (h : (∃ f0_2 : Nat, ∃ f1_3 : Nat, ∃ f2_4 : Int, ∃ f3_5 : Int, ∃ f4_6 : Int, ∃ f5_7 : Int, ∃ f6_8 : Int, ∃ f7_9 : Nat, ∃ f8_10 : Nat, ∃ f9_11 : Int, ∃ f10_12 : Int, ∃ f11_13 : Int, ∃ f12_14 : Int, w[a0]? = some (zob 1 [zp f0_2, zp f1_3, zj f2_4, zj f3_5, zj f4_6, zj f5_7, zj f6_8, zp f7_9, zp f8_10, zj f9_11, zj f10_12, zj f11_13, zj f12_14]) ∧ (∃ f0_16 : Nat, ∃ f1_17 : Nat, ∃ f2_18 : Int, w[f1_3]? = some (zob 3 [zp f0_16, zp f1_17, zj f2_18]) ∧ (∃ r_21 : Int, ∃ w_19 : List zE, Zc sc 32 [zp f1_3] w (some (zj r_21)) w_19 0 0 ∧ Zr sc 54 12 [zp a0, zj r_21, zj 300] [] w_19 ov w' c s)))) : Zr sc 54 0 [zp a0, zmk, zmk] [] w ov w' c s := by
  refine Zr_st (q := (1, [zp a0, zmk, zmk], [zp a0])) rfl rfl rfl ?_
  show Zr sc 54 1 [zp a0, zmk, zmk] [zp a0] w ov w' c s
  obtain ⟨f0_2, f1_3, f2_4, f3_5, f4_6, f5_7, f6_8, f7_9, f8_10, f9_11, f10_12, f11_13, f12_14, hw_1, h⟩ := h
  refine rl_gf rfl hw_1 rfl rfl ?_
  show Zr sc 54 4 [zp a0, zmk, zmk] [zp f1_3] w ov w' c s
  obtain ⟨f0_16, f1_17, f2_18, hw_15, h⟩ := h
  obtain ⟨r_21, w_19, hk_20, h⟩ := h
  refine rn_cal0 (ins := .invokevirtual 121) (rest := []) rfl rfl rfl rfl (zinv_v (fs := _) hw_15 rfl rfl rfl rfl) rfl rfl hk_20 ?_
  show Zr sc 54 7 [zp a0, zmk, zmk] [zj r_21] w_19 ov w' c s
  refine Zr_st (q := (8, [zp a0, zj r_21, zmk], [])) rfl rfl rfl ?_
  show Zr sc 54 8 [zp a0, zj r_21, zmk] [] w_19 ov w' c s
  refine rl_si rfl (by decide) ?_
  show Zr sc 54 11 [zp a0, zj r_21, zmk] [zj 300] w_19 ov w' c s
  refine Zr_st (q := (12, [zp a0, zj r_21, zj 300], [])) rfl rfl rfl ?_
  show Zr sc 54 12 [zp a0, zj r_21, zj 300] [] w_19 ov w' c s
  exact h
set_option maxRecDepth 100000 in
theorem V54_12_1 {sc : List Value} {w w' : List zE} {ov : Option Value} {c s : Nat} {a0 : Nat} {x1 : Int} {x2 : Int} (h : ((zrg x2 ∧ zrg 1) ∧ ((x2 < 1 → (ov = some (zj 0) ∧ w' = w ∧ c = 0 ∧ s = 0)) ∧ (¬ (x2 < 1) → (∃ f0_3 : Nat, ∃ f1_4 : Nat, ∃ f2_5 : Int, ∃ f3_6 : Int, ∃ f4_7 : Int, ∃ f5_8 : Int, ∃ f6_9 : Int, ∃ f7_10 : Nat, ∃ f8_11 : Nat, ∃ f9_12 : Int, ∃ f10_13 : Int, ∃ f11_14 : Int, ∃ f12_15 : Int, w[a0]? = some (zob 1 [zp f0_3, zp f1_4, zj f2_5, zj f3_6, zj f4_7, zj f5_8, zj f6_9, zp f7_10, zp f8_11, zj f9_12, zj f10_13, zj f11_14, zj f12_15]) ∧ (∃ r_18 : Int, ∃ w_16 : List zE, Zc sc 39 [zp a0, zj x2] w (some (zj r_18)) w_16 0 0 ∧ ((zrg r_18 ∧ zrg x1) ∧ ((x1 < r_18 → Zr sc 54 12 [zp a0, zj x1, zj (x2 + (-1))] [] w_16 ov w' c s) ∧ (¬ (x1 < r_18) → (∃ f0_21 : Nat, ∃ f1_22 : Nat, ∃ f2_23 : Int, ∃ f3_24 : Int, ∃ f4_25 : Int, ∃ f5_26 : Int, ∃ f6_27 : Int, ∃ f7_28 : Nat, ∃ f8_29 : Nat, ∃ f9_30 : Int, ∃ f10_31 : Int, ∃ f11_32 : Int, ∃ f12_33 : Int, w_16[a0]? = some (zob 1 [zp f0_21, zp f1_22, zj f2_23, zj f3_24, zj f4_25, zj f5_26, zj f6_27, zp f7_28, zp f8_29, zj f9_30, zj f10_31, zj f11_32, zj f12_33]) ∧ (∃ r_36 : Int, ∃ w_34 : List zE, Zc sc 38 [zp a0, zj x2] w_16 (some (zj r_36)) w_34 0 0 ∧ ((zrg r_36) ∧ ((r_36 < 0 → Zr sc 54 12 [zp a0, zj x1, zj (x2 + (-1))] [] w_34 ov w' c s) ∧ (¬ (r_36 < 0) → (ov = some (zj x2) ∧ w' = w_34 ∧ c = 0 ∧ s = 0))))))))))))))) : Zr sc 54 12 [zp a0, zj x1, zj x2] [] w ov w' c s := by
  refine Zr_st (q := (13, [zp a0, zj x1, zj x2], [zj x2])) rfl rfl rfl ?_
  show Zr sc 54 13 [zp a0, zj x1, zj x2] [zj x2] w ov w' c s
  refine rl_ic rfl ?_
  show Zr sc 54 14 [zp a0, zj x1, zj x2] [zj 1, zj x2] w ov w' c s
  obtain ⟨hr_1, h⟩ := h
  refine Zr_br (p := x2 < 1) rfl rfl (zcmp_j (cnd := .lt) hr_1.1 hr_1.2) (fun hp => ?_) (fun hp => ?_)
  · replace h := h.1 hp
    show Zr sc 54 42 [zp a0, zj x1, zj x2] [] w ov w' c s
    refine rl_ic rfl ?_
    show Zr sc 54 43 [zp a0, zj x1, zj x2] [zj 0] w ov w' c s
    obtain ⟨h1, h2, h3, h4⟩ := h
    subst h1; subst h2; subst h3; subst h4
    exact Zr_ret (ins := .ireturn) rfl rfl
  · replace h := h.2 hp
    show Zr sc 54 17 [zp a0, zj x1, zj x2] [] w ov w' c s
    refine Zr_st (q := (18, [zp a0, zj x1, zj x2], [zp a0])) rfl rfl rfl ?_
    show Zr sc 54 18 [zp a0, zj x1, zj x2] [zp a0] w ov w' c s
    refine Zr_st (q := (19, [zp a0, zj x1, zj x2], [zj x2, zp a0])) rfl rfl rfl ?_
    show Zr sc 54 19 [zp a0, zj x1, zj x2] [zj x2, zp a0] w ov w' c s
    obtain ⟨f0_3, f1_4, f2_5, f3_6, f4_7, f5_8, f6_9, f7_10, f8_11, f9_12, f10_13, f11_14, f12_15, hw_2, h⟩ := h
    obtain ⟨r_18, w_16, hk_17, h⟩ := h
    refine rn_cal0 (ins := .invokevirtual 124) (rest := []) rfl rfl rfl rfl (zinv_v (fs := _) hw_2 rfl rfl rfl rfl) rfl rfl hk_17 ?_
    show Zr sc 54 22 [zp a0, zj x1, zj x2] [zj r_18] w_16 ov w' c s
    refine Zr_st (q := (23, [zp a0, zj x1, zj x2], [zj x1, zj r_18])) rfl rfl rfl ?_
    show Zr sc 54 23 [zp a0, zj x1, zj x2] [zj x1, zj r_18] w_16 ov w' c s
    obtain ⟨hr_19, h⟩ := h
    refine Zr_br (p := x1 < r_18) rfl rfl (zcmp_j (cnd := .gt) hr_19.1 hr_19.2) (fun hp => ?_) (fun hp => ?_)
    · replace h := h.1 hp
      show Zr sc 54 36 [zp a0, zj x1, zj x2] [] w_16 ov w' c s
      refine rl_inc rfl rfl rfl rfl ?_
      show Zr sc 54 39 [zp a0, zj x1, zj (x2 + (-1))] [] w_16 ov w' c s
      refine Zr_st (q := (12, [zp a0, zj x1, zj (x2 + (-1))], [])) rfl rfl rfl ?_
      show Zr sc 54 12 [zp a0, zj x1, zj (x2 + (-1))] [] w_16 ov w' c s
      exact h
    · replace h := h.2 hp
      show Zr sc 54 26 [zp a0, zj x1, zj x2] [] w_16 ov w' c s
      refine Zr_st (q := (27, [zp a0, zj x1, zj x2], [zp a0])) rfl rfl rfl ?_
      show Zr sc 54 27 [zp a0, zj x1, zj x2] [zp a0] w_16 ov w' c s
      refine Zr_st (q := (28, [zp a0, zj x1, zj x2], [zj x2, zp a0])) rfl rfl rfl ?_
      show Zr sc 54 28 [zp a0, zj x1, zj x2] [zj x2, zp a0] w_16 ov w' c s
      obtain ⟨f0_21, f1_22, f2_23, f3_24, f4_25, f5_26, f6_27, f7_28, f8_29, f9_30, f10_31, f11_32, f12_33, hw_20, h⟩ := h
      obtain ⟨r_36, w_34, hk_35, h⟩ := h
      refine rn_cal0 (ins := .invokevirtual 133) (rest := []) rfl rfl rfl rfl (zinv_v (fs := _) hw_20 rfl rfl rfl rfl) rfl rfl hk_35 ?_
      show Zr sc 54 31 [zp a0, zj x1, zj x2] [zj r_36] w_34 ov w' c s
      obtain ⟨hr_37, h⟩ := h
      refine Zr_b0 (p := r_36 < 0) rfl rfl (zcmp_0 (cnd := .lt) hr_37) (fun hp => ?_) (fun hp => ?_)
      · replace h := h.1 hp
        show Zr sc 54 36 [zp a0, zj x1, zj x2] [] w_34 ov w' c s
        refine rl_inc rfl rfl rfl rfl ?_
        show Zr sc 54 39 [zp a0, zj x1, zj (x2 + (-1))] [] w_34 ov w' c s
        refine Zr_st (q := (12, [zp a0, zj x1, zj (x2 + (-1))], [])) rfl rfl rfl ?_
        show Zr sc 54 12 [zp a0, zj x1, zj (x2 + (-1))] [] w_34 ov w' c s
        exact h
      · replace h := h.2 hp
        show Zr sc 54 34 [zp a0, zj x1, zj x2] [] w_34 ov w' c s
        refine Zr_st (q := (35, [zp a0, zj x1, zj x2], [zj x2])) rfl rfl rfl ?_
        show Zr sc 54 35 [zp a0, zj x1, zj x2] [zj x2] w_34 ov w' c s
        obtain ⟨h1, h2, h3, h4⟩ := h
        subst h1; subst h2; subst h3; subst h4
        exact Zr_ret (ins := .ireturn) rfl rfl

-- HeapwrightLab$Memory.greatestSize()I
set_option maxRecDepth 100000 in
theorem V54_0_2 {sc : List Value} {w w' : List zE} {ov : Option Value} {c s : Nat} {a0 : Nat} (h : (∃ f0_2 : Nat, ∃ f1_3 : Nat, ∃ f2_4 : Int, ∃ f3_5 : Int, ∃ f4_6 : Int, ∃ f5_7 : Int, ∃ f6_8 : Int, ∃ f7_9 : Nat, ∃ f8_10 : Nat, ∃ f9_11 : Int, ∃ f10_12 : Int, ∃ f11_13 : Int, ∃ f12_14 : Int, w[a0]? = some (zob 2 [zp f0_2, zp f1_3, zj f2_4, zj f3_5, zj f4_6, zj f5_7, zj f6_8, zp f7_9, zp f8_10, zj f9_11, zj f10_12, zj f11_13, zj f12_14]) ∧ (∃ f0_16 : Nat, ∃ f1_17 : Nat, ∃ f2_18 : Int, w[f1_3]? = some (zob 3 [zp f0_16, zp f1_17, zj f2_18]) ∧ (∃ r_21 : Int, ∃ w_19 : List zE, Zc sc 32 [zp f1_3] w (some (zj r_21)) w_19 0 0 ∧ Zr sc 54 12 [zp a0, zj r_21, zj 300] [] w_19 ov w' c s)))) : Zr sc 54 0 [zp a0, zmk, zmk] [] w ov w' c s := by
  refine Zr_st (q := (1, [zp a0, zmk, zmk], [zp a0])) rfl rfl rfl ?_
  show Zr sc 54 1 [zp a0, zmk, zmk] [zp a0] w ov w' c s
  obtain ⟨f0_2, f1_3, f2_4, f3_5, f4_6, f5_7, f6_8, f7_9, f8_10, f9_11, f10_12, f11_13, f12_14, hw_1, h⟩ := h
  refine rl_gf rfl hw_1 rfl rfl ?_
  show Zr sc 54 4 [zp a0, zmk, zmk] [zp f1_3] w ov w' c s
  obtain ⟨f0_16, f1_17, f2_18, hw_15, h⟩ := h
  obtain ⟨r_21, w_19, hk_20, h⟩ := h
  refine rn_cal0 (ins := .invokevirtual 121) (rest := []) rfl rfl rfl rfl (zinv_v (fs := _) hw_15 rfl rfl rfl rfl) rfl rfl hk_20 ?_
  show Zr sc 54 7 [zp a0, zmk, zmk] [zj r_21] w_19 ov w' c s
  refine Zr_st (q := (8, [zp a0, zj r_21, zmk], [])) rfl rfl rfl ?_
  show Zr sc 54 8 [zp a0, zj r_21, zmk] [] w_19 ov w' c s
  refine rl_si rfl (by decide) ?_
  show Zr sc 54 11 [zp a0, zj r_21, zmk] [zj 300] w_19 ov w' c s
  refine Zr_st (q := (12, [zp a0, zj r_21, zj 300], [])) rfl rfl rfl ?_
  show Zr sc 54 12 [zp a0, zj r_21, zj 300] [] w_19 ov w' c s
  exact h
set_option maxRecDepth 100000 in
theorem V54_12_2 {sc : List Value} {w w' : List zE} {ov : Option Value} {c s : Nat} {a0 : Nat} {x1 : Int} {x2 : Int} (h : ((zrg x2 ∧ zrg 1) ∧ ((x2 < 1 → (ov = some (zj 0) ∧ w' = w ∧ c = 0 ∧ s = 0)) ∧ (¬ (x2 < 1) → (∃ f0_3 : Nat, ∃ f1_4 : Nat, ∃ f2_5 : Int, ∃ f3_6 : Int, ∃ f4_7 : Int, ∃ f5_8 : Int, ∃ f6_9 : Int, ∃ f7_10 : Nat, ∃ f8_11 : Nat, ∃ f9_12 : Int, ∃ f10_13 : Int, ∃ f11_14 : Int, ∃ f12_15 : Int, w[a0]? = some (zob 2 [zp f0_3, zp f1_4, zj f2_5, zj f3_6, zj f4_7, zj f5_8, zj f6_9, zp f7_10, zp f8_11, zj f9_12, zj f10_13, zj f11_14, zj f12_15]) ∧ (∃ r_18 : Int, ∃ w_16 : List zE, Zc sc 40 [zp a0, zj x2] w (some (zj r_18)) w_16 0 0 ∧ ((zrg r_18 ∧ zrg x1) ∧ ((x1 < r_18 → Zr sc 54 12 [zp a0, zj x1, zj (x2 + (-1))] [] w_16 ov w' c s) ∧ (¬ (x1 < r_18) → (∃ f0_21 : Nat, ∃ f1_22 : Nat, ∃ f2_23 : Int, ∃ f3_24 : Int, ∃ f4_25 : Int, ∃ f5_26 : Int, ∃ f6_27 : Int, ∃ f7_28 : Nat, ∃ f8_29 : Nat, ∃ f9_30 : Int, ∃ f10_31 : Int, ∃ f11_32 : Int, ∃ f12_33 : Int, w_16[a0]? = some (zob 2 [zp f0_21, zp f1_22, zj f2_23, zj f3_24, zj f4_25, zj f5_26, zj f6_27, zp f7_28, zp f8_29, zj f9_30, zj f10_31, zj f11_32, zj f12_33]) ∧ (∃ r_36 : Int, ∃ w_34 : List zE, Zc sc 38 [zp a0, zj x2] w_16 (some (zj r_36)) w_34 0 0 ∧ ((zrg r_36) ∧ ((r_36 < 0 → Zr sc 54 12 [zp a0, zj x1, zj (x2 + (-1))] [] w_34 ov w' c s) ∧ (¬ (r_36 < 0) → (ov = some (zj x2) ∧ w' = w_34 ∧ c = 0 ∧ s = 0))))))))))))))) : Zr sc 54 12 [zp a0, zj x1, zj x2] [] w ov w' c s := by
  refine Zr_st (q := (13, [zp a0, zj x1, zj x2], [zj x2])) rfl rfl rfl ?_
  show Zr sc 54 13 [zp a0, zj x1, zj x2] [zj x2] w ov w' c s
  refine rl_ic rfl ?_
  show Zr sc 54 14 [zp a0, zj x1, zj x2] [zj 1, zj x2] w ov w' c s
  obtain ⟨hr_1, h⟩ := h
  refine Zr_br (p := x2 < 1) rfl rfl (zcmp_j (cnd := .lt) hr_1.1 hr_1.2) (fun hp => ?_) (fun hp => ?_)
  · replace h := h.1 hp
    show Zr sc 54 42 [zp a0, zj x1, zj x2] [] w ov w' c s
    refine rl_ic rfl ?_
    show Zr sc 54 43 [zp a0, zj x1, zj x2] [zj 0] w ov w' c s
    obtain ⟨h1, h2, h3, h4⟩ := h
    subst h1; subst h2; subst h3; subst h4
    exact Zr_ret (ins := .ireturn) rfl rfl
  · replace h := h.2 hp
    show Zr sc 54 17 [zp a0, zj x1, zj x2] [] w ov w' c s
    refine Zr_st (q := (18, [zp a0, zj x1, zj x2], [zp a0])) rfl rfl rfl ?_
    show Zr sc 54 18 [zp a0, zj x1, zj x2] [zp a0] w ov w' c s
    refine Zr_st (q := (19, [zp a0, zj x1, zj x2], [zj x2, zp a0])) rfl rfl rfl ?_
    show Zr sc 54 19 [zp a0, zj x1, zj x2] [zj x2, zp a0] w ov w' c s
    obtain ⟨f0_3, f1_4, f2_5, f3_6, f4_7, f5_8, f6_9, f7_10, f8_11, f9_12, f10_13, f11_14, f12_15, hw_2, h⟩ := h
    obtain ⟨r_18, w_16, hk_17, h⟩ := h
    refine rn_cal0 (ins := .invokevirtual 124) (rest := []) rfl rfl rfl rfl (zinv_v (fs := _) hw_2 rfl rfl rfl rfl) rfl rfl hk_17 ?_
    show Zr sc 54 22 [zp a0, zj x1, zj x2] [zj r_18] w_16 ov w' c s
    refine Zr_st (q := (23, [zp a0, zj x1, zj x2], [zj x1, zj r_18])) rfl rfl rfl ?_
    show Zr sc 54 23 [zp a0, zj x1, zj x2] [zj x1, zj r_18] w_16 ov w' c s
    obtain ⟨hr_19, h⟩ := h
    refine Zr_br (p := x1 < r_18) rfl rfl (zcmp_j (cnd := .gt) hr_19.1 hr_19.2) (fun hp => ?_) (fun hp => ?_)
    · replace h := h.1 hp
      show Zr sc 54 36 [zp a0, zj x1, zj x2] [] w_16 ov w' c s
      refine rl_inc rfl rfl rfl rfl ?_
      show Zr sc 54 39 [zp a0, zj x1, zj (x2 + (-1))] [] w_16 ov w' c s
      refine Zr_st (q := (12, [zp a0, zj x1, zj (x2 + (-1))], [])) rfl rfl rfl ?_
      show Zr sc 54 12 [zp a0, zj x1, zj (x2 + (-1))] [] w_16 ov w' c s
      exact h
    · replace h := h.2 hp
      show Zr sc 54 26 [zp a0, zj x1, zj x2] [] w_16 ov w' c s
      refine Zr_st (q := (27, [zp a0, zj x1, zj x2], [zp a0])) rfl rfl rfl ?_
      show Zr sc 54 27 [zp a0, zj x1, zj x2] [zp a0] w_16 ov w' c s
      refine Zr_st (q := (28, [zp a0, zj x1, zj x2], [zj x2, zp a0])) rfl rfl rfl ?_
      show Zr sc 54 28 [zp a0, zj x1, zj x2] [zj x2, zp a0] w_16 ov w' c s
      obtain ⟨f0_21, f1_22, f2_23, f3_24, f4_25, f5_26, f6_27, f7_28, f8_29, f9_30, f10_31, f11_32, f12_33, hw_20, h⟩ := h
      obtain ⟨r_36, w_34, hk_35, h⟩ := h
      refine rn_cal0 (ins := .invokevirtual 133) (rest := []) rfl rfl rfl rfl (zinv_v (fs := _) hw_20 rfl rfl rfl rfl) rfl rfl hk_35 ?_
      show Zr sc 54 31 [zp a0, zj x1, zj x2] [zj r_36] w_34 ov w' c s
      obtain ⟨hr_37, h⟩ := h
      refine Zr_b0 (p := r_36 < 0) rfl rfl (zcmp_0 (cnd := .lt) hr_37) (fun hp => ?_) (fun hp => ?_)
      · replace h := h.1 hp
        show Zr sc 54 36 [zp a0, zj x1, zj x2] [] w_34 ov w' c s
        refine rl_inc rfl rfl rfl rfl ?_
        show Zr sc 54 39 [zp a0, zj x1, zj (x2 + (-1))] [] w_34 ov w' c s
        refine Zr_st (q := (12, [zp a0, zj x1, zj (x2 + (-1))], [])) rfl rfl rfl ?_
        show Zr sc 54 12 [zp a0, zj x1, zj (x2 + (-1))] [] w_34 ov w' c s
        exact h
      · replace h := h.2 hp
        show Zr sc 54 34 [zp a0, zj x1, zj x2] [] w_34 ov w' c s
        refine Zr_st (q := (35, [zp a0, zj x1, zj x2], [zj x2])) rfl rfl rfl ?_
        show Zr sc 54 35 [zp a0, zj x1, zj x2] [zj x2] w_34 ov w' c s
        obtain ⟨h1, h2, h3, h4⟩ := h
        subst h1; subst h2; subst h3; subst h4
        exact Zr_ret (ins := .ireturn) rfl rfl

-- HeapwrightLab$Memory.greatestSize()I
set_option maxRecDepth 100000 in
theorem V54_0_4 {sc : List Value} {w w' : List zE} {ov : Option Value} {c s : Nat} {a0 : Nat} (h : (∃ f0_2 : Nat, ∃ f1_3 : Nat, ∃ f2_4 : Int, ∃ f3_5 : Int, ∃ f4_6 : Int, ∃ f5_7 : Int, ∃ f6_8 : Int, ∃ f7_9 : Nat, ∃ f8_10 : Nat, ∃ f9_11 : Int, ∃ f10_12 : Int, ∃ f11_13 : Int, ∃ f12_14 : Int, ∃ f13_15 : Nat, w[a0]? = some (zob 4 [zp f0_2, zp f1_3, zj f2_4, zj f3_5, zj f4_6, zj f5_7, zj f6_8, zp f7_9, zp f8_10, zj f9_11, zj f10_12, zj f11_13, zj f12_14, zp f13_15]) ∧ (∃ f0_17 : Nat, ∃ f1_18 : Nat, ∃ f2_19 : Int, w[f1_3]? = some (zob 3 [zp f0_17, zp f1_18, zj f2_19]) ∧ (∃ r_22 : Int, ∃ w_20 : List zE, Zc sc 32 [zp f1_3] w (some (zj r_22)) w_20 0 0 ∧ Zr sc 54 12 [zp a0, zj r_22, zj 300] [] w_20 ov w' c s)))) : Zr sc 54 0 [zp a0, zmk, zmk] [] w ov w' c s := by
  refine Zr_st (q := (1, [zp a0, zmk, zmk], [zp a0])) rfl rfl rfl ?_
  show Zr sc 54 1 [zp a0, zmk, zmk] [zp a0] w ov w' c s
  obtain ⟨f0_2, f1_3, f2_4, f3_5, f4_6, f5_7, f6_8, f7_9, f8_10, f9_11, f10_12, f11_13, f12_14, f13_15, hw_1, h⟩ := h
  refine rl_gf rfl hw_1 rfl rfl ?_
  show Zr sc 54 4 [zp a0, zmk, zmk] [zp f1_3] w ov w' c s
  obtain ⟨f0_17, f1_18, f2_19, hw_16, h⟩ := h
  obtain ⟨r_22, w_20, hk_21, h⟩ := h
  refine rn_cal0 (ins := .invokevirtual 121) (rest := []) rfl rfl rfl rfl (zinv_v (fs := _) hw_16 rfl rfl rfl rfl) rfl rfl hk_21 ?_
  show Zr sc 54 7 [zp a0, zmk, zmk] [zj r_22] w_20 ov w' c s
  refine Zr_st (q := (8, [zp a0, zj r_22, zmk], [])) rfl rfl rfl ?_
  show Zr sc 54 8 [zp a0, zj r_22, zmk] [] w_20 ov w' c s
  refine rl_si rfl (by decide) ?_
  show Zr sc 54 11 [zp a0, zj r_22, zmk] [zj 300] w_20 ov w' c s
  refine Zr_st (q := (12, [zp a0, zj r_22, zj 300], [])) rfl rfl rfl ?_
  show Zr sc 54 12 [zp a0, zj r_22, zj 300] [] w_20 ov w' c s
  exact h
set_option maxRecDepth 100000 in
theorem V54_12_4 {sc : List Value} {w w' : List zE} {ov : Option Value} {c s : Nat} {a0 : Nat} {x1 : Int} {x2 : Int} (h : ((zrg x2 ∧ zrg 1) ∧ ((x2 < 1 → (ov = some (zj 0) ∧ w' = w ∧ c = 0 ∧ s = 0)) ∧ (¬ (x2 < 1) → (∃ f0_3 : Nat, ∃ f1_4 : Nat, ∃ f2_5 : Int, ∃ f3_6 : Int, ∃ f4_7 : Int, ∃ f5_8 : Int, ∃ f6_9 : Int, ∃ f7_10 : Nat, ∃ f8_11 : Nat, ∃ f9_12 : Int, ∃ f10_13 : Int, ∃ f11_14 : Int, ∃ f12_15 : Int, ∃ f13_16 : Nat, w[a0]? = some (zob 4 [zp f0_3, zp f1_4, zj f2_5, zj f3_6, zj f4_7, zj f5_8, zj f6_9, zp f7_10, zp f8_11, zj f9_12, zj f10_13, zj f11_14, zj f12_15, zp f13_16]) ∧ (∃ r_19 : Int, ∃ w_17 : List zE, Zc sc 42 [zp a0, zj x2] w (some (zj r_19)) w_17 0 0 ∧ ((zrg r_19 ∧ zrg x1) ∧ ((x1 < r_19 → Zr sc 54 12 [zp a0, zj x1, zj (x2 + (-1))] [] w_17 ov w' c s) ∧ (¬ (x1 < r_19) → (∃ f0_22 : Nat, ∃ f1_23 : Nat, ∃ f2_24 : Int, ∃ f3_25 : Int, ∃ f4_26 : Int, ∃ f5_27 : Int, ∃ f6_28 : Int, ∃ f7_29 : Nat, ∃ f8_30 : Nat, ∃ f9_31 : Int, ∃ f10_32 : Int, ∃ f11_33 : Int, ∃ f12_34 : Int, ∃ f13_35 : Nat, w_17[a0]? = some (zob 4 [zp f0_22, zp f1_23, zj f2_24, zj f3_25, zj f4_26, zj f5_27, zj f6_28, zp f7_29, zp f8_30, zj f9_31, zj f10_32, zj f11_33, zj f12_34, zp f13_35]) ∧ (∃ r_38 : Int, ∃ w_36 : List zE, Zc sc 38 [zp a0, zj x2] w_17 (some (zj r_38)) w_36 0 0 ∧ ((zrg r_38) ∧ ((r_38 < 0 → Zr sc 54 12 [zp a0, zj x1, zj (x2 + (-1))] [] w_36 ov w' c s) ∧ (¬ (r_38 < 0) → (ov = some (zj x2) ∧ w' = w_36 ∧ c = 0 ∧ s = 0))))))))))))))) : Zr sc 54 12 [zp a0, zj x1, zj x2] [] w ov w' c s := by
  refine Zr_st (q := (13, [zp a0, zj x1, zj x2], [zj x2])) rfl rfl rfl ?_
  show Zr sc 54 13 [zp a0, zj x1, zj x2] [zj x2] w ov w' c s
  refine rl_ic rfl ?_
  show Zr sc 54 14 [zp a0, zj x1, zj x2] [zj 1, zj x2] w ov w' c s
  obtain ⟨hr_1, h⟩ := h
  refine Zr_br (p := x2 < 1) rfl rfl (zcmp_j (cnd := .lt) hr_1.1 hr_1.2) (fun hp => ?_) (fun hp => ?_)
  · replace h := h.1 hp
    show Zr sc 54 42 [zp a0, zj x1, zj x2] [] w ov w' c s
    refine rl_ic rfl ?_
    show Zr sc 54 43 [zp a0, zj x1, zj x2] [zj 0] w ov w' c s
    obtain ⟨h1, h2, h3, h4⟩ := h
    subst h1; subst h2; subst h3; subst h4
    exact Zr_ret (ins := .ireturn) rfl rfl
  · replace h := h.2 hp
    show Zr sc 54 17 [zp a0, zj x1, zj x2] [] w ov w' c s
    refine Zr_st (q := (18, [zp a0, zj x1, zj x2], [zp a0])) rfl rfl rfl ?_
    show Zr sc 54 18 [zp a0, zj x1, zj x2] [zp a0] w ov w' c s
    refine Zr_st (q := (19, [zp a0, zj x1, zj x2], [zj x2, zp a0])) rfl rfl rfl ?_
    show Zr sc 54 19 [zp a0, zj x1, zj x2] [zj x2, zp a0] w ov w' c s
    obtain ⟨f0_3, f1_4, f2_5, f3_6, f4_7, f5_8, f6_9, f7_10, f8_11, f9_12, f10_13, f11_14, f12_15, f13_16, hw_2, h⟩ := h
    obtain ⟨r_19, w_17, hk_18, h⟩ := h
    refine rn_cal0 (ins := .invokevirtual 124) (rest := []) rfl rfl rfl rfl (zinv_v (fs := _) hw_2 rfl rfl rfl rfl) rfl rfl hk_18 ?_
    show Zr sc 54 22 [zp a0, zj x1, zj x2] [zj r_19] w_17 ov w' c s
    refine Zr_st (q := (23, [zp a0, zj x1, zj x2], [zj x1, zj r_19])) rfl rfl rfl ?_
    show Zr sc 54 23 [zp a0, zj x1, zj x2] [zj x1, zj r_19] w_17 ov w' c s
    obtain ⟨hr_20, h⟩ := h
    refine Zr_br (p := x1 < r_19) rfl rfl (zcmp_j (cnd := .gt) hr_20.1 hr_20.2) (fun hp => ?_) (fun hp => ?_)
    · replace h := h.1 hp
      show Zr sc 54 36 [zp a0, zj x1, zj x2] [] w_17 ov w' c s
      refine rl_inc rfl rfl rfl rfl ?_
      show Zr sc 54 39 [zp a0, zj x1, zj (x2 + (-1))] [] w_17 ov w' c s
      refine Zr_st (q := (12, [zp a0, zj x1, zj (x2 + (-1))], [])) rfl rfl rfl ?_
      show Zr sc 54 12 [zp a0, zj x1, zj (x2 + (-1))] [] w_17 ov w' c s
      exact h
    · replace h := h.2 hp
      show Zr sc 54 26 [zp a0, zj x1, zj x2] [] w_17 ov w' c s
      refine Zr_st (q := (27, [zp a0, zj x1, zj x2], [zp a0])) rfl rfl rfl ?_
      show Zr sc 54 27 [zp a0, zj x1, zj x2] [zp a0] w_17 ov w' c s
      refine Zr_st (q := (28, [zp a0, zj x1, zj x2], [zj x2, zp a0])) rfl rfl rfl ?_
      show Zr sc 54 28 [zp a0, zj x1, zj x2] [zj x2, zp a0] w_17 ov w' c s
      obtain ⟨f0_22, f1_23, f2_24, f3_25, f4_26, f5_27, f6_28, f7_29, f8_30, f9_31, f10_32, f11_33, f12_34, f13_35, hw_21, h⟩ := h
      obtain ⟨r_38, w_36, hk_37, h⟩ := h
      refine rn_cal0 (ins := .invokevirtual 133) (rest := []) rfl rfl rfl rfl (zinv_v (fs := _) hw_21 rfl rfl rfl rfl) rfl rfl hk_37 ?_
      show Zr sc 54 31 [zp a0, zj x1, zj x2] [zj r_38] w_36 ov w' c s
      obtain ⟨hr_39, h⟩ := h
      refine Zr_b0 (p := r_38 < 0) rfl rfl (zcmp_0 (cnd := .lt) hr_39) (fun hp => ?_) (fun hp => ?_)
      · replace h := h.1 hp
        show Zr sc 54 36 [zp a0, zj x1, zj x2] [] w_36 ov w' c s
        refine rl_inc rfl rfl rfl rfl ?_
        show Zr sc 54 39 [zp a0, zj x1, zj (x2 + (-1))] [] w_36 ov w' c s
        refine Zr_st (q := (12, [zp a0, zj x1, zj (x2 + (-1))], [])) rfl rfl rfl ?_
        show Zr sc 54 12 [zp a0, zj x1, zj (x2 + (-1))] [] w_36 ov w' c s
        exact h
      · replace h := h.2 hp
        show Zr sc 54 34 [zp a0, zj x1, zj x2] [] w_36 ov w' c s
        refine Zr_st (q := (35, [zp a0, zj x1, zj x2], [zj x2])) rfl rfl rfl ?_
        show Zr sc 54 35 [zp a0, zj x1, zj x2] [zj x2] w_36 ov w' c s
        obtain ⟨h1, h2, h3, h4⟩ := h
        subst h1; subst h2; subst h3; subst h4
        exact Zr_ret (ins := .ireturn) rfl rfl

-- HeapwrightLab.again(II)I
set_option maxRecDepth 100000 in
theorem V55_0 {sc : List Value} {w w' : List zE} {ov : Option Value} {c s : Nat} {a0 : Nat} {x1 : Int} {x2 : Int} (h : (∃ r_3 : Int, ∃ w_1 : List zE, Zc sc 56 [zj x1] w (some (zj r_3)) w_1 0 0 ∧ ((zrg r_3) ∧ ((r_3 ≠ 0 → ((zrg x2) ∧ ((x2 < 0 → False) ∧ (¬ (x2 < 0) → ((zrg x2 ∧ zrg 7) ∧ ((x2 ≤ 7 → (∃ f0_8 : Nat, ∃ f1_9 : Nat, ∃ f2_10 : Nat, ∃ f3_11 : Nat, ∃ f4_12 : Nat, ∃ f5_13 : Nat, ∃ f6_14 : Nat, ∃ f7_15 : Int, w_1[a0]? = some (zob 6 [zp f0_8, zp f1_9, zp f2_10, zp f3_11, zp f4_12, zp f5_13, zp f6_14, zj f7_15]) ∧ (∃ p_18 : Nat, ∃ w_16 : List zE, Zc sc 2 [zp a0, zj x1] w_1 (some (zp p_18)) w_16 0 0 ∧ (∃ f0_20 : Nat, ∃ f1_21 : Nat, ∃ f2_22 : Nat, ∃ f3_23 : Nat, ∃ f4_24 : Nat, ∃ f5_25 : Nat, ∃ f6_26 : Nat, ∃ f7_27 : Int, w_16[a0]? = some (zob 6 [zp f0_20, zp f1_21, zp f2_22, zp f3_23, zp f4_24, zp f5_25, zp f6_26, zj f7_27]) ∧ (∃ cn_28 : Nat, ∃ fs_29 : List Value, w_16[p_18]? = some (zob cn_28 fs_29) ∧ (cn_28 = 1 ∨ cn_28 = 2 ∨ cn_28 = 4) ∧ (∃ p_36 : Nat, ∃ w_34 : List zE, Zc sc 57 [zp p_18, zp f0_20] w_16 (some (zp p_36)) w_34 0 0 ∧ (∃ cn_37 : Nat, ∃ fs_38 : List Value, w_34[p_36]? = some (zob cn_37 fs_38) ∧ (cn_37 = 1 ∨ cn_37 = 2 ∨ cn_37 = 4) ∧ (∃ r_45 : Int, ∃ w_43 : List zE, Zc sc 34 [zp p_36, zj x2] w_34 (some (zj r_45)) w_43 0 0 ∧ (ov = some (zj r_45) ∧ w' = w_43 ∧ c = 0 ∧ s = 0))))))))) ∧ (¬ (x2 ≤ 7) → False))))))) ∧ (¬ (r_3 ≠ 0) → False))))) : Zr sc 55 0 [zp a0, zj x1, zj x2] [] w ov w' c s := by
  refine Zr_st (q := (1, [zp a0, zj x1, zj x2], [zj x1])) rfl rfl rfl ?_
  show Zr sc 55 1 [zp a0, zj x1, zj x2] [zj x1] w ov w' c s
  obtain ⟨r_3, w_1, hk_2, h⟩ := h
  refine rn_cal0 (ins := .invokestatic 52) (rest := []) rfl rfl rfl rfl (zinv_t rfl rfl rfl rfl) rfl rfl hk_2 ?_
  show Zr sc 55 4 [zp a0, zj x1, zj x2] [zj r_3] w_1 ov w' c s
  obtain ⟨hr_4, h⟩ := h
  refine Zr_b0 (p := r_3 ≠ 0) rfl rfl (zcmp_0 (cnd := .ne) hr_4) (fun hp => ?_) (fun hp => ?_)
  · replace h := h.1 hp
    show Zr sc 55 17 [zp a0, zj x1, zj x2] [] w_1 ov w' c s
    refine Zr_st (q := (18, [zp a0, zj x1, zj x2], [zj x2])) rfl rfl rfl ?_
    show Zr sc 55 18 [zp a0, zj x1, zj x2] [zj x2] w_1 ov w' c s
    obtain ⟨hr_5, h⟩ := h
    refine Zr_b0 (p := x2 < 0) rfl rfl (zcmp_0 (cnd := .lt) hr_5) (fun hp => ?_) (fun hp => ?_)
    · replace h := h.1 hp
      show Zr sc 55 27 [zp a0, zj x1, zj x2] [] w_1 ov w' c s
      exact h.elim
    · replace h := h.2 hp
      show Zr sc 55 21 [zp a0, zj x1, zj x2] [] w_1 ov w' c s
      refine Zr_st (q := (22, [zp a0, zj x1, zj x2], [zj x2])) rfl rfl rfl ?_
      show Zr sc 55 22 [zp a0, zj x1, zj x2] [zj x2] w_1 ov w' c s
      refine rl_bi rfl (by decide) ?_
      show Zr sc 55 24 [zp a0, zj x1, zj x2] [zj 7, zj x2] w_1 ov w' c s
      obtain ⟨hr_6, h⟩ := h
      refine Zr_br (p := x2 ≤ 7) rfl rfl (zcmp_j (cnd := .le) hr_6.1 hr_6.2) (fun hp => ?_) (fun hp => ?_)
      · replace h := h.1 hp
        show Zr sc 55 37 [zp a0, zj x1, zj x2] [] w_1 ov w' c s
        refine Zr_st (q := (38, [zp a0, zj x1, zj x2], [zp a0])) rfl rfl rfl ?_
        show Zr sc 55 38 [zp a0, zj x1, zj x2] [zp a0] w_1 ov w' c s
        refine Zr_st (q := (39, [zp a0, zj x1, zj x2], [zj x1, zp a0])) rfl rfl rfl ?_
        show Zr sc 55 39 [zp a0, zj x1, zj x2] [zj x1, zp a0] w_1 ov w' c s
        obtain ⟨f0_8, f1_9, f2_10, f3_11, f4_12, f5_13, f6_14, f7_15, hw_7, h⟩ := h
        obtain ⟨p_18, w_16, hk_17, h⟩ := h
        refine rn_cal0 (ins := .invokevirtual 70) (rest := []) rfl rfl rfl rfl (zinv_v (fs := _) hw_7 rfl rfl rfl rfl) rfl rfl hk_17 ?_
        show Zr sc 55 42 [zp a0, zj x1, zj x2] [zp p_18] w_16 ov w' c s
        refine Zr_st (q := (43, [zp a0, zj x1, zj x2], [zp a0, zp p_18])) rfl rfl rfl ?_
        show Zr sc 55 43 [zp a0, zj x1, zj x2] [zp a0, zp p_18] w_16 ov w' c s
        obtain ⟨f0_20, f1_21, f2_22, f3_23, f4_24, f5_25, f6_26, f7_27, hw_19, h⟩ := h
        refine rl_gf rfl hw_19 rfl rfl ?_
        show Zr sc 55 46 [zp a0, zj x1, zj x2] [zp f0_20, zp p_18] w_16 ov w' c s
        obtain ⟨cn_28, fs_29, hw_30, hcn_31, h⟩ := h
        have hz_32 : ∃ kd, zinv 55 (.invokevirtual 103) [zp f0_20, zp p_18] (false, w_16) = some (kd, 57, [zp p_18, zp f0_20], []) ∧ decide (kd < 6) = true := by rcases hcn_31 with rfl | rfl | rfl <;> exact zinv_u hw_30 rfl rfl rfl rfl rfl rfl rfl
        obtain ⟨kd_33, hz_32⟩ := hz_32
        obtain ⟨p_36, w_34, hk_35, h⟩ := h
        refine rn_cal0 (ins := .invokevirtual 103) (rest := []) rfl rfl rfl rfl hz_32.1 rfl hz_32.2 hk_35 ?_
        show Zr sc 55 49 [zp a0, zj x1, zj x2] [zp p_36] w_34 ov w' c s
        refine Zr_st (q := (50, [zp a0, zj x1, zj x2], [zj x2, zp p_36])) rfl rfl rfl ?_
        show Zr sc 55 50 [zp a0, zj x1, zj x2] [zj x2, zp p_36] w_34 ov w' c s
        obtain ⟨cn_37, fs_38, hw_39, hcn_40, h⟩ := h
        have hz_41 : ∃ kd, zinv 55 (.invokevirtual 128) [zj x2, zp p_36] (false, w_34) = some (kd, 34, [zp p_36, zj x2], []) ∧ decide (kd < 6) = true := by rcases hcn_40 with rfl | rfl | rfl <;> exact zinv_u hw_39 rfl rfl rfl rfl rfl rfl rfl
        obtain ⟨kd_42, hz_41⟩ := hz_41
        obtain ⟨r_45, w_43, hk_44, h⟩ := h
        refine rn_cal0 (ins := .invokevirtual 128) (rest := []) rfl rfl rfl rfl hz_41.1 rfl hz_41.2 hk_44 ?_
        show Zr sc 55 53 [zp a0, zj x1, zj x2] [zj r_45] w_43 ov w' c s
        obtain ⟨h1, h2, h3, h4⟩ := h
        subst h1; subst h2; subst h3; subst h4
        exact Zr_ret (ins := .ireturn) rfl rfl
      · replace h := h.2 hp
        show Zr sc 55 27 [zp a0, zj x1, zj x2] [] w_1 ov w' c s
        exact h.elim
  · replace h := h.2 hp
    show Zr sc 55 7 [zp a0, zj x1, zj x2] [] w_1 ov w' c s
    exact h.elim

-- HeapwrightLab.isWay(I)Z
set_option maxRecDepth 100000 in
theorem V56_0 {sc : List Value} {w w' : List zE} {ov : Option Value} {c s : Nat} {x0 : Int} (h : ((zrg x0) ∧ ((x0 < 0 → (ov = some (zj 0) ∧ w' = w ∧ c = 0 ∧ s = 0)) ∧ (¬ (x0 < 0) → ((zrg x0 ∧ zrg 6) ∧ ((6 ≤ x0 → (ov = some (zj 0) ∧ w' = w ∧ c = 0 ∧ s = 0)) ∧ (¬ (6 ≤ x0) → (ov = some (zj 1) ∧ w' = w ∧ c = 0 ∧ s = 0)))))))) : Zr sc 56 0 [zj x0] [] w ov w' c s := by
  refine Zr_st (q := (1, [zj x0], [zj x0])) rfl rfl rfl ?_
  show Zr sc 56 1 [zj x0] [zj x0] w ov w' c s
  obtain ⟨hr_1, h⟩ := h
  refine Zr_b0 (p := x0 < 0) rfl rfl (zcmp_0 (cnd := .lt) hr_1) (fun hp => ?_) (fun hp => ?_)
  · replace h := h.1 hp
    show Zr sc 56 14 [zj x0] [] w ov w' c s
    refine rl_ic rfl ?_
    show Zr sc 56 15 [zj x0] [zj 0] w ov w' c s
    obtain ⟨h1, h2, h3, h4⟩ := h
    subst h1; subst h2; subst h3; subst h4
    exact Zr_ret (ins := .ireturn) rfl rfl
  · replace h := h.2 hp
    show Zr sc 56 4 [zj x0] [] w ov w' c s
    refine Zr_st (q := (5, [zj x0], [zj x0])) rfl rfl rfl ?_
    show Zr sc 56 5 [zj x0] [zj x0] w ov w' c s
    refine rl_bi rfl (by decide) ?_
    show Zr sc 56 7 [zj x0] [zj 6, zj x0] w ov w' c s
    obtain ⟨hr_2, h⟩ := h
    refine Zr_br (p := 6 ≤ x0) rfl rfl (zcmp_j (cnd := .ge) hr_2.1 hr_2.2) (fun hp => ?_) (fun hp => ?_)
    · replace h := h.1 hp
      show Zr sc 56 14 [zj x0] [] w ov w' c s
      refine rl_ic rfl ?_
      show Zr sc 56 15 [zj x0] [zj 0] w ov w' c s
      obtain ⟨h1, h2, h3, h4⟩ := h
      subst h1; subst h2; subst h3; subst h4
      exact Zr_ret (ins := .ireturn) rfl rfl
    · replace h := h.2 hp
      show Zr sc 56 10 [zj x0] [] w ov w' c s
      refine rl_ic rfl ?_
      show Zr sc 56 11 [zj x0] [zj 1] w ov w' c s
      refine Zr_st (q := (15, [zj x0], [zj 1])) rfl rfl rfl ?_
      show Zr sc 56 15 [zj x0] [zj 1] w ov w' c s
      obtain ⟨h1, h2, h3, h4⟩ := h
      subst h1; subst h2; subst h3; subst h4
      exact Zr_ret (ins := .ireturn) rfl rfl

-- HeapwrightLab$Memory.follow(LHeapwrightLab$Trace;)LHeapwrightLab$Memory;
set_option maxRecDepth 100000 in
theorem V57_0_1 {sc : List Value} {w w' : List zE} {ov : Option Value} {c s : Nat} {a0 : Nat} {a1 : Nat} (h : (∃ f0_2 : Nat, ∃ f1_3 : Nat, ∃ f2_4 : Int, ∃ f3_5 : Int, ∃ f4_6 : Int, ∃ f5_7 : Int, ∃ f6_8 : Int, ∃ f7_9 : Nat, ∃ f8_10 : Nat, ∃ f9_11 : Int, ∃ f10_12 : Int, ∃ f11_13 : Int, ∃ f12_14 : Int, w[a0]? = some (zob 1 [zp f0_2, zp f1_3, zj f2_4, zj f3_5, zj f4_6, zj f5_7, zj f6_8, zp f7_9, zp f8_10, zj f9_11, zj f10_12, zj f11_13, zj f12_14]) ∧ Zr sc 57 5 [zp a0, zp a1, zj f12_14] [] w ov w' c s)) : Zr sc 57 0 [zp a0, zp a1, zmk] [] w ov w' c s := by
  refine Zr_st (q := (1, [zp a0, zp a1, zmk], [zp a0])) rfl rfl rfl ?_
  show Zr sc 57 1 [zp a0, zp a1, zmk] [zp a0] w ov w' c s
  obtain ⟨f0_2, f1_3, f2_4, f3_5, f4_6, f5_7, f6_8, f7_9, f8_10, f9_11, f10_12, f11_13, f12_14, hw_1, h⟩ := h
  refine rl_gf rfl hw_1 rfl rfl ?_
  show Zr sc 57 4 [zp a0, zp a1, zmk] [zj f12_14] w ov w' c s
  refine Zr_st (q := (5, [zp a0, zp a1, zj f12_14], [])) rfl rfl rfl ?_
  show Zr sc 57 5 [zp a0, zp a1, zj f12_14] [] w ov w' c s
  exact h
set_option maxRecDepth 100000 in
theorem V57_5_1 {sc : List Value} {w w' : List zE} {ov : Option Value} {c s : Nat} {a0 : Nat} {a1 : Nat} {x2 : Int} (h : (∃ f0_2 : Nat, ∃ f1_3 : Nat, ∃ f2_4 : Nat, ∃ f3_5 : Int, w[a1]? = some (zob 5 [zp f0_2, zp f1_3, zp f2_4, zj f3_5]) ∧ (∃ r_8 : Int, ∃ w_6 : List zE, Zc sc 58 [zp a1] w (some (zj r_8)) w_6 0 0 ∧ ((zrg x2 ∧ zrg r_8) ∧ ((r_8 ≤ x2 → (∃ f0_11 : Nat, ∃ f1_12 : Nat, ∃ f2_13 : Nat, ∃ f3_14 : Int, w_6[a1]? = some (zob 5 [zp f0_11, zp f1_12, zp f2_13, zj f3_14]) ∧ (∃ r_17 : Int, ∃ w_15 : List zE, Zc sc 58 [zp a1] w_6 (some (zj r_17)) w_15 0 0 ∧ (∃ f0_19 : Nat, ∃ f1_20 : Nat, ∃ f2_21 : Int, ∃ f3_22 : Int, ∃ f4_23 : Int, ∃ f5_24 : Int, ∃ f6_25 : Int, ∃ f7_26 : Nat, ∃ f8_27 : Nat, ∃ f9_28 : Int, ∃ f10_29 : Int, ∃ f11_30 : Int, ∃ f12_31 : Int, w_15[a0]? = some (zob 1 [zp f0_19, zp f1_20, zj f2_21, zj f3_22, zj f4_23, zj f5_24, zj f6_25, zp f7_26, zp f8_27, zj f9_28, zj f10_29, zj f11_30, zj f12_31]) ∧ (ov = some (zp a0) ∧ w' = (w_15.set a0 (zob 1 [zp f0_19, zp f1_20, zj f2_21, zj f3_22, zj f4_23, zj f5_24, zj f6_25, zp f7_26, zp f8_27, zj f9_28, zj f10_29, zj f11_30, zj r_17])) ∧ c = 0 ∧ s = 0))))) ∧ (¬ (r_8 ≤ x2) → (∃ f0_33 : Nat, ∃ f1_34 : Nat, ∃ f2_35 : Nat, ∃ f3_36 : Int, w_6[a1]? = some (zob 5 [zp f0_33, zp f1_34, zp f2_35, zj f3_36]) ∧ (∃ r_39 : Int, ∃ w_37 : List zE, Zc sc 59 [zp a1, zj x2] w_6 (some (zj r_39)) w_37 0 0 ∧ ((zrg r_39) ∧ (((r_39 < 0 ∨ 5 < r_39) → (∃ f0_42 : Nat, ∃ f1_43 : Nat, ∃ f2_44 : Int, ∃ f3_45 : Int, ∃ f4_46 : Int, ∃ f5_47 : Int, ∃ f6_48 : Int, ∃ f7_49 : Nat, ∃ f8_50 : Nat, ∃ f9_51 : Int, ∃ f10_52 : Int, ∃ f11_53 : Int, ∃ f12_54 : Int, w_37[a0]? = some (zob 1 [zp f0_42, zp f1_43, zj f2_44, zj f3_45, zj f4_46, zj f5_47, zj f6_48, zp f7_49, zp f8_50, zj f9_51, zj f10_52, zj f11_53, zj f12_54]) ∧ (∃ f0_56 : Nat, ∃ f1_57 : Nat, ∃ f2_58 : Nat, ∃ f3_59 : Nat, ∃ f4_60 : Int, ∃ f5_61 : Int, w_37[f0_42]? = some (zob 0 [zp f0_56, zp f1_57, zp f2_58, zp f3_59, zj f4_60, zj f5_61]) ∧ (∃ r_64 : Int, ∃ w_62 : List zE, Zc sc 28 [zp f0_42] w_37 (some (zj r_64)) w_62 0 0 ∧ ((zrg f11_53 ∧ zrg r_64) ∧ (∃ f0_67 : Nat, ∃ f1_68 : Nat, ∃ f2_69 : Int, ∃ f3_70 : Int, ∃ f4_71 : Int, ∃ f5_72 : Int, ∃ f6_73 : Int, ∃ f7_74 : Nat, ∃ f8_75 : Nat, ∃ f9_76 : Int, ∃ f10_77 : Int, ∃ f11_78 : Int, ∃ f12_79 : Int, w_62[a0]? = some (zob 1 [zp f0_67, zp f1_68, zj f2_69, zj f3_70, zj f4_71, zj f5_72, zj f6_73, zp f7_74, zp f8_75, zj f9_76, zj f10_77, zj f11_78, zj f12_79]) ∧ Zr sc 57 5 [zp a0, zp a1, zj (x2 + 1)] [] (w_62.set a0 (zob 1 [zp f0_67, zp f1_68, zj f2_69, zj f3_70, zj f4_71, zj f5_72, zj f6_73, zp f7_74, zp f8_75, zj f9_76, zj f10_77, zj (max f11_53 r_64), zj f12_79])) ov w' c s)))))) ∧ (r_39 = 0 → (∃ f0_81 : Nat, ∃ f1_82 : Nat, ∃ f2_83 : Nat, ∃ f3_84 : Int, w_37[a1]? = some (zob 5 [zp f0_81, zp f1_82, zp f2_83, zj f3_84]) ∧ (∃ r_87 : Int, ∃ w_85 : List zE, Zc sc 61 [zp a1, zj x2] w_37 (some (zj r_87)) w_85 0 0 ∧ (∃ f0_89 : Nat, ∃ f1_90 : Nat, ∃ f2_91 : Int, ∃ f3_92 : Int, ∃ f4_93 : Int, ∃ f5_94 : Int, ∃ f6_95 : Int, ∃ f7_96 : Nat, ∃ f8_97 : Nat, ∃ f9_98 : Int, ∃ f10_99 : Int, ∃ f11_100 : Int, ∃ f12_101 : Int, w_85[a0]? = some (zob 1 [zp f0_89, zp f1_90, zj f2_91, zj f3_92, zj f4_93, zj f5_94, zj f6_95, zp f7_96, zp f8_97, zj f9_98, zj f10_99, zj f11_100, zj f12_101]) ∧ (∃ w_102 : List zE, Zc sc 62 [zp a0, zj r_87] w_85 none w_102 0 0 ∧ (∃ f0_105 : Nat, ∃ f1_106 : Nat, ∃ f2_107 : Int, ∃ f3_108 : Int, ∃ f4_109 : Int, ∃ f5_110 : Int, ∃ f6_111 : Int, ∃ f7_112 : Nat, ∃ f8_113 : Nat, ∃ f9_114 : Int, ∃ f10_115 : Int, ∃ f11_116 : Int, ∃ f12_117 : Int, w_102[a0]? = some (zob 1 [zp f0_105, zp f1_106, zj f2_107, zj f3_108, zj f4_109, zj f5_110, zj f6_111, zp f7_112, zp f8_113, zj f9_114, zj f10_115, zj f11_116, zj f12_117]) ∧ (∃ f0_119 : Nat, ∃ f1_120 : Nat, ∃ f2_121 : Nat, ∃ f3_122 : Nat, ∃ f4_123 : Int, ∃ f5_124 : Int, w_102[f0_105]? = some (zob 0 [zp f0_119, zp f1_120, zp f2_121, zp f3_122, zj f4_123, zj f5_124]) ∧ (∃ r_127 : Int, ∃ w_125 : List zE, Zc sc 28 [zp f0_105] w_102 (some (zj r_127)) w_125 0 0 ∧ ((zrg f11_116 ∧ zrg r_127) ∧ (∃ f0_130 : Nat, ∃ f1_131 : Nat, ∃ f2_132 : Int, ∃ f3_133 : Int, ∃ f4_134 : Int, ∃ f5_135 : Int, ∃ f6_136 : Int, ∃ f7_137 : Nat, ∃ f8_138 : Nat, ∃ f9_139 : Int, ∃ f10_140 : Int, ∃ f11_141 : Int, ∃ f12_142 : Int, w_125[a0]? = some (zob 1 [zp f0_130, zp f1_131, zj f2_132, zj f3_133, zj f4_134, zj f5_135, zj f6_136, zp f7_137, zp f8_138, zj f9_139, zj f10_140, zj f11_141, zj f12_142]) ∧ Zr sc 57 5 [zp a0, zp a1, zj (x2 + 1)] [] (w_125.set a0 (zob 1 [zp f0_130, zp f1_131, zj f2_132, zj f3_133, zj f4_134, zj f5_135, zj f6_136, zp f7_137, zp f8_138, zj f9_139, zj f10_140, zj (max f11_116 r_127), zj f12_142])) ov w' c s)))))))))) ∧ (r_39 = 1 → (∃ f0_144 : Nat, ∃ f1_145 : Nat, ∃ f2_146 : Nat, ∃ f3_147 : Int, w_37[a1]? = some (zob 5 [zp f0_144, zp f1_145, zp f2_146, zj f3_147]) ∧ (∃ r_150 : Int, ∃ w_148 : List zE, Zc sc 82 [zp a1, zj x2] w_37 (some (zj r_150)) w_148 0 0 ∧ (∃ f0_152 : Nat, ∃ f1_153 : Nat, ∃ f2_154 : Int, ∃ f3_155 : Int, ∃ f4_156 : Int, ∃ f5_157 : Int, ∃ f6_158 : Int, ∃ f7_159 : Nat, ∃ f8_160 : Nat, ∃ f9_161 : Int, ∃ f10_162 : Int, ∃ f11_163 : Int, ∃ f12_164 : Int, w_148[a0]? = some (zob 1 [zp f0_152, zp f1_153, zj f2_154, zj f3_155, zj f4_156, zj f5_157, zj f6_158, zp f7_159, zp f8_160, zj f9_161, zj f10_162, zj f11_163, zj f12_164]) ∧ (∃ w_165 : List zE, Zc sc 83 [zp a0, zj r_150] w_148 none w_165 0 0 ∧ (∃ f0_168 : Nat, ∃ f1_169 : Nat, ∃ f2_170 : Int, ∃ f3_171 : Int, ∃ f4_172 : Int, ∃ f5_173 : Int, ∃ f6_174 : Int, ∃ f7_175 : Nat, ∃ f8_176 : Nat, ∃ f9_177 : Int, ∃ f10_178 : Int, ∃ f11_179 : Int, ∃ f12_180 : Int, w_165[a0]? = some (zob 1 [zp f0_168, zp f1_169, zj f2_170, zj f3_171, zj f4_172, zj f5_173, zj f6_174, zp f7_175, zp f8_176, zj f9_177, zj f10_178, zj f11_179, zj f12_180]) ∧ (∃ f0_182 : Nat, ∃ f1_183 : Nat, ∃ f2_184 : Nat, ∃ f3_185 : Nat, ∃ f4_186 : Int, ∃ f5_187 : Int, w_165[f0_168]? = some (zob 0 [zp f0_182, zp f1_183, zp f2_184, zp f3_185, zj f4_186, zj f5_187]) ∧ (∃ r_190 : Int, ∃ w_188 : List zE, Zc sc 28 [zp f0_168] w_165 (some (zj r_190)) w_188 0 0 ∧ ((zrg f11_179 ∧ zrg r_190) ∧ (∃ f0_193 : Nat, ∃ f1_194 : Nat, ∃ f2_195 : Int, ∃ f3_196 : Int, ∃ f4_197 : Int, ∃ f5_198 : Int, ∃ f6_199 : Int, ∃ f7_200 : Nat, ∃ f8_201 : Nat, ∃ f9_202 : Int, ∃ f10_203 : Int, ∃ f11_204 : Int, ∃ f12_205 : Int, w_188[a0]? = some (zob 1 [zp f0_193, zp f1_194, zj f2_195, zj f3_196, zj f4_197, zj f5_198, zj f6_199, zp f7_200, zp f8_201, zj f9_202, zj f10_203, zj f11_204, zj f12_205]) ∧ Zr sc 57 5 [zp a0, zp a1, zj (x2 + 1)] [] (w_188.set a0 (zob 1 [zp f0_193, zp f1_194, zj f2_195, zj f3_196, zj f4_197, zj f5_198, zj f6_199, zp f7_200, zp f8_201, zj f9_202, zj f10_203, zj (max f11_179 r_190), zj f12_205])) ov w' c s)))))))))) ∧ (r_39 = 2 → (∃ f0_207 : Nat, ∃ f1_208 : Nat, ∃ f2_209 : Nat, ∃ f3_210 : Int, w_37[a1]? = some (zob 5 [zp f0_207, zp f1_208, zp f2_209, zj f3_210]) ∧ (∃ r_213 : Int, ∃ w_211 : List zE, Zc sc 82 [zp a1, zj x2] w_37 (some (zj r_213)) w_211 0 0 ∧ (∃ f0_215 : Nat, ∃ f1_216 : Nat, ∃ f2_217 : Nat, ∃ f3_218 : Int, w_211[a1]? = some (zob 5 [zp f0_215, zp f1_216, zp f2_217, zj f3_218]) ∧ (∃ r_221 : Int, ∃ w_219 : List zE, Zc sc 61 [zp a1, zj x2] w_211 (some (zj r_221)) w_219 0 0 ∧ (∃ f0_223 : Nat, ∃ f1_224 : Nat, ∃ f2_225 : Int, ∃ f3_226 : Int, ∃ f4_227 : Int, ∃ f5_228 : Int, ∃ f6_229 : Int, ∃ f7_230 : Nat, ∃ f8_231 : Nat, ∃ f9_232 : Int, ∃ f10_233 : Int, ∃ f11_234 : Int, ∃ f12_235 : Int, w_219[a0]? = some (zob 1 [zp f0_223, zp f1_224, zj f2_225, zj f3_226, zj f4_227, zj f5_228, zj f6_229, zp f7_230, zp f8_231, zj f9_232, zj f10_233, zj f11_234, zj f12_235]) ∧ (∃ w_236 : List zE, Zc sc 88 [zp a0, zj r_213, zj r_221] w_219 none w_236 0 0 ∧ (∃ f0_239 : Nat, ∃ f1_240 : Nat, ∃ f2_241 : Int, ∃ f3_242 : Int, ∃ f4_243 : Int, ∃ f5_244 : Int, ∃ f6_245 : Int, ∃ f7_246 : Nat, ∃ f8_247 : Nat, ∃ f9_248 : Int, ∃ f10_249 : Int, ∃ f11_250 : Int, ∃ f12_251 : Int, w_236[a0]? = some (zob 1 [zp f0_239, zp f1_240, zj f2_241, zj f3_242, zj f4_243, zj f5_244, zj f6_245, zp f7_246, zp f8_247, zj f9_248, zj f10_249, zj f11_250, zj f12_251]) ∧ (∃ f0_253 : Nat, ∃ f1_254 : Nat, ∃ f2_255 : Nat, ∃ f3_256 : Nat, ∃ f4_257 : Int, ∃ f5_258 : Int, w_236[f0_239]? = some (zob 0 [zp f0_253, zp f1_254, zp f2_255, zp f3_256, zj f4_257, zj f5_258]) ∧ (∃ r_261 : Int, ∃ w_259 : List zE, Zc sc 28 [zp f0_239] w_236 (some (zj r_261)) w_259 0 0 ∧ ((zrg f11_250 ∧ zrg r_261) ∧ (∃ f0_264 : Nat, ∃ f1_265 : Nat, ∃ f2_266 : Int, ∃ f3_267 : Int, ∃ f4_268 : Int, ∃ f5_269 : Int, ∃ f6_270 : Int, ∃ f7_271 : Nat, ∃ f8_272 : Nat, ∃ f9_273 : Int, ∃ f10_274 : Int, ∃ f11_275 : Int, ∃ f12_276 : Int, w_259[a0]? = some (zob 1 [zp f0_264, zp f1_265, zj f2_266, zj f3_267, zj f4_268, zj f5_269, zj f6_270, zp f7_271, zp f8_272, zj f9_273, zj f10_274, zj f11_275, zj f12_276]) ∧ Zr sc 57 5 [zp a0, zp a1, zj (x2 + 1)] [] (w_259.set a0 (zob 1 [zp f0_264, zp f1_265, zj f2_266, zj f3_267, zj f4_268, zj f5_269, zj f6_270, zp f7_271, zp f8_272, zj f9_273, zj f10_274, zj (max f11_250 r_261), zj f12_276])) ov w' c s)))))))))))) ∧ (r_39 = 3 → (∃ f0_278 : Nat, ∃ f1_279 : Nat, ∃ f2_280 : Int, ∃ f3_281 : Int, ∃ f4_282 : Int, ∃ f5_283 : Int, ∃ f6_284 : Int, ∃ f7_285 : Nat, ∃ f8_286 : Nat, ∃ f9_287 : Int, ∃ f10_288 : Int, ∃ f11_289 : Int, ∃ f12_290 : Int, w_37[a0]? = some (zob 1 [zp f0_278, zp f1_279, zj f2_280, zj f3_281, zj f4_282, zj f5_283, zj f6_284, zp f7_285, zp f8_286, zj f9_287, zj f10_288, zj f11_289, zj f12_290]) ∧ (∃ w_291 : List zE, Zc sc 96 [zp a0] w_37 none w_291 0 0 ∧ (∃ f0_294 : Nat, ∃ f1_295 : Nat, ∃ f2_296 : Int, ∃ f3_297 : Int, ∃ f4_298 : Int, ∃ f5_299 : Int, ∃ f6_300 : Int, ∃ f7_301 : Nat, ∃ f8_302 : Nat, ∃ f9_303 : Int, ∃ f10_304 : Int, ∃ f11_305 : Int, ∃ f12_306 : Int, w_291[a0]? = some (zob 1 [zp f0_294, zp f1_295, zj f2_296, zj f3_297, zj f4_298, zj f5_299, zj f6_300, zp f7_301, zp f8_302, zj f9_303, zj f10_304, zj f11_305, zj f12_306]) ∧ (∃ f0_308 : Nat, ∃ f1_309 : Nat, ∃ f2_310 : Nat, ∃ f3_311 : Nat, ∃ f4_312 : Int, ∃ f5_313 : Int, w_291[f0_294]? = some (zob 0 [zp f0_308, zp f1_309, zp f2_310, zp f3_311, zj f4_312, zj f5_313]) ∧ (∃ r_316 : Int, ∃ w_314 : List zE, Zc sc 28 [zp f0_294] w_291 (some (zj r_316)) w_314 0 0 ∧ ((zrg f11_305 ∧ zrg r_316) ∧ (∃ f0_319 : Nat, ∃ f1_320 : Nat, ∃ f2_321 : Int, ∃ f3_322 : Int, ∃ f4_323 : Int, ∃ f5_324 : Int, ∃ f6_325 : Int, ∃ f7_326 : Nat, ∃ f8_327 : Nat, ∃ f9_328 : Int, ∃ f10_329 : Int, ∃ f11_330 : Int, ∃ f12_331 : Int, w_314[a0]? = some (zob 1 [zp f0_319, zp f1_320, zj f2_321, zj f3_322, zj f4_323, zj f5_324, zj f6_325, zp f7_326, zp f8_327, zj f9_328, zj f10_329, zj f11_330, zj f12_331]) ∧ Zr sc 57 5 [zp a0, zp a1, zj (x2 + 1)] [] (w_314.set a0 (zob 1 [zp f0_319, zp f1_320, zj f2_321, zj f3_322, zj f4_323, zj f5_324, zj f6_325, zp f7_326, zp f8_327, zj f9_328, zj f10_329, zj (max f11_305 r_316), zj f12_331])) ov w' c s)))))))) ∧ (r_39 = 4 → (∃ f0_333 : Nat, ∃ f1_334 : Nat, ∃ f2_335 : Int, ∃ f3_336 : Int, ∃ f4_337 : Int, ∃ f5_338 : Int, ∃ f6_339 : Int, ∃ f7_340 : Nat, ∃ f8_341 : Nat, ∃ f9_342 : Int, ∃ f10_343 : Int, ∃ f11_344 : Int, ∃ f12_345 : Int, w_37[a0]? = some (zob 1 [zp f0_333, zp f1_334, zj f2_335, zj f3_336, zj f4_337, zj f5_338, zj f6_339, zp f7_340, zp f8_341, zj f9_342, zj f10_343, zj f11_344, zj f12_345]) ∧ ((a0 ≠ f0_333) ∧ (∃ f0_348 : Nat, ∃ f1_349 : Nat, ∃ f2_350 : Nat, ∃ f3_351 : Nat, ∃ f4_352 : Int, ∃ f5_353 : Int, w_37[f0_333]? = some (zob 0 [zp f0_348, zp f1_349, zp f2_350, zp f3_351, zj f4_352, zj f5_353]) ∧ (∃ r_356 : Int, ∃ w_354 : List zE, Zc sc 28 [zp f0_333] (w_37.set a0 (zob 1 [zp f0_333, zp f1_334, zj f2_335, zj f3_336, zj f4_337, zj f5_338, zj f6_339, zp f7_340, zp f8_341, zj f9_342, zj (f10_343 + 1), zj f11_344, zj f12_345])) (some (zj r_356)) w_354 0 0 ∧ ((zrg f11_344 ∧ zrg r_356) ∧ (∃ f0_359 : Nat, ∃ f1_360 : Nat, ∃ f2_361 : Int, ∃ f3_362 : Int, ∃ f4_363 : Int, ∃ f5_364 : Int, ∃ f6_365 : Int, ∃ f7_366 : Nat, ∃ f8_367 : Nat, ∃ f9_368 : Int, ∃ f10_369 : Int, ∃ f11_370 : Int, ∃ f12_371 : Int, w_354[a0]? = some (zob 1 [zp f0_359, zp f1_360, zj f2_361, zj f3_362, zj f4_363, zj f5_364, zj f6_365, zp f7_366, zp f8_367, zj f9_368, zj f10_369, zj f11_370, zj f12_371]) ∧ Zr sc 57 5 [zp a0, zp a1, zj (x2 + 1)] [] (w_354.set a0 (zob 1 [zp f0_359, zp f1_360, zj f2_361, zj f3_362, zj f4_363, zj f5_364, zj f6_365, zp f7_366, zp f8_367, zj f9_368, zj f10_369, zj (max f11_344 r_356), zj f12_371])) ov w' c s))))))) ∧ (r_39 = 5 → (∃ f0_373 : Nat, ∃ f1_374 : Nat, ∃ f2_375 : Int, ∃ f3_376 : Int, ∃ f4_377 : Int, ∃ f5_378 : Int, ∃ f6_379 : Int, ∃ f7_380 : Nat, ∃ f8_381 : Nat, ∃ f9_382 : Int, ∃ f10_383 : Int, ∃ f11_384 : Int, ∃ f12_385 : Int, w_37[a0]? = some (zob 1 [zp f0_373, zp f1_374, zj f2_375, zj f3_376, zj f4_377, zj f5_378, zj f6_379, zp f7_380, zp f8_381, zj f9_382, zj f10_383, zj f11_384, zj f12_385]) ∧ (∃ w_386 : List zE, Zc sc 97 [zp a0] w_37 none w_386 0 0 ∧ (∃ f0_389 : Nat, ∃ f1_390 : Nat, ∃ f2_391 : Int, ∃ f3_392 : Int, ∃ f4_393 : Int, ∃ f5_394 : Int, ∃ f6_395 : Int, ∃ f7_396 : Nat, ∃ f8_397 : Nat, ∃ f9_398 : Int, ∃ f10_399 : Int, ∃ f11_400 : Int, ∃ f12_401 : Int, w_386[a0]? = some (zob 1 [zp f0_389, zp f1_390, zj f2_391, zj f3_392, zj f4_393, zj f5_394, zj f6_395, zp f7_396, zp f8_397, zj f9_398, zj f10_399, zj f11_400, zj f12_401]) ∧ (∃ f0_403 : Nat, ∃ f1_404 : Nat, ∃ f2_405 : Nat, ∃ f3_406 : Nat, ∃ f4_407 : Int, ∃ f5_408 : Int, w_386[f0_389]? = some (zob 0 [zp f0_403, zp f1_404, zp f2_405, zp f3_406, zj f4_407, zj f5_408]) ∧ (∃ r_411 : Int, ∃ w_409 : List zE, Zc sc 28 [zp f0_389] w_386 (some (zj r_411)) w_409 0 0 ∧ ((zrg f11_400 ∧ zrg r_411) ∧ (∃ f0_414 : Nat, ∃ f1_415 : Nat, ∃ f2_416 : Int, ∃ f3_417 : Int, ∃ f4_418 : Int, ∃ f5_419 : Int, ∃ f6_420 : Int, ∃ f7_421 : Nat, ∃ f8_422 : Nat, ∃ f9_423 : Int, ∃ f10_424 : Int, ∃ f11_425 : Int, ∃ f12_426 : Int, w_409[a0]? = some (zob 1 [zp f0_414, zp f1_415, zj f2_416, zj f3_417, zj f4_418, zj f5_419, zj f6_420, zp f7_421, zp f8_422, zj f9_423, zj f10_424, zj f11_425, zj f12_426]) ∧ Zr sc 57 5 [zp a0, zp a1, zj (x2 + 1)] [] (w_409.set a0 (zob 1 [zp f0_414, zp f1_415, zj f2_416, zj f3_417, zj f4_418, zj f5_419, zj f6_420, zp f7_421, zp f8_422, zj f9_423, zj f10_424, zj (max f11_400 r_411), zj f12_426])) ov w' c s)))))))))))))))))) : Zr sc 57 5 [zp a0, zp a1, zj x2] [] w ov w' c s := by
  refine Zr_st (q := (6, [zp a0, zp a1, zj x2], [zj x2])) rfl rfl rfl ?_
  show Zr sc 57 6 [zp a0, zp a1, zj x2] [zj x2] w ov w' c s
  refine Zr_st (q := (7, [zp a0, zp a1, zj x2], [zp a1, zj x2])) rfl rfl rfl ?_
  show Zr sc 57 7 [zp a0, zp a1, zj x2] [zp a1, zj x2] w ov w' c s
  obtain ⟨f0_2, f1_3, f2_4, f3_5, hw_1, h⟩ := h
  obtain ⟨r_8, w_6, hk_7, h⟩ := h
  refine rn_cal0 (ins := .invokevirtual 80) (rest := [zj x2]) rfl rfl rfl rfl (zinv_v (fs := _) hw_1 rfl rfl rfl rfl) rfl rfl hk_7 ?_
  show Zr sc 57 10 [zp a0, zp a1, zj x2] [zj r_8, zj x2] w_6 ov w' c s
  obtain ⟨hr_9, h⟩ := h
  refine Zr_br (p := r_8 ≤ x2) rfl rfl (zcmp_j (cnd := .ge) hr_9.1 hr_9.2) (fun hp => ?_) (fun hp => ?_)
  · replace h := h.1 hp
    show Zr sc 57 148 [zp a0, zp a1, zj x2] [] w_6 ov w' c s
    refine Zr_st (q := (149, [zp a0, zp a1, zj x2], [zp a0])) rfl rfl rfl ?_
    show Zr sc 57 149 [zp a0, zp a1, zj x2] [zp a0] w_6 ov w' c s
    refine Zr_st (q := (150, [zp a0, zp a1, zj x2], [zp a1, zp a0])) rfl rfl rfl ?_
    show Zr sc 57 150 [zp a0, zp a1, zj x2] [zp a1, zp a0] w_6 ov w' c s
    obtain ⟨f0_11, f1_12, f2_13, f3_14, hw_10, h⟩ := h
    obtain ⟨r_17, w_15, hk_16, h⟩ := h
    refine rn_cal0 (ins := .invokevirtual 80) (rest := [zp a0]) rfl rfl rfl rfl (zinv_v (fs := _) hw_10 rfl rfl rfl rfl) rfl rfl hk_16 ?_
    show Zr sc 57 153 [zp a0, zp a1, zj x2] [zj r_17, zp a0] w_15 ov w' c s
    obtain ⟨f0_19, f1_20, f2_21, f3_22, f4_23, f5_24, f6_25, f7_26, f8_27, f9_28, f10_29, f11_30, f12_31, hw_18, h⟩ := h
    refine rl_pf rfl hw_18 rfl rfl rfl ?_
    show Zr sc 57 156 [zp a0, zp a1, zj x2] [] (w_15.set a0 (zob 1 [zp f0_19, zp f1_20, zj f2_21, zj f3_22, zj f4_23, zj f5_24, zj f6_25, zp f7_26, zp f8_27, zj f9_28, zj f10_29, zj f11_30, zj r_17])) ov w' c s
    refine Zr_st (q := (157, [zp a0, zp a1, zj x2], [zp a0])) rfl rfl rfl ?_
    show Zr sc 57 157 [zp a0, zp a1, zj x2] [zp a0] (w_15.set a0 (zob 1 [zp f0_19, zp f1_20, zj f2_21, zj f3_22, zj f4_23, zj f5_24, zj f6_25, zp f7_26, zp f8_27, zj f9_28, zj f10_29, zj f11_30, zj r_17])) ov w' c s
    obtain ⟨h1, h2, h3, h4⟩ := h
    subst h1; subst h2; subst h3; subst h4
    exact Zr_ret (ins := .areturn) rfl rfl
  · replace h := h.2 hp
    show Zr sc 57 13 [zp a0, zp a1, zj x2] [] w_6 ov w' c s
    refine Zr_st (q := (14, [zp a0, zp a1, zj x2], [zp a1])) rfl rfl rfl ?_
    show Zr sc 57 14 [zp a0, zp a1, zj x2] [zp a1] w_6 ov w' c s
    refine Zr_st (q := (15, [zp a0, zp a1, zj x2], [zj x2, zp a1])) rfl rfl rfl ?_
    show Zr sc 57 15 [zp a0, zp a1, zj x2] [zj x2, zp a1] w_6 ov w' c s
    obtain ⟨f0_33, f1_34, f2_35, f3_36, hw_32, h⟩ := h
    obtain ⟨r_39, w_37, hk_38, h⟩ := h
    refine rn_cal0 (ins := .invokevirtual 86) (rest := []) rfl rfl rfl rfl (zinv_v (fs := _) hw_32 rfl rfl rfl rfl) rfl rfl hk_38 ?_
    show Zr sc 57 18 [zp a0, zp a1, zj x2] [zj r_39] w_37 ov w' c s
    obtain ⟨hr_40, h⟩ := h
    have hsw : (r_39 < 0 ∨ 5 < r_39) ∨ r_39 = 0 ∨ r_39 = 1 ∨ r_39 = 2 ∨ r_39 = 3 ∨ r_39 = 4 ∨ r_39 = 5 := by omega
    rcases hsw with hp | hp | hp | hp | hp | hp | hp
    · replace h := h.1 hp
      refine rl_sw (t := 124) rfl hr_40 (zsw_d hp rfl) ?_
      show Zr sc 57 124 [zp a0, zp a1, zj x2] [] w_37 ov w' c s
      refine Zr_st (q := (125, [zp a0, zp a1, zj x2], [zp a0])) rfl rfl rfl ?_
      show Zr sc 57 125 [zp a0, zp a1, zj x2] [zp a0] w_37 ov w' c s
      refine Zr_st (q := (126, [zp a0, zp a1, zj x2], [zp a0, zp a0])) rfl rfl rfl ?_
      show Zr sc 57 126 [zp a0, zp a1, zj x2] [zp a0, zp a0] w_37 ov w' c s
      obtain ⟨f0_42, f1_43, f2_44, f3_45, f4_46, f5_47, f6_48, f7_49, f8_50, f9_51, f10_52, f11_53, f12_54, hw_41, h⟩ := h
      refine rl_gf rfl hw_41 rfl rfl ?_
      show Zr sc 57 129 [zp a0, zp a1, zj x2] [zj f11_53, zp a0] w_37 ov w' c s
      refine Zr_st (q := (130, [zp a0, zp a1, zj x2], [zp a0, zj f11_53, zp a0])) rfl rfl rfl ?_
      show Zr sc 57 130 [zp a0, zp a1, zj x2] [zp a0, zj f11_53, zp a0] w_37 ov w' c s
      refine rl_gf rfl hw_41 rfl rfl ?_
      show Zr sc 57 133 [zp a0, zp a1, zj x2] [zp f0_42, zj f11_53, zp a0] w_37 ov w' c s
      obtain ⟨f0_56, f1_57, f2_58, f3_59, f4_60, f5_61, hw_55, h⟩ := h
      obtain ⟨r_64, w_62, hk_63, h⟩ := h
      refine rn_cal0 (ins := .invokevirtual 110) (rest := [zj f11_53, zp a0]) rfl rfl rfl rfl (zinv_v (fs := _) hw_55 rfl rfl rfl rfl) rfl rfl hk_63 ?_
      show Zr sc 57 136 [zp a0, zp a1, zj x2] [zj r_64, zj f11_53, zp a0] w_62 ov w' c s
      obtain ⟨hm_65, h⟩ := h
      refine Zr_mx (b := true) (ins := .invokestatic 113) (rest := [zp a0]) rfl rfl rfl rfl (zinv_t2 (rest := [zp a0]) rfl rfl rfl rfl rfl) rfl (zmx_j hm_65.1 hm_65.2) ?_
      show Zr sc 57 139 [zp a0, zp a1, zj x2] [zj (max f11_53 r_64), zp a0] w_62 ov w' c s
      obtain ⟨f0_67, f1_68, f2_69, f3_70, f4_71, f5_72, f6_73, f7_74, f8_75, f9_76, f10_77, f11_78, f12_79, hw_66, h⟩ := h
      refine rl_pf rfl hw_66 rfl rfl rfl ?_
      show Zr sc 57 142 [zp a0, zp a1, zj x2] [] (w_62.set a0 (zob 1 [zp f0_67, zp f1_68, zj f2_69, zj f3_70, zj f4_71, zj f5_72, zj f6_73, zp f7_74, zp f8_75, zj f9_76, zj f10_77, zj (max f11_53 r_64), zj f12_79])) ov w' c s
      refine rl_inc rfl rfl rfl rfl ?_
      show Zr sc 57 145 [zp a0, zp a1, zj (x2 + 1)] [] (w_62.set a0 (zob 1 [zp f0_67, zp f1_68, zj f2_69, zj f3_70, zj f4_71, zj f5_72, zj f6_73, zp f7_74, zp f8_75, zj f9_76, zj f10_77, zj (max f11_53 r_64), zj f12_79])) ov w' c s
      refine Zr_st (q := (5, [zp a0, zp a1, zj (x2 + 1)], [])) rfl rfl rfl ?_
      show Zr sc 57 5 [zp a0, zp a1, zj (x2 + 1)] [] (w_62.set a0 (zob 1 [zp f0_67, zp f1_68, zj f2_69, zj f3_70, zj f4_71, zj f5_72, zj f6_73, zp f7_74, zp f8_75, zj f9_76, zj f10_77, zj (max f11_53 r_64), zj f12_79])) ov w' c s
      exact h
    · replace h := h.2.1 hp
      refine rl_sw (t := 56) rfl hr_40 (by rw [hp]; rfl) ?_
      show Zr sc 57 56 [zp a0, zp a1, zj x2] [] w_37 ov w' c s
      refine Zr_st (q := (57, [zp a0, zp a1, zj x2], [zp a0])) rfl rfl rfl ?_
      show Zr sc 57 57 [zp a0, zp a1, zj x2] [zp a0] w_37 ov w' c s
      refine Zr_st (q := (58, [zp a0, zp a1, zj x2], [zp a1, zp a0])) rfl rfl rfl ?_
      show Zr sc 57 58 [zp a0, zp a1, zj x2] [zp a1, zp a0] w_37 ov w' c s
      refine Zr_st (q := (59, [zp a0, zp a1, zj x2], [zj x2, zp a1, zp a0])) rfl rfl rfl ?_
      show Zr sc 57 59 [zp a0, zp a1, zj x2] [zj x2, zp a1, zp a0] w_37 ov w' c s
      obtain ⟨f0_81, f1_82, f2_83, f3_84, hw_80, h⟩ := h
      obtain ⟨r_87, w_85, hk_86, h⟩ := h
      refine rn_cal0 (ins := .invokevirtual 89) (rest := [zp a0]) rfl rfl rfl rfl (zinv_v (fs := _) hw_80 rfl rfl rfl rfl) rfl rfl hk_86 ?_
      show Zr sc 57 62 [zp a0, zp a1, zj x2] [zj r_87, zp a0] w_85 ov w' c s
      obtain ⟨f0_89, f1_90, f2_91, f3_92, f4_93, f5_94, f6_95, f7_96, f8_97, f9_98, f10_99, f11_100, f12_101, hw_88, h⟩ := h
      obtain ⟨w_102, hk_103, h⟩ := h
      refine rn_cal0 (ins := .invokevirtual 90) (rest := []) rfl rfl rfl rfl (zinv_v (fs := _) hw_88 rfl rfl rfl rfl) rfl rfl hk_103 ?_
      show Zr sc 57 65 [zp a0, zp a1, zj x2] [] w_102 ov w' c s
      refine Zr_st (q := (124, [zp a0, zp a1, zj x2], [])) rfl rfl rfl ?_
      show Zr sc 57 124 [zp a0, zp a1, zj x2] [] w_102 ov w' c s
      refine Zr_st (q := (125, [zp a0, zp a1, zj x2], [zp a0])) rfl rfl rfl ?_
      show Zr sc 57 125 [zp a0, zp a1, zj x2] [zp a0] w_102 ov w' c s
      refine Zr_st (q := (126, [zp a0, zp a1, zj x2], [zp a0, zp a0])) rfl rfl rfl ?_
      show Zr sc 57 126 [zp a0, zp a1, zj x2] [zp a0, zp a0] w_102 ov w' c s
      obtain ⟨f0_105, f1_106, f2_107, f3_108, f4_109, f5_110, f6_111, f7_112, f8_113, f9_114, f10_115, f11_116, f12_117, hw_104, h⟩ := h
      refine rl_gf rfl hw_104 rfl rfl ?_
      show Zr sc 57 129 [zp a0, zp a1, zj x2] [zj f11_116, zp a0] w_102 ov w' c s
      refine Zr_st (q := (130, [zp a0, zp a1, zj x2], [zp a0, zj f11_116, zp a0])) rfl rfl rfl ?_
      show Zr sc 57 130 [zp a0, zp a1, zj x2] [zp a0, zj f11_116, zp a0] w_102 ov w' c s
      refine rl_gf rfl hw_104 rfl rfl ?_
      show Zr sc 57 133 [zp a0, zp a1, zj x2] [zp f0_105, zj f11_116, zp a0] w_102 ov w' c s
      obtain ⟨f0_119, f1_120, f2_121, f3_122, f4_123, f5_124, hw_118, h⟩ := h
      obtain ⟨r_127, w_125, hk_126, h⟩ := h
      refine rn_cal0 (ins := .invokevirtual 110) (rest := [zj f11_116, zp a0]) rfl rfl rfl rfl (zinv_v (fs := _) hw_118 rfl rfl rfl rfl) rfl rfl hk_126 ?_
      show Zr sc 57 136 [zp a0, zp a1, zj x2] [zj r_127, zj f11_116, zp a0] w_125 ov w' c s
      obtain ⟨hm_128, h⟩ := h
      refine Zr_mx (b := true) (ins := .invokestatic 113) (rest := [zp a0]) rfl rfl rfl rfl (zinv_t2 (rest := [zp a0]) rfl rfl rfl rfl rfl) rfl (zmx_j hm_128.1 hm_128.2) ?_
      show Zr sc 57 139 [zp a0, zp a1, zj x2] [zj (max f11_116 r_127), zp a0] w_125 ov w' c s
      obtain ⟨f0_130, f1_131, f2_132, f3_133, f4_134, f5_135, f6_136, f7_137, f8_138, f9_139, f10_140, f11_141, f12_142, hw_129, h⟩ := h
      refine rl_pf rfl hw_129 rfl rfl rfl ?_
      show Zr sc 57 142 [zp a0, zp a1, zj x2] [] (w_125.set a0 (zob 1 [zp f0_130, zp f1_131, zj f2_132, zj f3_133, zj f4_134, zj f5_135, zj f6_136, zp f7_137, zp f8_138, zj f9_139, zj f10_140, zj (max f11_116 r_127), zj f12_142])) ov w' c s
      refine rl_inc rfl rfl rfl rfl ?_
      show Zr sc 57 145 [zp a0, zp a1, zj (x2 + 1)] [] (w_125.set a0 (zob 1 [zp f0_130, zp f1_131, zj f2_132, zj f3_133, zj f4_134, zj f5_135, zj f6_136, zp f7_137, zp f8_138, zj f9_139, zj f10_140, zj (max f11_116 r_127), zj f12_142])) ov w' c s
      refine Zr_st (q := (5, [zp a0, zp a1, zj (x2 + 1)], [])) rfl rfl rfl ?_
      show Zr sc 57 5 [zp a0, zp a1, zj (x2 + 1)] [] (w_125.set a0 (zob 1 [zp f0_130, zp f1_131, zj f2_132, zj f3_133, zj f4_134, zj f5_135, zj f6_136, zp f7_137, zp f8_138, zj f9_139, zj f10_140, zj (max f11_116 r_127), zj f12_142])) ov w' c s
      exact h
    · replace h := h.2.2.1 hp
      refine rl_sw (t := 68) rfl hr_40 (by rw [hp]; rfl) ?_
      show Zr sc 57 68 [zp a0, zp a1, zj x2] [] w_37 ov w' c s
      refine Zr_st (q := (69, [zp a0, zp a1, zj x2], [zp a0])) rfl rfl rfl ?_
      show Zr sc 57 69 [zp a0, zp a1, zj x2] [zp a0] w_37 ov w' c s
      refine Zr_st (q := (70, [zp a0, zp a1, zj x2], [zp a1, zp a0])) rfl rfl rfl ?_
      show Zr sc 57 70 [zp a0, zp a1, zj x2] [zp a1, zp a0] w_37 ov w' c s
      refine Zr_st (q := (71, [zp a0, zp a1, zj x2], [zj x2, zp a1, zp a0])) rfl rfl rfl ?_
      show Zr sc 57 71 [zp a0, zp a1, zj x2] [zj x2, zp a1, zp a0] w_37 ov w' c s
      obtain ⟨f0_144, f1_145, f2_146, f3_147, hw_143, h⟩ := h
      obtain ⟨r_150, w_148, hk_149, h⟩ := h
      refine rn_cal0 (ins := .invokevirtual 94) (rest := [zp a0]) rfl rfl rfl rfl (zinv_v (fs := _) hw_143 rfl rfl rfl rfl) rfl rfl hk_149 ?_
      show Zr sc 57 74 [zp a0, zp a1, zj x2] [zj r_150, zp a0] w_148 ov w' c s
      obtain ⟨f0_152, f1_153, f2_154, f3_155, f4_156, f5_157, f6_158, f7_159, f8_160, f9_161, f10_162, f11_163, f12_164, hw_151, h⟩ := h
      obtain ⟨w_165, hk_166, h⟩ := h
      refine rn_cal0 (ins := .invokevirtual 97) (rest := []) rfl rfl rfl rfl (zinv_v (fs := _) hw_151 rfl rfl rfl rfl) rfl rfl hk_166 ?_
      show Zr sc 57 77 [zp a0, zp a1, zj x2] [] w_165 ov w' c s
      refine Zr_st (q := (124, [zp a0, zp a1, zj x2], [])) rfl rfl rfl ?_
      show Zr sc 57 124 [zp a0, zp a1, zj x2] [] w_165 ov w' c s
      refine Zr_st (q := (125, [zp a0, zp a1, zj x2], [zp a0])) rfl rfl rfl ?_
      show Zr sc 57 125 [zp a0, zp a1, zj x2] [zp a0] w_165 ov w' c s
      refine Zr_st (q := (126, [zp a0, zp a1, zj x2], [zp a0, zp a0])) rfl rfl rfl ?_
      show Zr sc 57 126 [zp a0, zp a1, zj x2] [zp a0, zp a0] w_165 ov w' c s
      obtain ⟨f0_168, f1_169, f2_170, f3_171, f4_172, f5_173, f6_174, f7_175, f8_176, f9_177, f10_178, f11_179, f12_180, hw_167, h⟩ := h
      refine rl_gf rfl hw_167 rfl rfl ?_
      show Zr sc 57 129 [zp a0, zp a1, zj x2] [zj f11_179, zp a0] w_165 ov w' c s
      refine Zr_st (q := (130, [zp a0, zp a1, zj x2], [zp a0, zj f11_179, zp a0])) rfl rfl rfl ?_
      show Zr sc 57 130 [zp a0, zp a1, zj x2] [zp a0, zj f11_179, zp a0] w_165 ov w' c s
      refine rl_gf rfl hw_167 rfl rfl ?_
      show Zr sc 57 133 [zp a0, zp a1, zj x2] [zp f0_168, zj f11_179, zp a0] w_165 ov w' c s
      obtain ⟨f0_182, f1_183, f2_184, f3_185, f4_186, f5_187, hw_181, h⟩ := h
      obtain ⟨r_190, w_188, hk_189, h⟩ := h
      refine rn_cal0 (ins := .invokevirtual 110) (rest := [zj f11_179, zp a0]) rfl rfl rfl rfl (zinv_v (fs := _) hw_181 rfl rfl rfl rfl) rfl rfl hk_189 ?_
      show Zr sc 57 136 [zp a0, zp a1, zj x2] [zj r_190, zj f11_179, zp a0] w_188 ov w' c s
      obtain ⟨hm_191, h⟩ := h
      refine Zr_mx (b := true) (ins := .invokestatic 113) (rest := [zp a0]) rfl rfl rfl rfl (zinv_t2 (rest := [zp a0]) rfl rfl rfl rfl rfl) rfl (zmx_j hm_191.1 hm_191.2) ?_
      show Zr sc 57 139 [zp a0, zp a1, zj x2] [zj (max f11_179 r_190), zp a0] w_188 ov w' c s
      obtain ⟨f0_193, f1_194, f2_195, f3_196, f4_197, f5_198, f6_199, f7_200, f8_201, f9_202, f10_203, f11_204, f12_205, hw_192, h⟩ := h
      refine rl_pf rfl hw_192 rfl rfl rfl ?_
      show Zr sc 57 142 [zp a0, zp a1, zj x2] [] (w_188.set a0 (zob 1 [zp f0_193, zp f1_194, zj f2_195, zj f3_196, zj f4_197, zj f5_198, zj f6_199, zp f7_200, zp f8_201, zj f9_202, zj f10_203, zj (max f11_179 r_190), zj f12_205])) ov w' c s
      refine rl_inc rfl rfl rfl rfl ?_
      show Zr sc 57 145 [zp a0, zp a1, zj (x2 + 1)] [] (w_188.set a0 (zob 1 [zp f0_193, zp f1_194, zj f2_195, zj f3_196, zj f4_197, zj f5_198, zj f6_199, zp f7_200, zp f8_201, zj f9_202, zj f10_203, zj (max f11_179 r_190), zj f12_205])) ov w' c s
      refine Zr_st (q := (5, [zp a0, zp a1, zj (x2 + 1)], [])) rfl rfl rfl ?_
      show Zr sc 57 5 [zp a0, zp a1, zj (x2 + 1)] [] (w_188.set a0 (zob 1 [zp f0_193, zp f1_194, zj f2_195, zj f3_196, zj f4_197, zj f5_198, zj f6_199, zp f7_200, zp f8_201, zj f9_202, zj f10_203, zj (max f11_179 r_190), zj f12_205])) ov w' c s
      exact h
    · replace h := h.2.2.2.1 hp
      refine rl_sw (t := 80) rfl hr_40 (by rw [hp]; rfl) ?_
      show Zr sc 57 80 [zp a0, zp a1, zj x2] [] w_37 ov w' c s
      refine Zr_st (q := (81, [zp a0, zp a1, zj x2], [zp a0])) rfl rfl rfl ?_
      show Zr sc 57 81 [zp a0, zp a1, zj x2] [zp a0] w_37 ov w' c s
      refine Zr_st (q := (82, [zp a0, zp a1, zj x2], [zp a1, zp a0])) rfl rfl rfl ?_
      show Zr sc 57 82 [zp a0, zp a1, zj x2] [zp a1, zp a0] w_37 ov w' c s
      refine Zr_st (q := (83, [zp a0, zp a1, zj x2], [zj x2, zp a1, zp a0])) rfl rfl rfl ?_
      show Zr sc 57 83 [zp a0, zp a1, zj x2] [zj x2, zp a1, zp a0] w_37 ov w' c s
      obtain ⟨f0_207, f1_208, f2_209, f3_210, hw_206, h⟩ := h
      obtain ⟨r_213, w_211, hk_212, h⟩ := h
      refine rn_cal0 (ins := .invokevirtual 94) (rest := [zp a0]) rfl rfl rfl rfl (zinv_v (fs := _) hw_206 rfl rfl rfl rfl) rfl rfl hk_212 ?_
      show Zr sc 57 86 [zp a0, zp a1, zj x2] [zj r_213, zp a0] w_211 ov w' c s
      refine Zr_st (q := (87, [zp a0, zp a1, zj x2], [zp a1, zj r_213, zp a0])) rfl rfl rfl ?_
      show Zr sc 57 87 [zp a0, zp a1, zj x2] [zp a1, zj r_213, zp a0] w_211 ov w' c s
      refine Zr_st (q := (88, [zp a0, zp a1, zj x2], [zj x2, zp a1, zj r_213, zp a0])) rfl rfl rfl ?_
      show Zr sc 57 88 [zp a0, zp a1, zj x2] [zj x2, zp a1, zj r_213, zp a0] w_211 ov w' c s
      obtain ⟨f0_215, f1_216, f2_217, f3_218, hw_214, h⟩ := h
      obtain ⟨r_221, w_219, hk_220, h⟩ := h
      refine rn_cal0 (ins := .invokevirtual 89) (rest := [zj r_213, zp a0]) rfl rfl rfl rfl (zinv_v (fs := _) hw_214 rfl rfl rfl rfl) rfl rfl hk_220 ?_
      show Zr sc 57 91 [zp a0, zp a1, zj x2] [zj r_221, zj r_213, zp a0] w_219 ov w' c s
      obtain ⟨f0_223, f1_224, f2_225, f3_226, f4_227, f5_228, f6_229, f7_230, f8_231, f9_232, f10_233, f11_234, f12_235, hw_222, h⟩ := h
      obtain ⟨w_236, hk_237, h⟩ := h
      refine rn_cal0 (ins := .invokevirtual 100) (rest := []) rfl rfl rfl rfl (zinv_v (fs := _) hw_222 rfl rfl rfl rfl) rfl rfl hk_237 ?_
      show Zr sc 57 94 [zp a0, zp a1, zj x2] [] w_236 ov w' c s
      refine Zr_st (q := (124, [zp a0, zp a1, zj x2], [])) rfl rfl rfl ?_
      show Zr sc 57 124 [zp a0, zp a1, zj x2] [] w_236 ov w' c s
      refine Zr_st (q := (125, [zp a0, zp a1, zj x2], [zp a0])) rfl rfl rfl ?_
      show Zr sc 57 125 [zp a0, zp a1, zj x2] [zp a0] w_236 ov w' c s
      refine Zr_st (q := (126, [zp a0, zp a1, zj x2], [zp a0, zp a0])) rfl rfl rfl ?_
      show Zr sc 57 126 [zp a0, zp a1, zj x2] [zp a0, zp a0] w_236 ov w' c s
      obtain ⟨f0_239, f1_240, f2_241, f3_242, f4_243, f5_244, f6_245, f7_246, f8_247, f9_248, f10_249, f11_250, f12_251, hw_238, h⟩ := h
      refine rl_gf rfl hw_238 rfl rfl ?_
      show Zr sc 57 129 [zp a0, zp a1, zj x2] [zj f11_250, zp a0] w_236 ov w' c s
      refine Zr_st (q := (130, [zp a0, zp a1, zj x2], [zp a0, zj f11_250, zp a0])) rfl rfl rfl ?_
      show Zr sc 57 130 [zp a0, zp a1, zj x2] [zp a0, zj f11_250, zp a0] w_236 ov w' c s
      refine rl_gf rfl hw_238 rfl rfl ?_
      show Zr sc 57 133 [zp a0, zp a1, zj x2] [zp f0_239, zj f11_250, zp a0] w_236 ov w' c s
      obtain ⟨f0_253, f1_254, f2_255, f3_256, f4_257, f5_258, hw_252, h⟩ := h
      obtain ⟨r_261, w_259, hk_260, h⟩ := h
      refine rn_cal0 (ins := .invokevirtual 110) (rest := [zj f11_250, zp a0]) rfl rfl rfl rfl (zinv_v (fs := _) hw_252 rfl rfl rfl rfl) rfl rfl hk_260 ?_
      show Zr sc 57 136 [zp a0, zp a1, zj x2] [zj r_261, zj f11_250, zp a0] w_259 ov w' c s
      obtain ⟨hm_262, h⟩ := h
      refine Zr_mx (b := true) (ins := .invokestatic 113) (rest := [zp a0]) rfl rfl rfl rfl (zinv_t2 (rest := [zp a0]) rfl rfl rfl rfl rfl) rfl (zmx_j hm_262.1 hm_262.2) ?_
      show Zr sc 57 139 [zp a0, zp a1, zj x2] [zj (max f11_250 r_261), zp a0] w_259 ov w' c s
      obtain ⟨f0_264, f1_265, f2_266, f3_267, f4_268, f5_269, f6_270, f7_271, f8_272, f9_273, f10_274, f11_275, f12_276, hw_263, h⟩ := h
      refine rl_pf rfl hw_263 rfl rfl rfl ?_
      show Zr sc 57 142 [zp a0, zp a1, zj x2] [] (w_259.set a0 (zob 1 [zp f0_264, zp f1_265, zj f2_266, zj f3_267, zj f4_268, zj f5_269, zj f6_270, zp f7_271, zp f8_272, zj f9_273, zj f10_274, zj (max f11_250 r_261), zj f12_276])) ov w' c s
      refine rl_inc rfl rfl rfl rfl ?_
      show Zr sc 57 145 [zp a0, zp a1, zj (x2 + 1)] [] (w_259.set a0 (zob 1 [zp f0_264, zp f1_265, zj f2_266, zj f3_267, zj f4_268, zj f5_269, zj f6_270, zp f7_271, zp f8_272, zj f9_273, zj f10_274, zj (max f11_250 r_261), zj f12_276])) ov w' c s
      refine Zr_st (q := (5, [zp a0, zp a1, zj (x2 + 1)], [])) rfl rfl rfl ?_
      show Zr sc 57 5 [zp a0, zp a1, zj (x2 + 1)] [] (w_259.set a0 (zob 1 [zp f0_264, zp f1_265, zj f2_266, zj f3_267, zj f4_268, zj f5_269, zj f6_270, zp f7_271, zp f8_272, zj f9_273, zj f10_274, zj (max f11_250 r_261), zj f12_276])) ov w' c s
      exact h
    · replace h := h.2.2.2.2.1 hp
      refine rl_sw (t := 97) rfl hr_40 (by rw [hp]; rfl) ?_
      show Zr sc 57 97 [zp a0, zp a1, zj x2] [] w_37 ov w' c s
      refine Zr_st (q := (98, [zp a0, zp a1, zj x2], [zp a0])) rfl rfl rfl ?_
      show Zr sc 57 98 [zp a0, zp a1, zj x2] [zp a0] w_37 ov w' c s
      obtain ⟨f0_278, f1_279, f2_280, f3_281, f4_282, f5_283, f6_284, f7_285, f8_286, f9_287, f10_288, f11_289, f12_290, hw_277, h⟩ := h
      obtain ⟨w_291, hk_292, h⟩ := h
      refine rn_cal0 (ins := .invokevirtual 104) (rest := []) rfl rfl rfl rfl (zinv_v (fs := _) hw_277 rfl rfl rfl rfl) rfl rfl hk_292 ?_
      show Zr sc 57 101 [zp a0, zp a1, zj x2] [] w_291 ov w' c s
      refine Zr_st (q := (124, [zp a0, zp a1, zj x2], [])) rfl rfl rfl ?_
      show Zr sc 57 124 [zp a0, zp a1, zj x2] [] w_291 ov w' c s
      refine Zr_st (q := (125, [zp a0, zp a1, zj x2], [zp a0])) rfl rfl rfl ?_
      show Zr sc 57 125 [zp a0, zp a1, zj x2] [zp a0] w_291 ov w' c s
      refine Zr_st (q := (126, [zp a0, zp a1, zj x2], [zp a0, zp a0])) rfl rfl rfl ?_
      show Zr sc 57 126 [zp a0, zp a1, zj x2] [zp a0, zp a0] w_291 ov w' c s
      obtain ⟨f0_294, f1_295, f2_296, f3_297, f4_298, f5_299, f6_300, f7_301, f8_302, f9_303, f10_304, f11_305, f12_306, hw_293, h⟩ := h
      refine rl_gf rfl hw_293 rfl rfl ?_
      show Zr sc 57 129 [zp a0, zp a1, zj x2] [zj f11_305, zp a0] w_291 ov w' c s
      refine Zr_st (q := (130, [zp a0, zp a1, zj x2], [zp a0, zj f11_305, zp a0])) rfl rfl rfl ?_
      show Zr sc 57 130 [zp a0, zp a1, zj x2] [zp a0, zj f11_305, zp a0] w_291 ov w' c s
      refine rl_gf rfl hw_293 rfl rfl ?_
      show Zr sc 57 133 [zp a0, zp a1, zj x2] [zp f0_294, zj f11_305, zp a0] w_291 ov w' c s
      obtain ⟨f0_308, f1_309, f2_310, f3_311, f4_312, f5_313, hw_307, h⟩ := h
      obtain ⟨r_316, w_314, hk_315, h⟩ := h
      refine rn_cal0 (ins := .invokevirtual 110) (rest := [zj f11_305, zp a0]) rfl rfl rfl rfl (zinv_v (fs := _) hw_307 rfl rfl rfl rfl) rfl rfl hk_315 ?_
      show Zr sc 57 136 [zp a0, zp a1, zj x2] [zj r_316, zj f11_305, zp a0] w_314 ov w' c s
      obtain ⟨hm_317, h⟩ := h
      refine Zr_mx (b := true) (ins := .invokestatic 113) (rest := [zp a0]) rfl rfl rfl rfl (zinv_t2 (rest := [zp a0]) rfl rfl rfl rfl rfl) rfl (zmx_j hm_317.1 hm_317.2) ?_
      show Zr sc 57 139 [zp a0, zp a1, zj x2] [zj (max f11_305 r_316), zp a0] w_314 ov w' c s
      obtain ⟨f0_319, f1_320, f2_321, f3_322, f4_323, f5_324, f6_325, f7_326, f8_327, f9_328, f10_329, f11_330, f12_331, hw_318, h⟩ := h
      refine rl_pf rfl hw_318 rfl rfl rfl ?_
      show Zr sc 57 142 [zp a0, zp a1, zj x2] [] (w_314.set a0 (zob 1 [zp f0_319, zp f1_320, zj f2_321, zj f3_322, zj f4_323, zj f5_324, zj f6_325, zp f7_326, zp f8_327, zj f9_328, zj f10_329, zj (max f11_305 r_316), zj f12_331])) ov w' c s
      refine rl_inc rfl rfl rfl rfl ?_
      show Zr sc 57 145 [zp a0, zp a1, zj (x2 + 1)] [] (w_314.set a0 (zob 1 [zp f0_319, zp f1_320, zj f2_321, zj f3_322, zj f4_323, zj f5_324, zj f6_325, zp f7_326, zp f8_327, zj f9_328, zj f10_329, zj (max f11_305 r_316), zj f12_331])) ov w' c s
      refine Zr_st (q := (5, [zp a0, zp a1, zj (x2 + 1)], [])) rfl rfl rfl ?_
      show Zr sc 57 5 [zp a0, zp a1, zj (x2 + 1)] [] (w_314.set a0 (zob 1 [zp f0_319, zp f1_320, zj f2_321, zj f3_322, zj f4_323, zj f5_324, zj f6_325, zp f7_326, zp f8_327, zj f9_328, zj f10_329, zj (max f11_305 r_316), zj f12_331])) ov w' c s
      exact h
    · replace h := h.2.2.2.2.2.1 hp
      refine rl_sw (t := 104) rfl hr_40 (by rw [hp]; rfl) ?_
      show Zr sc 57 104 [zp a0, zp a1, zj x2] [] w_37 ov w' c s
      refine Zr_st (q := (105, [zp a0, zp a1, zj x2], [zp a0])) rfl rfl rfl ?_
      show Zr sc 57 105 [zp a0, zp a1, zj x2] [zp a0] w_37 ov w' c s
      refine Zr_st (q := (106, [zp a0, zp a1, zj x2], [zp a0, zp a0])) rfl rfl rfl ?_
      show Zr sc 57 106 [zp a0, zp a1, zj x2] [zp a0, zp a0] w_37 ov w' c s
      obtain ⟨f0_333, f1_334, f2_335, f3_336, f4_337, f5_338, f6_339, f7_340, f8_341, f9_342, f10_343, f11_344, f12_345, hw_332, h⟩ := h
      refine rl_gf rfl hw_332 rfl rfl ?_
      show Zr sc 57 109 [zp a0, zp a1, zj x2] [zj f10_343, zp a0] w_37 ov w' c s
      refine rl_ic rfl ?_
      show Zr sc 57 110 [zp a0, zp a1, zj x2] [zj 1, zj f10_343, zp a0] w_37 ov w' c s
      refine rl_add rfl ?_
      show Zr sc 57 111 [zp a0, zp a1, zj x2] [zj (f10_343 + 1), zp a0] w_37 ov w' c s
      refine rl_pf rfl hw_332 rfl rfl rfl ?_
      show Zr sc 57 114 [zp a0, zp a1, zj x2] [] (w_37.set a0 (zob 1 [zp f0_333, zp f1_334, zj f2_335, zj f3_336, zj f4_337, zj f5_338, zj f6_339, zp f7_340, zp f8_341, zj f9_342, zj (f10_343 + 1), zj f11_344, zj f12_345])) ov w' c s
      refine Zr_st (q := (124, [zp a0, zp a1, zj x2], [])) rfl rfl rfl ?_
      show Zr sc 57 124 [zp a0, zp a1, zj x2] [] (w_37.set a0 (zob 1 [zp f0_333, zp f1_334, zj f2_335, zj f3_336, zj f4_337, zj f5_338, zj f6_339, zp f7_340, zp f8_341, zj f9_342, zj (f10_343 + 1), zj f11_344, zj f12_345])) ov w' c s
      refine Zr_st (q := (125, [zp a0, zp a1, zj x2], [zp a0])) rfl rfl rfl ?_
      show Zr sc 57 125 [zp a0, zp a1, zj x2] [zp a0] (w_37.set a0 (zob 1 [zp f0_333, zp f1_334, zj f2_335, zj f3_336, zj f4_337, zj f5_338, zj f6_339, zp f7_340, zp f8_341, zj f9_342, zj (f10_343 + 1), zj f11_344, zj f12_345])) ov w' c s
      refine Zr_st (q := (126, [zp a0, zp a1, zj x2], [zp a0, zp a0])) rfl rfl rfl ?_
      show Zr sc 57 126 [zp a0, zp a1, zj x2] [zp a0, zp a0] (w_37.set a0 (zob 1 [zp f0_333, zp f1_334, zj f2_335, zj f3_336, zj f4_337, zj f5_338, zj f6_339, zp f7_340, zp f8_341, zj f9_342, zj (f10_343 + 1), zj f11_344, zj f12_345])) ov w' c s
      refine rl_gf rfl (zw_s hw_332) rfl rfl ?_
      show Zr sc 57 129 [zp a0, zp a1, zj x2] [zj f11_344, zp a0] (w_37.set a0 (zob 1 [zp f0_333, zp f1_334, zj f2_335, zj f3_336, zj f4_337, zj f5_338, zj f6_339, zp f7_340, zp f8_341, zj f9_342, zj (f10_343 + 1), zj f11_344, zj f12_345])) ov w' c s
      refine Zr_st (q := (130, [zp a0, zp a1, zj x2], [zp a0, zj f11_344, zp a0])) rfl rfl rfl ?_
      show Zr sc 57 130 [zp a0, zp a1, zj x2] [zp a0, zj f11_344, zp a0] (w_37.set a0 (zob 1 [zp f0_333, zp f1_334, zj f2_335, zj f3_336, zj f4_337, zj f5_338, zj f6_339, zp f7_340, zp f8_341, zj f9_342, zj (f10_343 + 1), zj f11_344, zj f12_345])) ov w' c s
      refine rl_gf rfl (zw_s hw_332) rfl rfl ?_
      show Zr sc 57 133 [zp a0, zp a1, zj x2] [zp f0_333, zj f11_344, zp a0] (w_37.set a0 (zob 1 [zp f0_333, zp f1_334, zj f2_335, zj f3_336, zj f4_337, zj f5_338, zj f6_339, zp f7_340, zp f8_341, zj f9_342, zj (f10_343 + 1), zj f11_344, zj f12_345])) ov w' c s
      obtain ⟨hn_346, h⟩ := h
      obtain ⟨f0_348, f1_349, f2_350, f3_351, f4_352, f5_353, hw_347, h⟩ := h
      obtain ⟨r_356, w_354, hk_355, h⟩ := h
      refine rn_cal0 (ins := .invokevirtual 110) (rest := [zj f11_344, zp a0]) rfl rfl rfl rfl (zinv_v (fs := _) (zw_o hn_346 hw_347) rfl rfl rfl rfl) rfl rfl hk_355 ?_
      show Zr sc 57 136 [zp a0, zp a1, zj x2] [zj r_356, zj f11_344, zp a0] w_354 ov w' c s
      obtain ⟨hm_357, h⟩ := h
      refine Zr_mx (b := true) (ins := .invokestatic 113) (rest := [zp a0]) rfl rfl rfl rfl (zinv_t2 (rest := [zp a0]) rfl rfl rfl rfl rfl) rfl (zmx_j hm_357.1 hm_357.2) ?_
      show Zr sc 57 139 [zp a0, zp a1, zj x2] [zj (max f11_344 r_356), zp a0] w_354 ov w' c s
      obtain ⟨f0_359, f1_360, f2_361, f3_362, f4_363, f5_364, f6_365, f7_366, f8_367, f9_368, f10_369, f11_370, f12_371, hw_358, h⟩ := h
      refine rl_pf rfl hw_358 rfl rfl rfl ?_
      show Zr sc 57 142 [zp a0, zp a1, zj x2] [] (w_354.set a0 (zob 1 [zp f0_359, zp f1_360, zj f2_361, zj f3_362, zj f4_363, zj f5_364, zj f6_365, zp f7_366, zp f8_367, zj f9_368, zj f10_369, zj (max f11_344 r_356), zj f12_371])) ov w' c s
      refine rl_inc rfl rfl rfl rfl ?_
      show Zr sc 57 145 [zp a0, zp a1, zj (x2 + 1)] [] (w_354.set a0 (zob 1 [zp f0_359, zp f1_360, zj f2_361, zj f3_362, zj f4_363, zj f5_364, zj f6_365, zp f7_366, zp f8_367, zj f9_368, zj f10_369, zj (max f11_344 r_356), zj f12_371])) ov w' c s
      refine Zr_st (q := (5, [zp a0, zp a1, zj (x2 + 1)], [])) rfl rfl rfl ?_
      show Zr sc 57 5 [zp a0, zp a1, zj (x2 + 1)] [] (w_354.set a0 (zob 1 [zp f0_359, zp f1_360, zj f2_361, zj f3_362, zj f4_363, zj f5_364, zj f6_365, zp f7_366, zp f8_367, zj f9_368, zj f10_369, zj (max f11_344 r_356), zj f12_371])) ov w' c s
      exact h
    · replace h := h.2.2.2.2.2.2 hp
      refine rl_sw (t := 117) rfl hr_40 (by rw [hp]; rfl) ?_
      show Zr sc 57 117 [zp a0, zp a1, zj x2] [] w_37 ov w' c s
      refine Zr_st (q := (118, [zp a0, zp a1, zj x2], [zp a0])) rfl rfl rfl ?_
      show Zr sc 57 118 [zp a0, zp a1, zj x2] [zp a0] w_37 ov w' c s
      obtain ⟨f0_373, f1_374, f2_375, f3_376, f4_377, f5_378, f6_379, f7_380, f8_381, f9_382, f10_383, f11_384, f12_385, hw_372, h⟩ := h
      obtain ⟨w_386, hk_387, h⟩ := h
      refine rn_cal0 (ins := .invokevirtual 107) (rest := []) rfl rfl rfl rfl (zinv_v (fs := _) hw_372 rfl rfl rfl rfl) rfl rfl hk_387 ?_
      show Zr sc 57 121 [zp a0, zp a1, zj x2] [] w_386 ov w' c s
      refine Zr_st (q := (124, [zp a0, zp a1, zj x2], [])) rfl rfl rfl ?_
      show Zr sc 57 124 [zp a0, zp a1, zj x2] [] w_386 ov w' c s
      refine Zr_st (q := (125, [zp a0, zp a1, zj x2], [zp a0])) rfl rfl rfl ?_
      show Zr sc 57 125 [zp a0, zp a1, zj x2] [zp a0] w_386 ov w' c s
      refine Zr_st (q := (126, [zp a0, zp a1, zj x2], [zp a0, zp a0])) rfl rfl rfl ?_
      show Zr sc 57 126 [zp a0, zp a1, zj x2] [zp a0, zp a0] w_386 ov w' c s
      obtain ⟨f0_389, f1_390, f2_391, f3_392, f4_393, f5_394, f6_395, f7_396, f8_397, f9_398, f10_399, f11_400, f12_401, hw_388, h⟩ := h
      refine rl_gf rfl hw_388 rfl rfl ?_
      show Zr sc 57 129 [zp a0, zp a1, zj x2] [zj f11_400, zp a0] w_386 ov w' c s
      refine Zr_st (q := (130, [zp a0, zp a1, zj x2], [zp a0, zj f11_400, zp a0])) rfl rfl rfl ?_
      show Zr sc 57 130 [zp a0, zp a1, zj x2] [zp a0, zj f11_400, zp a0] w_386 ov w' c s
      refine rl_gf rfl hw_388 rfl rfl ?_
      show Zr sc 57 133 [zp a0, zp a1, zj x2] [zp f0_389, zj f11_400, zp a0] w_386 ov w' c s
      obtain ⟨f0_403, f1_404, f2_405, f3_406, f4_407, f5_408, hw_402, h⟩ := h
      obtain ⟨r_411, w_409, hk_410, h⟩ := h
      refine rn_cal0 (ins := .invokevirtual 110) (rest := [zj f11_400, zp a0]) rfl rfl rfl rfl (zinv_v (fs := _) hw_402 rfl rfl rfl rfl) rfl rfl hk_410 ?_
      show Zr sc 57 136 [zp a0, zp a1, zj x2] [zj r_411, zj f11_400, zp a0] w_409 ov w' c s
      obtain ⟨hm_412, h⟩ := h
      refine Zr_mx (b := true) (ins := .invokestatic 113) (rest := [zp a0]) rfl rfl rfl rfl (zinv_t2 (rest := [zp a0]) rfl rfl rfl rfl rfl) rfl (zmx_j hm_412.1 hm_412.2) ?_
      show Zr sc 57 139 [zp a0, zp a1, zj x2] [zj (max f11_400 r_411), zp a0] w_409 ov w' c s
      obtain ⟨f0_414, f1_415, f2_416, f3_417, f4_418, f5_419, f6_420, f7_421, f8_422, f9_423, f10_424, f11_425, f12_426, hw_413, h⟩ := h
      refine rl_pf rfl hw_413 rfl rfl rfl ?_
      show Zr sc 57 142 [zp a0, zp a1, zj x2] [] (w_409.set a0 (zob 1 [zp f0_414, zp f1_415, zj f2_416, zj f3_417, zj f4_418, zj f5_419, zj f6_420, zp f7_421, zp f8_422, zj f9_423, zj f10_424, zj (max f11_400 r_411), zj f12_426])) ov w' c s
      refine rl_inc rfl rfl rfl rfl ?_
      show Zr sc 57 145 [zp a0, zp a1, zj (x2 + 1)] [] (w_409.set a0 (zob 1 [zp f0_414, zp f1_415, zj f2_416, zj f3_417, zj f4_418, zj f5_419, zj f6_420, zp f7_421, zp f8_422, zj f9_423, zj f10_424, zj (max f11_400 r_411), zj f12_426])) ov w' c s
      refine Zr_st (q := (5, [zp a0, zp a1, zj (x2 + 1)], [])) rfl rfl rfl ?_
      show Zr sc 57 5 [zp a0, zp a1, zj (x2 + 1)] [] (w_409.set a0 (zob 1 [zp f0_414, zp f1_415, zj f2_416, zj f3_417, zj f4_418, zj f5_419, zj f6_420, zp f7_421, zp f8_422, zj f9_423, zj f10_424, zj (max f11_400 r_411), zj f12_426])) ov w' c s
      exact h

-- HeapwrightLab$Memory.follow(LHeapwrightLab$Trace;)LHeapwrightLab$Memory;
set_option maxRecDepth 100000 in
theorem V57_0_2 {sc : List Value} {w w' : List zE} {ov : Option Value} {c s : Nat} {a0 : Nat} {a1 : Nat} (h : (∃ f0_2 : Nat, ∃ f1_3 : Nat, ∃ f2_4 : Int, ∃ f3_5 : Int, ∃ f4_6 : Int, ∃ f5_7 : Int, ∃ f6_8 : Int, ∃ f7_9 : Nat, ∃ f8_10 : Nat, ∃ f9_11 : Int, ∃ f10_12 : Int, ∃ f11_13 : Int, ∃ f12_14 : Int, w[a0]? = some (zob 2 [zp f0_2, zp f1_3, zj f2_4, zj f3_5, zj f4_6, zj f5_7, zj f6_8, zp f7_9, zp f8_10, zj f9_11, zj f10_12, zj f11_13, zj f12_14]) ∧ Zr sc 57 5 [zp a0, zp a1, zj f12_14] [] w ov w' c s)) : Zr sc 57 0 [zp a0, zp a1, zmk] [] w ov w' c s := by
  refine Zr_st (q := (1, [zp a0, zp a1, zmk], [zp a0])) rfl rfl rfl ?_
  show Zr sc 57 1 [zp a0, zp a1, zmk] [zp a0] w ov w' c s
  obtain ⟨f0_2, f1_3, f2_4, f3_5, f4_6, f5_7, f6_8, f7_9, f8_10, f9_11, f10_12, f11_13, f12_14, hw_1, h⟩ := h
  refine rl_gf rfl hw_1 rfl rfl ?_
  show Zr sc 57 4 [zp a0, zp a1, zmk] [zj f12_14] w ov w' c s
  refine Zr_st (q := (5, [zp a0, zp a1, zj f12_14], [])) rfl rfl rfl ?_
  show Zr sc 57 5 [zp a0, zp a1, zj f12_14] [] w ov w' c s
  exact h
set_option maxRecDepth 100000 in
theorem V57_5_2 {sc : List Value} {w w' : List zE} {ov : Option Value} {c s : Nat} {a0 : Nat} {a1 : Nat} {x2 : Int} (h : (∃ f0_2 : Nat, ∃ f1_3 : Nat, ∃ f2_4 : Nat, ∃ f3_5 : Int, w[a1]? = some (zob 5 [zp f0_2, zp f1_3, zp f2_4, zj f3_5]) ∧ (∃ r_8 : Int, ∃ w_6 : List zE, Zc sc 58 [zp a1] w (some (zj r_8)) w_6 0 0 ∧ ((zrg x2 ∧ zrg r_8) ∧ ((r_8 ≤ x2 → (∃ f0_11 : Nat, ∃ f1_12 : Nat, ∃ f2_13 : Nat, ∃ f3_14 : Int, w_6[a1]? = some (zob 5 [zp f0_11, zp f1_12, zp f2_13, zj f3_14]) ∧ (∃ r_17 : Int, ∃ w_15 : List zE, Zc sc 58 [zp a1] w_6 (some (zj r_17)) w_15 0 0 ∧ (∃ f0_19 : Nat, ∃ f1_20 : Nat, ∃ f2_21 : Int, ∃ f3_22 : Int, ∃ f4_23 : Int, ∃ f5_24 : Int, ∃ f6_25 : Int, ∃ f7_26 : Nat, ∃ f8_27 : Nat, ∃ f9_28 : Int, ∃ f10_29 : Int, ∃ f11_30 : Int, ∃ f12_31 : Int, w_15[a0]? = some (zob 2 [zp f0_19, zp f1_20, zj f2_21, zj f3_22, zj f4_23, zj f5_24, zj f6_25, zp f7_26, zp f8_27, zj f9_28, zj f10_29, zj f11_30, zj f12_31]) ∧ (ov = some (zp a0) ∧ w' = (w_15.set a0 (zob 2 [zp f0_19, zp f1_20, zj f2_21, zj f3_22, zj f4_23, zj f5_24, zj f6_25, zp f7_26, zp f8_27, zj f9_28, zj f10_29, zj f11_30, zj r_17])) ∧ c = 0 ∧ s = 0))))) ∧ (¬ (r_8 ≤ x2) → (∃ f0_33 : Nat, ∃ f1_34 : Nat, ∃ f2_35 : Nat, ∃ f3_36 : Int, w_6[a1]? = some (zob 5 [zp f0_33, zp f1_34, zp f2_35, zj f3_36]) ∧ (∃ r_39 : Int, ∃ w_37 : List zE, Zc sc 59 [zp a1, zj x2] w_6 (some (zj r_39)) w_37 0 0 ∧ ((zrg r_39) ∧ (((r_39 < 0 ∨ 5 < r_39) → (∃ f0_42 : Nat, ∃ f1_43 : Nat, ∃ f2_44 : Int, ∃ f3_45 : Int, ∃ f4_46 : Int, ∃ f5_47 : Int, ∃ f6_48 : Int, ∃ f7_49 : Nat, ∃ f8_50 : Nat, ∃ f9_51 : Int, ∃ f10_52 : Int, ∃ f11_53 : Int, ∃ f12_54 : Int, w_37[a0]? = some (zob 2 [zp f0_42, zp f1_43, zj f2_44, zj f3_45, zj f4_46, zj f5_47, zj f6_48, zp f7_49, zp f8_50, zj f9_51, zj f10_52, zj f11_53, zj f12_54]) ∧ (∃ f0_56 : Nat, ∃ f1_57 : Nat, ∃ f2_58 : Nat, ∃ f3_59 : Nat, ∃ f4_60 : Int, ∃ f5_61 : Int, w_37[f0_42]? = some (zob 0 [zp f0_56, zp f1_57, zp f2_58, zp f3_59, zj f4_60, zj f5_61]) ∧ (∃ r_64 : Int, ∃ w_62 : List zE, Zc sc 28 [zp f0_42] w_37 (some (zj r_64)) w_62 0 0 ∧ ((zrg f11_53 ∧ zrg r_64) ∧ (∃ f0_67 : Nat, ∃ f1_68 : Nat, ∃ f2_69 : Int, ∃ f3_70 : Int, ∃ f4_71 : Int, ∃ f5_72 : Int, ∃ f6_73 : Int, ∃ f7_74 : Nat, ∃ f8_75 : Nat, ∃ f9_76 : Int, ∃ f10_77 : Int, ∃ f11_78 : Int, ∃ f12_79 : Int, w_62[a0]? = some (zob 2 [zp f0_67, zp f1_68, zj f2_69, zj f3_70, zj f4_71, zj f5_72, zj f6_73, zp f7_74, zp f8_75, zj f9_76, zj f10_77, zj f11_78, zj f12_79]) ∧ Zr sc 57 5 [zp a0, zp a1, zj (x2 + 1)] [] (w_62.set a0 (zob 2 [zp f0_67, zp f1_68, zj f2_69, zj f3_70, zj f4_71, zj f5_72, zj f6_73, zp f7_74, zp f8_75, zj f9_76, zj f10_77, zj (max f11_53 r_64), zj f12_79])) ov w' c s)))))) ∧ (r_39 = 0 → (∃ f0_81 : Nat, ∃ f1_82 : Nat, ∃ f2_83 : Nat, ∃ f3_84 : Int, w_37[a1]? = some (zob 5 [zp f0_81, zp f1_82, zp f2_83, zj f3_84]) ∧ (∃ r_87 : Int, ∃ w_85 : List zE, Zc sc 61 [zp a1, zj x2] w_37 (some (zj r_87)) w_85 0 0 ∧ (∃ f0_89 : Nat, ∃ f1_90 : Nat, ∃ f2_91 : Int, ∃ f3_92 : Int, ∃ f4_93 : Int, ∃ f5_94 : Int, ∃ f6_95 : Int, ∃ f7_96 : Nat, ∃ f8_97 : Nat, ∃ f9_98 : Int, ∃ f10_99 : Int, ∃ f11_100 : Int, ∃ f12_101 : Int, w_85[a0]? = some (zob 2 [zp f0_89, zp f1_90, zj f2_91, zj f3_92, zj f4_93, zj f5_94, zj f6_95, zp f7_96, zp f8_97, zj f9_98, zj f10_99, zj f11_100, zj f12_101]) ∧ (∃ w_102 : List zE, Zc sc 62 [zp a0, zj r_87] w_85 none w_102 0 0 ∧ (∃ f0_105 : Nat, ∃ f1_106 : Nat, ∃ f2_107 : Int, ∃ f3_108 : Int, ∃ f4_109 : Int, ∃ f5_110 : Int, ∃ f6_111 : Int, ∃ f7_112 : Nat, ∃ f8_113 : Nat, ∃ f9_114 : Int, ∃ f10_115 : Int, ∃ f11_116 : Int, ∃ f12_117 : Int, w_102[a0]? = some (zob 2 [zp f0_105, zp f1_106, zj f2_107, zj f3_108, zj f4_109, zj f5_110, zj f6_111, zp f7_112, zp f8_113, zj f9_114, zj f10_115, zj f11_116, zj f12_117]) ∧ (∃ f0_119 : Nat, ∃ f1_120 : Nat, ∃ f2_121 : Nat, ∃ f3_122 : Nat, ∃ f4_123 : Int, ∃ f5_124 : Int, w_102[f0_105]? = some (zob 0 [zp f0_119, zp f1_120, zp f2_121, zp f3_122, zj f4_123, zj f5_124]) ∧ (∃ r_127 : Int, ∃ w_125 : List zE, Zc sc 28 [zp f0_105] w_102 (some (zj r_127)) w_125 0 0 ∧ ((zrg f11_116 ∧ zrg r_127) ∧ (∃ f0_130 : Nat, ∃ f1_131 : Nat, ∃ f2_132 : Int, ∃ f3_133 : Int, ∃ f4_134 : Int, ∃ f5_135 : Int, ∃ f6_136 : Int, ∃ f7_137 : Nat, ∃ f8_138 : Nat, ∃ f9_139 : Int, ∃ f10_140 : Int, ∃ f11_141 : Int, ∃ f12_142 : Int, w_125[a0]? = some (zob 2 [zp f0_130, zp f1_131, zj f2_132, zj f3_133, zj f4_134, zj f5_135, zj f6_136, zp f7_137, zp f8_138, zj f9_139, zj f10_140, zj f11_141, zj f12_142]) ∧ Zr sc 57 5 [zp a0, zp a1, zj (x2 + 1)] [] (w_125.set a0 (zob 2 [zp f0_130, zp f1_131, zj f2_132, zj f3_133, zj f4_134, zj f5_135, zj f6_136, zp f7_137, zp f8_138, zj f9_139, zj f10_140, zj (max f11_116 r_127), zj f12_142])) ov w' c s)))))))))) ∧ (r_39 = 1 → (∃ f0_144 : Nat, ∃ f1_145 : Nat, ∃ f2_146 : Nat, ∃ f3_147 : Int, w_37[a1]? = some (zob 5 [zp f0_144, zp f1_145, zp f2_146, zj f3_147]) ∧ (∃ r_150 : Int, ∃ w_148 : List zE, Zc sc 82 [zp a1, zj x2] w_37 (some (zj r_150)) w_148 0 0 ∧ (∃ f0_152 : Nat, ∃ f1_153 : Nat, ∃ f2_154 : Int, ∃ f3_155 : Int, ∃ f4_156 : Int, ∃ f5_157 : Int, ∃ f6_158 : Int, ∃ f7_159 : Nat, ∃ f8_160 : Nat, ∃ f9_161 : Int, ∃ f10_162 : Int, ∃ f11_163 : Int, ∃ f12_164 : Int, w_148[a0]? = some (zob 2 [zp f0_152, zp f1_153, zj f2_154, zj f3_155, zj f4_156, zj f5_157, zj f6_158, zp f7_159, zp f8_160, zj f9_161, zj f10_162, zj f11_163, zj f12_164]) ∧ (∃ w_165 : List zE, Zc sc 83 [zp a0, zj r_150] w_148 none w_165 0 0 ∧ (∃ f0_168 : Nat, ∃ f1_169 : Nat, ∃ f2_170 : Int, ∃ f3_171 : Int, ∃ f4_172 : Int, ∃ f5_173 : Int, ∃ f6_174 : Int, ∃ f7_175 : Nat, ∃ f8_176 : Nat, ∃ f9_177 : Int, ∃ f10_178 : Int, ∃ f11_179 : Int, ∃ f12_180 : Int, w_165[a0]? = some (zob 2 [zp f0_168, zp f1_169, zj f2_170, zj f3_171, zj f4_172, zj f5_173, zj f6_174, zp f7_175, zp f8_176, zj f9_177, zj f10_178, zj f11_179, zj f12_180]) ∧ (∃ f0_182 : Nat, ∃ f1_183 : Nat, ∃ f2_184 : Nat, ∃ f3_185 : Nat, ∃ f4_186 : Int, ∃ f5_187 : Int, w_165[f0_168]? = some (zob 0 [zp f0_182, zp f1_183, zp f2_184, zp f3_185, zj f4_186, zj f5_187]) ∧ (∃ r_190 : Int, ∃ w_188 : List zE, Zc sc 28 [zp f0_168] w_165 (some (zj r_190)) w_188 0 0 ∧ ((zrg f11_179 ∧ zrg r_190) ∧ (∃ f0_193 : Nat, ∃ f1_194 : Nat, ∃ f2_195 : Int, ∃ f3_196 : Int, ∃ f4_197 : Int, ∃ f5_198 : Int, ∃ f6_199 : Int, ∃ f7_200 : Nat, ∃ f8_201 : Nat, ∃ f9_202 : Int, ∃ f10_203 : Int, ∃ f11_204 : Int, ∃ f12_205 : Int, w_188[a0]? = some (zob 2 [zp f0_193, zp f1_194, zj f2_195, zj f3_196, zj f4_197, zj f5_198, zj f6_199, zp f7_200, zp f8_201, zj f9_202, zj f10_203, zj f11_204, zj f12_205]) ∧ Zr sc 57 5 [zp a0, zp a1, zj (x2 + 1)] [] (w_188.set a0 (zob 2 [zp f0_193, zp f1_194, zj f2_195, zj f3_196, zj f4_197, zj f5_198, zj f6_199, zp f7_200, zp f8_201, zj f9_202, zj f10_203, zj (max f11_179 r_190), zj f12_205])) ov w' c s)))))))))) ∧ (r_39 = 2 → (∃ f0_207 : Nat, ∃ f1_208 : Nat, ∃ f2_209 : Nat, ∃ f3_210 : Int, w_37[a1]? = some (zob 5 [zp f0_207, zp f1_208, zp f2_209, zj f3_210]) ∧ (∃ r_213 : Int, ∃ w_211 : List zE, Zc sc 82 [zp a1, zj x2] w_37 (some (zj r_213)) w_211 0 0 ∧ (∃ f0_215 : Nat, ∃ f1_216 : Nat, ∃ f2_217 : Nat, ∃ f3_218 : Int, w_211[a1]? = some (zob 5 [zp f0_215, zp f1_216, zp f2_217, zj f3_218]) ∧ (∃ r_221 : Int, ∃ w_219 : List zE, Zc sc 61 [zp a1, zj x2] w_211 (some (zj r_221)) w_219 0 0 ∧ (∃ f0_223 : Nat, ∃ f1_224 : Nat, ∃ f2_225 : Int, ∃ f3_226 : Int, ∃ f4_227 : Int, ∃ f5_228 : Int, ∃ f6_229 : Int, ∃ f7_230 : Nat, ∃ f8_231 : Nat, ∃ f9_232 : Int, ∃ f10_233 : Int, ∃ f11_234 : Int, ∃ f12_235 : Int, w_219[a0]? = some (zob 2 [zp f0_223, zp f1_224, zj f2_225, zj f3_226, zj f4_227, zj f5_228, zj f6_229, zp f7_230, zp f8_231, zj f9_232, zj f10_233, zj f11_234, zj f12_235]) ∧ (∃ w_236 : List zE, Zc sc 88 [zp a0, zj r_213, zj r_221] w_219 none w_236 0 0 ∧ (∃ f0_239 : Nat, ∃ f1_240 : Nat, ∃ f2_241 : Int, ∃ f3_242 : Int, ∃ f4_243 : Int, ∃ f5_244 : Int, ∃ f6_245 : Int, ∃ f7_246 : Nat, ∃ f8_247 : Nat, ∃ f9_248 : Int, ∃ f10_249 : Int, ∃ f11_250 : Int, ∃ f12_251 : Int, w_236[a0]? = some (zob 2 [zp f0_239, zp f1_240, zj f2_241, zj f3_242, zj f4_243, zj f5_244, zj f6_245, zp f7_246, zp f8_247, zj f9_248, zj f10_249, zj f11_250, zj f12_251]) ∧ (∃ f0_253 : Nat, ∃ f1_254 : Nat, ∃ f2_255 : Nat, ∃ f3_256 : Nat, ∃ f4_257 : Int, ∃ f5_258 : Int, w_236[f0_239]? = some (zob 0 [zp f0_253, zp f1_254, zp f2_255, zp f3_256, zj f4_257, zj f5_258]) ∧ (∃ r_261 : Int, ∃ w_259 : List zE, Zc sc 28 [zp f0_239] w_236 (some (zj r_261)) w_259 0 0 ∧ ((zrg f11_250 ∧ zrg r_261) ∧ (∃ f0_264 : Nat, ∃ f1_265 : Nat, ∃ f2_266 : Int, ∃ f3_267 : Int, ∃ f4_268 : Int, ∃ f5_269 : Int, ∃ f6_270 : Int, ∃ f7_271 : Nat, ∃ f8_272 : Nat, ∃ f9_273 : Int, ∃ f10_274 : Int, ∃ f11_275 : Int, ∃ f12_276 : Int, w_259[a0]? = some (zob 2 [zp f0_264, zp f1_265, zj f2_266, zj f3_267, zj f4_268, zj f5_269, zj f6_270, zp f7_271, zp f8_272, zj f9_273, zj f10_274, zj f11_275, zj f12_276]) ∧ Zr sc 57 5 [zp a0, zp a1, zj (x2 + 1)] [] (w_259.set a0 (zob 2 [zp f0_264, zp f1_265, zj f2_266, zj f3_267, zj f4_268, zj f5_269, zj f6_270, zp f7_271, zp f8_272, zj f9_273, zj f10_274, zj (max f11_250 r_261), zj f12_276])) ov w' c s)))))))))))) ∧ (r_39 = 3 → (∃ f0_278 : Nat, ∃ f1_279 : Nat, ∃ f2_280 : Int, ∃ f3_281 : Int, ∃ f4_282 : Int, ∃ f5_283 : Int, ∃ f6_284 : Int, ∃ f7_285 : Nat, ∃ f8_286 : Nat, ∃ f9_287 : Int, ∃ f10_288 : Int, ∃ f11_289 : Int, ∃ f12_290 : Int, w_37[a0]? = some (zob 2 [zp f0_278, zp f1_279, zj f2_280, zj f3_281, zj f4_282, zj f5_283, zj f6_284, zp f7_285, zp f8_286, zj f9_287, zj f10_288, zj f11_289, zj f12_290]) ∧ (∃ w_291 : List zE, Zc sc 94 [zp a0] w_37 none w_291 0 0 ∧ (∃ f0_294 : Nat, ∃ f1_295 : Nat, ∃ f2_296 : Int, ∃ f3_297 : Int, ∃ f4_298 : Int, ∃ f5_299 : Int, ∃ f6_300 : Int, ∃ f7_301 : Nat, ∃ f8_302 : Nat, ∃ f9_303 : Int, ∃ f10_304 : Int, ∃ f11_305 : Int, ∃ f12_306 : Int, w_291[a0]? = some (zob 2 [zp f0_294, zp f1_295, zj f2_296, zj f3_297, zj f4_298, zj f5_299, zj f6_300, zp f7_301, zp f8_302, zj f9_303, zj f10_304, zj f11_305, zj f12_306]) ∧ (∃ f0_308 : Nat, ∃ f1_309 : Nat, ∃ f2_310 : Nat, ∃ f3_311 : Nat, ∃ f4_312 : Int, ∃ f5_313 : Int, w_291[f0_294]? = some (zob 0 [zp f0_308, zp f1_309, zp f2_310, zp f3_311, zj f4_312, zj f5_313]) ∧ (∃ r_316 : Int, ∃ w_314 : List zE, Zc sc 28 [zp f0_294] w_291 (some (zj r_316)) w_314 0 0 ∧ ((zrg f11_305 ∧ zrg r_316) ∧ (∃ f0_319 : Nat, ∃ f1_320 : Nat, ∃ f2_321 : Int, ∃ f3_322 : Int, ∃ f4_323 : Int, ∃ f5_324 : Int, ∃ f6_325 : Int, ∃ f7_326 : Nat, ∃ f8_327 : Nat, ∃ f9_328 : Int, ∃ f10_329 : Int, ∃ f11_330 : Int, ∃ f12_331 : Int, w_314[a0]? = some (zob 2 [zp f0_319, zp f1_320, zj f2_321, zj f3_322, zj f4_323, zj f5_324, zj f6_325, zp f7_326, zp f8_327, zj f9_328, zj f10_329, zj f11_330, zj f12_331]) ∧ Zr sc 57 5 [zp a0, zp a1, zj (x2 + 1)] [] (w_314.set a0 (zob 2 [zp f0_319, zp f1_320, zj f2_321, zj f3_322, zj f4_323, zj f5_324, zj f6_325, zp f7_326, zp f8_327, zj f9_328, zj f10_329, zj (max f11_305 r_316), zj f12_331])) ov w' c s)))))))) ∧ (r_39 = 4 → (∃ f0_333 : Nat, ∃ f1_334 : Nat, ∃ f2_335 : Int, ∃ f3_336 : Int, ∃ f4_337 : Int, ∃ f5_338 : Int, ∃ f6_339 : Int, ∃ f7_340 : Nat, ∃ f8_341 : Nat, ∃ f9_342 : Int, ∃ f10_343 : Int, ∃ f11_344 : Int, ∃ f12_345 : Int, w_37[a0]? = some (zob 2 [zp f0_333, zp f1_334, zj f2_335, zj f3_336, zj f4_337, zj f5_338, zj f6_339, zp f7_340, zp f8_341, zj f9_342, zj f10_343, zj f11_344, zj f12_345]) ∧ ((a0 ≠ f0_333) ∧ (∃ f0_348 : Nat, ∃ f1_349 : Nat, ∃ f2_350 : Nat, ∃ f3_351 : Nat, ∃ f4_352 : Int, ∃ f5_353 : Int, w_37[f0_333]? = some (zob 0 [zp f0_348, zp f1_349, zp f2_350, zp f3_351, zj f4_352, zj f5_353]) ∧ (∃ r_356 : Int, ∃ w_354 : List zE, Zc sc 28 [zp f0_333] (w_37.set a0 (zob 2 [zp f0_333, zp f1_334, zj f2_335, zj f3_336, zj f4_337, zj f5_338, zj f6_339, zp f7_340, zp f8_341, zj f9_342, zj (f10_343 + 1), zj f11_344, zj f12_345])) (some (zj r_356)) w_354 0 0 ∧ ((zrg f11_344 ∧ zrg r_356) ∧ (∃ f0_359 : Nat, ∃ f1_360 : Nat, ∃ f2_361 : Int, ∃ f3_362 : Int, ∃ f4_363 : Int, ∃ f5_364 : Int, ∃ f6_365 : Int, ∃ f7_366 : Nat, ∃ f8_367 : Nat, ∃ f9_368 : Int, ∃ f10_369 : Int, ∃ f11_370 : Int, ∃ f12_371 : Int, w_354[a0]? = some (zob 2 [zp f0_359, zp f1_360, zj f2_361, zj f3_362, zj f4_363, zj f5_364, zj f6_365, zp f7_366, zp f8_367, zj f9_368, zj f10_369, zj f11_370, zj f12_371]) ∧ Zr sc 57 5 [zp a0, zp a1, zj (x2 + 1)] [] (w_354.set a0 (zob 2 [zp f0_359, zp f1_360, zj f2_361, zj f3_362, zj f4_363, zj f5_364, zj f6_365, zp f7_366, zp f8_367, zj f9_368, zj f10_369, zj (max f11_344 r_356), zj f12_371])) ov w' c s))))))) ∧ (r_39 = 5 → (∃ f0_373 : Nat, ∃ f1_374 : Nat, ∃ f2_375 : Int, ∃ f3_376 : Int, ∃ f4_377 : Int, ∃ f5_378 : Int, ∃ f6_379 : Int, ∃ f7_380 : Nat, ∃ f8_381 : Nat, ∃ f9_382 : Int, ∃ f10_383 : Int, ∃ f11_384 : Int, ∃ f12_385 : Int, w_37[a0]? = some (zob 2 [zp f0_373, zp f1_374, zj f2_375, zj f3_376, zj f4_377, zj f5_378, zj f6_379, zp f7_380, zp f8_381, zj f9_382, zj f10_383, zj f11_384, zj f12_385]) ∧ (∃ w_386 : List zE, Zc sc 97 [zp a0] w_37 none w_386 0 0 ∧ (∃ f0_389 : Nat, ∃ f1_390 : Nat, ∃ f2_391 : Int, ∃ f3_392 : Int, ∃ f4_393 : Int, ∃ f5_394 : Int, ∃ f6_395 : Int, ∃ f7_396 : Nat, ∃ f8_397 : Nat, ∃ f9_398 : Int, ∃ f10_399 : Int, ∃ f11_400 : Int, ∃ f12_401 : Int, w_386[a0]? = some (zob 2 [zp f0_389, zp f1_390, zj f2_391, zj f3_392, zj f4_393, zj f5_394, zj f6_395, zp f7_396, zp f8_397, zj f9_398, zj f10_399, zj f11_400, zj f12_401]) ∧ (∃ f0_403 : Nat, ∃ f1_404 : Nat, ∃ f2_405 : Nat, ∃ f3_406 : Nat, ∃ f4_407 : Int, ∃ f5_408 : Int, w_386[f0_389]? = some (zob 0 [zp f0_403, zp f1_404, zp f2_405, zp f3_406, zj f4_407, zj f5_408]) ∧ (∃ r_411 : Int, ∃ w_409 : List zE, Zc sc 28 [zp f0_389] w_386 (some (zj r_411)) w_409 0 0 ∧ ((zrg f11_400 ∧ zrg r_411) ∧ (∃ f0_414 : Nat, ∃ f1_415 : Nat, ∃ f2_416 : Int, ∃ f3_417 : Int, ∃ f4_418 : Int, ∃ f5_419 : Int, ∃ f6_420 : Int, ∃ f7_421 : Nat, ∃ f8_422 : Nat, ∃ f9_423 : Int, ∃ f10_424 : Int, ∃ f11_425 : Int, ∃ f12_426 : Int, w_409[a0]? = some (zob 2 [zp f0_414, zp f1_415, zj f2_416, zj f3_417, zj f4_418, zj f5_419, zj f6_420, zp f7_421, zp f8_422, zj f9_423, zj f10_424, zj f11_425, zj f12_426]) ∧ Zr sc 57 5 [zp a0, zp a1, zj (x2 + 1)] [] (w_409.set a0 (zob 2 [zp f0_414, zp f1_415, zj f2_416, zj f3_417, zj f4_418, zj f5_419, zj f6_420, zp f7_421, zp f8_422, zj f9_423, zj f10_424, zj (max f11_400 r_411), zj f12_426])) ov w' c s)))))))))))))))))) : Zr sc 57 5 [zp a0, zp a1, zj x2] [] w ov w' c s := by
  refine Zr_st (q := (6, [zp a0, zp a1, zj x2], [zj x2])) rfl rfl rfl ?_
  show Zr sc 57 6 [zp a0, zp a1, zj x2] [zj x2] w ov w' c s
  refine Zr_st (q := (7, [zp a0, zp a1, zj x2], [zp a1, zj x2])) rfl rfl rfl ?_
  show Zr sc 57 7 [zp a0, zp a1, zj x2] [zp a1, zj x2] w ov w' c s
  obtain ⟨f0_2, f1_3, f2_4, f3_5, hw_1, h⟩ := h
  obtain ⟨r_8, w_6, hk_7, h⟩ := h
  refine rn_cal0 (ins := .invokevirtual 80) (rest := [zj x2]) rfl rfl rfl rfl (zinv_v (fs := _) hw_1 rfl rfl rfl rfl) rfl rfl hk_7 ?_
  show Zr sc 57 10 [zp a0, zp a1, zj x2] [zj r_8, zj x2] w_6 ov w' c s
  obtain ⟨hr_9, h⟩ := h
  refine Zr_br (p := r_8 ≤ x2) rfl rfl (zcmp_j (cnd := .ge) hr_9.1 hr_9.2) (fun hp => ?_) (fun hp => ?_)
  · replace h := h.1 hp
    show Zr sc 57 148 [zp a0, zp a1, zj x2] [] w_6 ov w' c s
    refine Zr_st (q := (149, [zp a0, zp a1, zj x2], [zp a0])) rfl rfl rfl ?_
    show Zr sc 57 149 [zp a0, zp a1, zj x2] [zp a0] w_6 ov w' c s
    refine Zr_st (q := (150, [zp a0, zp a1, zj x2], [zp a1, zp a0])) rfl rfl rfl ?_
    show Zr sc 57 150 [zp a0, zp a1, zj x2] [zp a1, zp a0] w_6 ov w' c s
    obtain ⟨f0_11, f1_12, f2_13, f3_14, hw_10, h⟩ := h
    obtain ⟨r_17, w_15, hk_16, h⟩ := h
    refine rn_cal0 (ins := .invokevirtual 80) (rest := [zp a0]) rfl rfl rfl rfl (zinv_v (fs := _) hw_10 rfl rfl rfl rfl) rfl rfl hk_16 ?_
    show Zr sc 57 153 [zp a0, zp a1, zj x2] [zj r_17, zp a0] w_15 ov w' c s
    obtain ⟨f0_19, f1_20, f2_21, f3_22, f4_23, f5_24, f6_25, f7_26, f8_27, f9_28, f10_29, f11_30, f12_31, hw_18, h⟩ := h
    refine rl_pf rfl hw_18 rfl rfl rfl ?_
    show Zr sc 57 156 [zp a0, zp a1, zj x2] [] (w_15.set a0 (zob 2 [zp f0_19, zp f1_20, zj f2_21, zj f3_22, zj f4_23, zj f5_24, zj f6_25, zp f7_26, zp f8_27, zj f9_28, zj f10_29, zj f11_30, zj r_17])) ov w' c s
    refine Zr_st (q := (157, [zp a0, zp a1, zj x2], [zp a0])) rfl rfl rfl ?_
    show Zr sc 57 157 [zp a0, zp a1, zj x2] [zp a0] (w_15.set a0 (zob 2 [zp f0_19, zp f1_20, zj f2_21, zj f3_22, zj f4_23, zj f5_24, zj f6_25, zp f7_26, zp f8_27, zj f9_28, zj f10_29, zj f11_30, zj r_17])) ov w' c s
    obtain ⟨h1, h2, h3, h4⟩ := h
    subst h1; subst h2; subst h3; subst h4
    exact Zr_ret (ins := .areturn) rfl rfl
  · replace h := h.2 hp
    show Zr sc 57 13 [zp a0, zp a1, zj x2] [] w_6 ov w' c s
    refine Zr_st (q := (14, [zp a0, zp a1, zj x2], [zp a1])) rfl rfl rfl ?_
    show Zr sc 57 14 [zp a0, zp a1, zj x2] [zp a1] w_6 ov w' c s
    refine Zr_st (q := (15, [zp a0, zp a1, zj x2], [zj x2, zp a1])) rfl rfl rfl ?_
    show Zr sc 57 15 [zp a0, zp a1, zj x2] [zj x2, zp a1] w_6 ov w' c s
    obtain ⟨f0_33, f1_34, f2_35, f3_36, hw_32, h⟩ := h
    obtain ⟨r_39, w_37, hk_38, h⟩ := h
    refine rn_cal0 (ins := .invokevirtual 86) (rest := []) rfl rfl rfl rfl (zinv_v (fs := _) hw_32 rfl rfl rfl rfl) rfl rfl hk_38 ?_
    show Zr sc 57 18 [zp a0, zp a1, zj x2] [zj r_39] w_37 ov w' c s
    obtain ⟨hr_40, h⟩ := h
    have hsw : (r_39 < 0 ∨ 5 < r_39) ∨ r_39 = 0 ∨ r_39 = 1 ∨ r_39 = 2 ∨ r_39 = 3 ∨ r_39 = 4 ∨ r_39 = 5 := by omega
    rcases hsw with hp | hp | hp | hp | hp | hp | hp
    · replace h := h.1 hp
      refine rl_sw (t := 124) rfl hr_40 (zsw_d hp rfl) ?_
      show Zr sc 57 124 [zp a0, zp a1, zj x2] [] w_37 ov w' c s
      refine Zr_st (q := (125, [zp a0, zp a1, zj x2], [zp a0])) rfl rfl rfl ?_
      show Zr sc 57 125 [zp a0, zp a1, zj x2] [zp a0] w_37 ov w' c s
      refine Zr_st (q := (126, [zp a0, zp a1, zj x2], [zp a0, zp a0])) rfl rfl rfl ?_
      show Zr sc 57 126 [zp a0, zp a1, zj x2] [zp a0, zp a0] w_37 ov w' c s
      obtain ⟨f0_42, f1_43, f2_44, f3_45, f4_46, f5_47, f6_48, f7_49, f8_50, f9_51, f10_52, f11_53, f12_54, hw_41, h⟩ := h
      refine rl_gf rfl hw_41 rfl rfl ?_
      show Zr sc 57 129 [zp a0, zp a1, zj x2] [zj f11_53, zp a0] w_37 ov w' c s
      refine Zr_st (q := (130, [zp a0, zp a1, zj x2], [zp a0, zj f11_53, zp a0])) rfl rfl rfl ?_
      show Zr sc 57 130 [zp a0, zp a1, zj x2] [zp a0, zj f11_53, zp a0] w_37 ov w' c s
      refine rl_gf rfl hw_41 rfl rfl ?_
      show Zr sc 57 133 [zp a0, zp a1, zj x2] [zp f0_42, zj f11_53, zp a0] w_37 ov w' c s
      obtain ⟨f0_56, f1_57, f2_58, f3_59, f4_60, f5_61, hw_55, h⟩ := h
      obtain ⟨r_64, w_62, hk_63, h⟩ := h
      refine rn_cal0 (ins := .invokevirtual 110) (rest := [zj f11_53, zp a0]) rfl rfl rfl rfl (zinv_v (fs := _) hw_55 rfl rfl rfl rfl) rfl rfl hk_63 ?_
      show Zr sc 57 136 [zp a0, zp a1, zj x2] [zj r_64, zj f11_53, zp a0] w_62 ov w' c s
      obtain ⟨hm_65, h⟩ := h
      refine Zr_mx (b := true) (ins := .invokestatic 113) (rest := [zp a0]) rfl rfl rfl rfl (zinv_t2 (rest := [zp a0]) rfl rfl rfl rfl rfl) rfl (zmx_j hm_65.1 hm_65.2) ?_
      show Zr sc 57 139 [zp a0, zp a1, zj x2] [zj (max f11_53 r_64), zp a0] w_62 ov w' c s
      obtain ⟨f0_67, f1_68, f2_69, f3_70, f4_71, f5_72, f6_73, f7_74, f8_75, f9_76, f10_77, f11_78, f12_79, hw_66, h⟩ := h
      refine rl_pf rfl hw_66 rfl rfl rfl ?_
      show Zr sc 57 142 [zp a0, zp a1, zj x2] [] (w_62.set a0 (zob 2 [zp f0_67, zp f1_68, zj f2_69, zj f3_70, zj f4_71, zj f5_72, zj f6_73, zp f7_74, zp f8_75, zj f9_76, zj f10_77, zj (max f11_53 r_64), zj f12_79])) ov w' c s
      refine rl_inc rfl rfl rfl rfl ?_
      show Zr sc 57 145 [zp a0, zp a1, zj (x2 + 1)] [] (w_62.set a0 (zob 2 [zp f0_67, zp f1_68, zj f2_69, zj f3_70, zj f4_71, zj f5_72, zj f6_73, zp f7_74, zp f8_75, zj f9_76, zj f10_77, zj (max f11_53 r_64), zj f12_79])) ov w' c s
      refine Zr_st (q := (5, [zp a0, zp a1, zj (x2 + 1)], [])) rfl rfl rfl ?_
      show Zr sc 57 5 [zp a0, zp a1, zj (x2 + 1)] [] (w_62.set a0 (zob 2 [zp f0_67, zp f1_68, zj f2_69, zj f3_70, zj f4_71, zj f5_72, zj f6_73, zp f7_74, zp f8_75, zj f9_76, zj f10_77, zj (max f11_53 r_64), zj f12_79])) ov w' c s
      exact h
    · replace h := h.2.1 hp
      refine rl_sw (t := 56) rfl hr_40 (by rw [hp]; rfl) ?_
      show Zr sc 57 56 [zp a0, zp a1, zj x2] [] w_37 ov w' c s
      refine Zr_st (q := (57, [zp a0, zp a1, zj x2], [zp a0])) rfl rfl rfl ?_
      show Zr sc 57 57 [zp a0, zp a1, zj x2] [zp a0] w_37 ov w' c s
      refine Zr_st (q := (58, [zp a0, zp a1, zj x2], [zp a1, zp a0])) rfl rfl rfl ?_
      show Zr sc 57 58 [zp a0, zp a1, zj x2] [zp a1, zp a0] w_37 ov w' c s
      refine Zr_st (q := (59, [zp a0, zp a1, zj x2], [zj x2, zp a1, zp a0])) rfl rfl rfl ?_
      show Zr sc 57 59 [zp a0, zp a1, zj x2] [zj x2, zp a1, zp a0] w_37 ov w' c s
      obtain ⟨f0_81, f1_82, f2_83, f3_84, hw_80, h⟩ := h
      obtain ⟨r_87, w_85, hk_86, h⟩ := h
      refine rn_cal0 (ins := .invokevirtual 89) (rest := [zp a0]) rfl rfl rfl rfl (zinv_v (fs := _) hw_80 rfl rfl rfl rfl) rfl rfl hk_86 ?_
      show Zr sc 57 62 [zp a0, zp a1, zj x2] [zj r_87, zp a0] w_85 ov w' c s
      obtain ⟨f0_89, f1_90, f2_91, f3_92, f4_93, f5_94, f6_95, f7_96, f8_97, f9_98, f10_99, f11_100, f12_101, hw_88, h⟩ := h
      obtain ⟨w_102, hk_103, h⟩ := h
      refine rn_cal0 (ins := .invokevirtual 90) (rest := []) rfl rfl rfl rfl (zinv_v (fs := _) hw_88 rfl rfl rfl rfl) rfl rfl hk_103 ?_
      show Zr sc 57 65 [zp a0, zp a1, zj x2] [] w_102 ov w' c s
      refine Zr_st (q := (124, [zp a0, zp a1, zj x2], [])) rfl rfl rfl ?_
      show Zr sc 57 124 [zp a0, zp a1, zj x2] [] w_102 ov w' c s
      refine Zr_st (q := (125, [zp a0, zp a1, zj x2], [zp a0])) rfl rfl rfl ?_
      show Zr sc 57 125 [zp a0, zp a1, zj x2] [zp a0] w_102 ov w' c s
      refine Zr_st (q := (126, [zp a0, zp a1, zj x2], [zp a0, zp a0])) rfl rfl rfl ?_
      show Zr sc 57 126 [zp a0, zp a1, zj x2] [zp a0, zp a0] w_102 ov w' c s
      obtain ⟨f0_105, f1_106, f2_107, f3_108, f4_109, f5_110, f6_111, f7_112, f8_113, f9_114, f10_115, f11_116, f12_117, hw_104, h⟩ := h
      refine rl_gf rfl hw_104 rfl rfl ?_
      show Zr sc 57 129 [zp a0, zp a1, zj x2] [zj f11_116, zp a0] w_102 ov w' c s
      refine Zr_st (q := (130, [zp a0, zp a1, zj x2], [zp a0, zj f11_116, zp a0])) rfl rfl rfl ?_
      show Zr sc 57 130 [zp a0, zp a1, zj x2] [zp a0, zj f11_116, zp a0] w_102 ov w' c s
      refine rl_gf rfl hw_104 rfl rfl ?_
      show Zr sc 57 133 [zp a0, zp a1, zj x2] [zp f0_105, zj f11_116, zp a0] w_102 ov w' c s
      obtain ⟨f0_119, f1_120, f2_121, f3_122, f4_123, f5_124, hw_118, h⟩ := h
      obtain ⟨r_127, w_125, hk_126, h⟩ := h
      refine rn_cal0 (ins := .invokevirtual 110) (rest := [zj f11_116, zp a0]) rfl rfl rfl rfl (zinv_v (fs := _) hw_118 rfl rfl rfl rfl) rfl rfl hk_126 ?_
      show Zr sc 57 136 [zp a0, zp a1, zj x2] [zj r_127, zj f11_116, zp a0] w_125 ov w' c s
      obtain ⟨hm_128, h⟩ := h
      refine Zr_mx (b := true) (ins := .invokestatic 113) (rest := [zp a0]) rfl rfl rfl rfl (zinv_t2 (rest := [zp a0]) rfl rfl rfl rfl rfl) rfl (zmx_j hm_128.1 hm_128.2) ?_
      show Zr sc 57 139 [zp a0, zp a1, zj x2] [zj (max f11_116 r_127), zp a0] w_125 ov w' c s
      obtain ⟨f0_130, f1_131, f2_132, f3_133, f4_134, f5_135, f6_136, f7_137, f8_138, f9_139, f10_140, f11_141, f12_142, hw_129, h⟩ := h
      refine rl_pf rfl hw_129 rfl rfl rfl ?_
      show Zr sc 57 142 [zp a0, zp a1, zj x2] [] (w_125.set a0 (zob 2 [zp f0_130, zp f1_131, zj f2_132, zj f3_133, zj f4_134, zj f5_135, zj f6_136, zp f7_137, zp f8_138, zj f9_139, zj f10_140, zj (max f11_116 r_127), zj f12_142])) ov w' c s
      refine rl_inc rfl rfl rfl rfl ?_
      show Zr sc 57 145 [zp a0, zp a1, zj (x2 + 1)] [] (w_125.set a0 (zob 2 [zp f0_130, zp f1_131, zj f2_132, zj f3_133, zj f4_134, zj f5_135, zj f6_136, zp f7_137, zp f8_138, zj f9_139, zj f10_140, zj (max f11_116 r_127), zj f12_142])) ov w' c s
      refine Zr_st (q := (5, [zp a0, zp a1, zj (x2 + 1)], [])) rfl rfl rfl ?_
      show Zr sc 57 5 [zp a0, zp a1, zj (x2 + 1)] [] (w_125.set a0 (zob 2 [zp f0_130, zp f1_131, zj f2_132, zj f3_133, zj f4_134, zj f5_135, zj f6_136, zp f7_137, zp f8_138, zj f9_139, zj f10_140, zj (max f11_116 r_127), zj f12_142])) ov w' c s
      exact h
    · replace h := h.2.2.1 hp
      refine rl_sw (t := 68) rfl hr_40 (by rw [hp]; rfl) ?_
      show Zr sc 57 68 [zp a0, zp a1, zj x2] [] w_37 ov w' c s
      refine Zr_st (q := (69, [zp a0, zp a1, zj x2], [zp a0])) rfl rfl rfl ?_
      show Zr sc 57 69 [zp a0, zp a1, zj x2] [zp a0] w_37 ov w' c s
      refine Zr_st (q := (70, [zp a0, zp a1, zj x2], [zp a1, zp a0])) rfl rfl rfl ?_
      show Zr sc 57 70 [zp a0, zp a1, zj x2] [zp a1, zp a0] w_37 ov w' c s
      refine Zr_st (q := (71, [zp a0, zp a1, zj x2], [zj x2, zp a1, zp a0])) rfl rfl rfl ?_
      show Zr sc 57 71 [zp a0, zp a1, zj x2] [zj x2, zp a1, zp a0] w_37 ov w' c s
      obtain ⟨f0_144, f1_145, f2_146, f3_147, hw_143, h⟩ := h
      obtain ⟨r_150, w_148, hk_149, h⟩ := h
      refine rn_cal0 (ins := .invokevirtual 94) (rest := [zp a0]) rfl rfl rfl rfl (zinv_v (fs := _) hw_143 rfl rfl rfl rfl) rfl rfl hk_149 ?_
      show Zr sc 57 74 [zp a0, zp a1, zj x2] [zj r_150, zp a0] w_148 ov w' c s
      obtain ⟨f0_152, f1_153, f2_154, f3_155, f4_156, f5_157, f6_158, f7_159, f8_160, f9_161, f10_162, f11_163, f12_164, hw_151, h⟩ := h
      obtain ⟨w_165, hk_166, h⟩ := h
      refine rn_cal0 (ins := .invokevirtual 97) (rest := []) rfl rfl rfl rfl (zinv_v (fs := _) hw_151 rfl rfl rfl rfl) rfl rfl hk_166 ?_
      show Zr sc 57 77 [zp a0, zp a1, zj x2] [] w_165 ov w' c s
      refine Zr_st (q := (124, [zp a0, zp a1, zj x2], [])) rfl rfl rfl ?_
      show Zr sc 57 124 [zp a0, zp a1, zj x2] [] w_165 ov w' c s
      refine Zr_st (q := (125, [zp a0, zp a1, zj x2], [zp a0])) rfl rfl rfl ?_
      show Zr sc 57 125 [zp a0, zp a1, zj x2] [zp a0] w_165 ov w' c s
      refine Zr_st (q := (126, [zp a0, zp a1, zj x2], [zp a0, zp a0])) rfl rfl rfl ?_
      show Zr sc 57 126 [zp a0, zp a1, zj x2] [zp a0, zp a0] w_165 ov w' c s
      obtain ⟨f0_168, f1_169, f2_170, f3_171, f4_172, f5_173, f6_174, f7_175, f8_176, f9_177, f10_178, f11_179, f12_180, hw_167, h⟩ := h
      refine rl_gf rfl hw_167 rfl rfl ?_
      show Zr sc 57 129 [zp a0, zp a1, zj x2] [zj f11_179, zp a0] w_165 ov w' c s
      refine Zr_st (q := (130, [zp a0, zp a1, zj x2], [zp a0, zj f11_179, zp a0])) rfl rfl rfl ?_
      show Zr sc 57 130 [zp a0, zp a1, zj x2] [zp a0, zj f11_179, zp a0] w_165 ov w' c s
      refine rl_gf rfl hw_167 rfl rfl ?_
      show Zr sc 57 133 [zp a0, zp a1, zj x2] [zp f0_168, zj f11_179, zp a0] w_165 ov w' c s
      obtain ⟨f0_182, f1_183, f2_184, f3_185, f4_186, f5_187, hw_181, h⟩ := h
      obtain ⟨r_190, w_188, hk_189, h⟩ := h
      refine rn_cal0 (ins := .invokevirtual 110) (rest := [zj f11_179, zp a0]) rfl rfl rfl rfl (zinv_v (fs := _) hw_181 rfl rfl rfl rfl) rfl rfl hk_189 ?_
      show Zr sc 57 136 [zp a0, zp a1, zj x2] [zj r_190, zj f11_179, zp a0] w_188 ov w' c s
      obtain ⟨hm_191, h⟩ := h
      refine Zr_mx (b := true) (ins := .invokestatic 113) (rest := [zp a0]) rfl rfl rfl rfl (zinv_t2 (rest := [zp a0]) rfl rfl rfl rfl rfl) rfl (zmx_j hm_191.1 hm_191.2) ?_
      show Zr sc 57 139 [zp a0, zp a1, zj x2] [zj (max f11_179 r_190), zp a0] w_188 ov w' c s
      obtain ⟨f0_193, f1_194, f2_195, f3_196, f4_197, f5_198, f6_199, f7_200, f8_201, f9_202, f10_203, f11_204, f12_205, hw_192, h⟩ := h
      refine rl_pf rfl hw_192 rfl rfl rfl ?_
      show Zr sc 57 142 [zp a0, zp a1, zj x2] [] (w_188.set a0 (zob 2 [zp f0_193, zp f1_194, zj f2_195, zj f3_196, zj f4_197, zj f5_198, zj f6_199, zp f7_200, zp f8_201, zj f9_202, zj f10_203, zj (max f11_179 r_190), zj f12_205])) ov w' c s
      refine rl_inc rfl rfl rfl rfl ?_
      show Zr sc 57 145 [zp a0, zp a1, zj (x2 + 1)] [] (w_188.set a0 (zob 2 [zp f0_193, zp f1_194, zj f2_195, zj f3_196, zj f4_197, zj f5_198, zj f6_199, zp f7_200, zp f8_201, zj f9_202, zj f10_203, zj (max f11_179 r_190), zj f12_205])) ov w' c s
      refine Zr_st (q := (5, [zp a0, zp a1, zj (x2 + 1)], [])) rfl rfl rfl ?_
      show Zr sc 57 5 [zp a0, zp a1, zj (x2 + 1)] [] (w_188.set a0 (zob 2 [zp f0_193, zp f1_194, zj f2_195, zj f3_196, zj f4_197, zj f5_198, zj f6_199, zp f7_200, zp f8_201, zj f9_202, zj f10_203, zj (max f11_179 r_190), zj f12_205])) ov w' c s
      exact h
    · replace h := h.2.2.2.1 hp
      refine rl_sw (t := 80) rfl hr_40 (by rw [hp]; rfl) ?_
      show Zr sc 57 80 [zp a0, zp a1, zj x2] [] w_37 ov w' c s
      refine Zr_st (q := (81, [zp a0, zp a1, zj x2], [zp a0])) rfl rfl rfl ?_
      show Zr sc 57 81 [zp a0, zp a1, zj x2] [zp a0] w_37 ov w' c s
      refine Zr_st (q := (82, [zp a0, zp a1, zj x2], [zp a1, zp a0])) rfl rfl rfl ?_
      show Zr sc 57 82 [zp a0, zp a1, zj x2] [zp a1, zp a0] w_37 ov w' c s
      refine Zr_st (q := (83, [zp a0, zp a1, zj x2], [zj x2, zp a1, zp a0])) rfl rfl rfl ?_
      show Zr sc 57 83 [zp a0, zp a1, zj x2] [zj x2, zp a1, zp a0] w_37 ov w' c s
      obtain ⟨f0_207, f1_208, f2_209, f3_210, hw_206, h⟩ := h
      obtain ⟨r_213, w_211, hk_212, h⟩ := h
      refine rn_cal0 (ins := .invokevirtual 94) (rest := [zp a0]) rfl rfl rfl rfl (zinv_v (fs := _) hw_206 rfl rfl rfl rfl) rfl rfl hk_212 ?_
      show Zr sc 57 86 [zp a0, zp a1, zj x2] [zj r_213, zp a0] w_211 ov w' c s
      refine Zr_st (q := (87, [zp a0, zp a1, zj x2], [zp a1, zj r_213, zp a0])) rfl rfl rfl ?_
      show Zr sc 57 87 [zp a0, zp a1, zj x2] [zp a1, zj r_213, zp a0] w_211 ov w' c s
      refine Zr_st (q := (88, [zp a0, zp a1, zj x2], [zj x2, zp a1, zj r_213, zp a0])) rfl rfl rfl ?_
      show Zr sc 57 88 [zp a0, zp a1, zj x2] [zj x2, zp a1, zj r_213, zp a0] w_211 ov w' c s
      obtain ⟨f0_215, f1_216, f2_217, f3_218, hw_214, h⟩ := h
      obtain ⟨r_221, w_219, hk_220, h⟩ := h
      refine rn_cal0 (ins := .invokevirtual 89) (rest := [zj r_213, zp a0]) rfl rfl rfl rfl (zinv_v (fs := _) hw_214 rfl rfl rfl rfl) rfl rfl hk_220 ?_
      show Zr sc 57 91 [zp a0, zp a1, zj x2] [zj r_221, zj r_213, zp a0] w_219 ov w' c s
      obtain ⟨f0_223, f1_224, f2_225, f3_226, f4_227, f5_228, f6_229, f7_230, f8_231, f9_232, f10_233, f11_234, f12_235, hw_222, h⟩ := h
      obtain ⟨w_236, hk_237, h⟩ := h
      refine rn_cal0 (ins := .invokevirtual 100) (rest := []) rfl rfl rfl rfl (zinv_v (fs := _) hw_222 rfl rfl rfl rfl) rfl rfl hk_237 ?_
      show Zr sc 57 94 [zp a0, zp a1, zj x2] [] w_236 ov w' c s
      refine Zr_st (q := (124, [zp a0, zp a1, zj x2], [])) rfl rfl rfl ?_
      show Zr sc 57 124 [zp a0, zp a1, zj x2] [] w_236 ov w' c s
      refine Zr_st (q := (125, [zp a0, zp a1, zj x2], [zp a0])) rfl rfl rfl ?_
      show Zr sc 57 125 [zp a0, zp a1, zj x2] [zp a0] w_236 ov w' c s
      refine Zr_st (q := (126, [zp a0, zp a1, zj x2], [zp a0, zp a0])) rfl rfl rfl ?_
      show Zr sc 57 126 [zp a0, zp a1, zj x2] [zp a0, zp a0] w_236 ov w' c s
      obtain ⟨f0_239, f1_240, f2_241, f3_242, f4_243, f5_244, f6_245, f7_246, f8_247, f9_248, f10_249, f11_250, f12_251, hw_238, h⟩ := h
      refine rl_gf rfl hw_238 rfl rfl ?_
      show Zr sc 57 129 [zp a0, zp a1, zj x2] [zj f11_250, zp a0] w_236 ov w' c s
      refine Zr_st (q := (130, [zp a0, zp a1, zj x2], [zp a0, zj f11_250, zp a0])) rfl rfl rfl ?_
      show Zr sc 57 130 [zp a0, zp a1, zj x2] [zp a0, zj f11_250, zp a0] w_236 ov w' c s
      refine rl_gf rfl hw_238 rfl rfl ?_
      show Zr sc 57 133 [zp a0, zp a1, zj x2] [zp f0_239, zj f11_250, zp a0] w_236 ov w' c s
      obtain ⟨f0_253, f1_254, f2_255, f3_256, f4_257, f5_258, hw_252, h⟩ := h
      obtain ⟨r_261, w_259, hk_260, h⟩ := h
      refine rn_cal0 (ins := .invokevirtual 110) (rest := [zj f11_250, zp a0]) rfl rfl rfl rfl (zinv_v (fs := _) hw_252 rfl rfl rfl rfl) rfl rfl hk_260 ?_
      show Zr sc 57 136 [zp a0, zp a1, zj x2] [zj r_261, zj f11_250, zp a0] w_259 ov w' c s
      obtain ⟨hm_262, h⟩ := h
      refine Zr_mx (b := true) (ins := .invokestatic 113) (rest := [zp a0]) rfl rfl rfl rfl (zinv_t2 (rest := [zp a0]) rfl rfl rfl rfl rfl) rfl (zmx_j hm_262.1 hm_262.2) ?_
      show Zr sc 57 139 [zp a0, zp a1, zj x2] [zj (max f11_250 r_261), zp a0] w_259 ov w' c s
      obtain ⟨f0_264, f1_265, f2_266, f3_267, f4_268, f5_269, f6_270, f7_271, f8_272, f9_273, f10_274, f11_275, f12_276, hw_263, h⟩ := h
      refine rl_pf rfl hw_263 rfl rfl rfl ?_
      show Zr sc 57 142 [zp a0, zp a1, zj x2] [] (w_259.set a0 (zob 2 [zp f0_264, zp f1_265, zj f2_266, zj f3_267, zj f4_268, zj f5_269, zj f6_270, zp f7_271, zp f8_272, zj f9_273, zj f10_274, zj (max f11_250 r_261), zj f12_276])) ov w' c s
      refine rl_inc rfl rfl rfl rfl ?_
      show Zr sc 57 145 [zp a0, zp a1, zj (x2 + 1)] [] (w_259.set a0 (zob 2 [zp f0_264, zp f1_265, zj f2_266, zj f3_267, zj f4_268, zj f5_269, zj f6_270, zp f7_271, zp f8_272, zj f9_273, zj f10_274, zj (max f11_250 r_261), zj f12_276])) ov w' c s
      refine Zr_st (q := (5, [zp a0, zp a1, zj (x2 + 1)], [])) rfl rfl rfl ?_
      show Zr sc 57 5 [zp a0, zp a1, zj (x2 + 1)] [] (w_259.set a0 (zob 2 [zp f0_264, zp f1_265, zj f2_266, zj f3_267, zj f4_268, zj f5_269, zj f6_270, zp f7_271, zp f8_272, zj f9_273, zj f10_274, zj (max f11_250 r_261), zj f12_276])) ov w' c s
      exact h
    · replace h := h.2.2.2.2.1 hp
      refine rl_sw (t := 97) rfl hr_40 (by rw [hp]; rfl) ?_
      show Zr sc 57 97 [zp a0, zp a1, zj x2] [] w_37 ov w' c s
      refine Zr_st (q := (98, [zp a0, zp a1, zj x2], [zp a0])) rfl rfl rfl ?_
      show Zr sc 57 98 [zp a0, zp a1, zj x2] [zp a0] w_37 ov w' c s
      obtain ⟨f0_278, f1_279, f2_280, f3_281, f4_282, f5_283, f6_284, f7_285, f8_286, f9_287, f10_288, f11_289, f12_290, hw_277, h⟩ := h
      obtain ⟨w_291, hk_292, h⟩ := h
      refine rn_cal0 (ins := .invokevirtual 104) (rest := []) rfl rfl rfl rfl (zinv_v (fs := _) hw_277 rfl rfl rfl rfl) rfl rfl hk_292 ?_
      show Zr sc 57 101 [zp a0, zp a1, zj x2] [] w_291 ov w' c s
      refine Zr_st (q := (124, [zp a0, zp a1, zj x2], [])) rfl rfl rfl ?_
      show Zr sc 57 124 [zp a0, zp a1, zj x2] [] w_291 ov w' c s
      refine Zr_st (q := (125, [zp a0, zp a1, zj x2], [zp a0])) rfl rfl rfl ?_
      show Zr sc 57 125 [zp a0, zp a1, zj x2] [zp a0] w_291 ov w' c s
      refine Zr_st (q := (126, [zp a0, zp a1, zj x2], [zp a0, zp a0])) rfl rfl rfl ?_
      show Zr sc 57 126 [zp a0, zp a1, zj x2] [zp a0, zp a0] w_291 ov w' c s
      obtain ⟨f0_294, f1_295, f2_296, f3_297, f4_298, f5_299, f6_300, f7_301, f8_302, f9_303, f10_304, f11_305, f12_306, hw_293, h⟩ := h
      refine rl_gf rfl hw_293 rfl rfl ?_
      show Zr sc 57 129 [zp a0, zp a1, zj x2] [zj f11_305, zp a0] w_291 ov w' c s
      refine Zr_st (q := (130, [zp a0, zp a1, zj x2], [zp a0, zj f11_305, zp a0])) rfl rfl rfl ?_
      show Zr sc 57 130 [zp a0, zp a1, zj x2] [zp a0, zj f11_305, zp a0] w_291 ov w' c s
      refine rl_gf rfl hw_293 rfl rfl ?_
      show Zr sc 57 133 [zp a0, zp a1, zj x2] [zp f0_294, zj f11_305, zp a0] w_291 ov w' c s
      obtain ⟨f0_308, f1_309, f2_310, f3_311, f4_312, f5_313, hw_307, h⟩ := h
      obtain ⟨r_316, w_314, hk_315, h⟩ := h
      refine rn_cal0 (ins := .invokevirtual 110) (rest := [zj f11_305, zp a0]) rfl rfl rfl rfl (zinv_v (fs := _) hw_307 rfl rfl rfl rfl) rfl rfl hk_315 ?_
      show Zr sc 57 136 [zp a0, zp a1, zj x2] [zj r_316, zj f11_305, zp a0] w_314 ov w' c s
      obtain ⟨hm_317, h⟩ := h
      refine Zr_mx (b := true) (ins := .invokestatic 113) (rest := [zp a0]) rfl rfl rfl rfl (zinv_t2 (rest := [zp a0]) rfl rfl rfl rfl rfl) rfl (zmx_j hm_317.1 hm_317.2) ?_
      show Zr sc 57 139 [zp a0, zp a1, zj x2] [zj (max f11_305 r_316), zp a0] w_314 ov w' c s
      obtain ⟨f0_319, f1_320, f2_321, f3_322, f4_323, f5_324, f6_325, f7_326, f8_327, f9_328, f10_329, f11_330, f12_331, hw_318, h⟩ := h
      refine rl_pf rfl hw_318 rfl rfl rfl ?_
      show Zr sc 57 142 [zp a0, zp a1, zj x2] [] (w_314.set a0 (zob 2 [zp f0_319, zp f1_320, zj f2_321, zj f3_322, zj f4_323, zj f5_324, zj f6_325, zp f7_326, zp f8_327, zj f9_328, zj f10_329, zj (max f11_305 r_316), zj f12_331])) ov w' c s
      refine rl_inc rfl rfl rfl rfl ?_
      show Zr sc 57 145 [zp a0, zp a1, zj (x2 + 1)] [] (w_314.set a0 (zob 2 [zp f0_319, zp f1_320, zj f2_321, zj f3_322, zj f4_323, zj f5_324, zj f6_325, zp f7_326, zp f8_327, zj f9_328, zj f10_329, zj (max f11_305 r_316), zj f12_331])) ov w' c s
      refine Zr_st (q := (5, [zp a0, zp a1, zj (x2 + 1)], [])) rfl rfl rfl ?_
      show Zr sc 57 5 [zp a0, zp a1, zj (x2 + 1)] [] (w_314.set a0 (zob 2 [zp f0_319, zp f1_320, zj f2_321, zj f3_322, zj f4_323, zj f5_324, zj f6_325, zp f7_326, zp f8_327, zj f9_328, zj f10_329, zj (max f11_305 r_316), zj f12_331])) ov w' c s
      exact h
    · replace h := h.2.2.2.2.2.1 hp
      refine rl_sw (t := 104) rfl hr_40 (by rw [hp]; rfl) ?_
      show Zr sc 57 104 [zp a0, zp a1, zj x2] [] w_37 ov w' c s
      refine Zr_st (q := (105, [zp a0, zp a1, zj x2], [zp a0])) rfl rfl rfl ?_
      show Zr sc 57 105 [zp a0, zp a1, zj x2] [zp a0] w_37 ov w' c s
      refine Zr_st (q := (106, [zp a0, zp a1, zj x2], [zp a0, zp a0])) rfl rfl rfl ?_
      show Zr sc 57 106 [zp a0, zp a1, zj x2] [zp a0, zp a0] w_37 ov w' c s
      obtain ⟨f0_333, f1_334, f2_335, f3_336, f4_337, f5_338, f6_339, f7_340, f8_341, f9_342, f10_343, f11_344, f12_345, hw_332, h⟩ := h
      refine rl_gf rfl hw_332 rfl rfl ?_
      show Zr sc 57 109 [zp a0, zp a1, zj x2] [zj f10_343, zp a0] w_37 ov w' c s
      refine rl_ic rfl ?_
      show Zr sc 57 110 [zp a0, zp a1, zj x2] [zj 1, zj f10_343, zp a0] w_37 ov w' c s
      refine rl_add rfl ?_
      show Zr sc 57 111 [zp a0, zp a1, zj x2] [zj (f10_343 + 1), zp a0] w_37 ov w' c s
      refine rl_pf rfl hw_332 rfl rfl rfl ?_
      show Zr sc 57 114 [zp a0, zp a1, zj x2] [] (w_37.set a0 (zob 2 [zp f0_333, zp f1_334, zj f2_335, zj f3_336, zj f4_337, zj f5_338, zj f6_339, zp f7_340, zp f8_341, zj f9_342, zj (f10_343 + 1), zj f11_344, zj f12_345])) ov w' c s
      refine Zr_st (q := (124, [zp a0, zp a1, zj x2], [])) rfl rfl rfl ?_
      show Zr sc 57 124 [zp a0, zp a1, zj x2] [] (w_37.set a0 (zob 2 [zp f0_333, zp f1_334, zj f2_335, zj f3_336, zj f4_337, zj f5_338, zj f6_339, zp f7_340, zp f8_341, zj f9_342, zj (f10_343 + 1), zj f11_344, zj f12_345])) ov w' c s
      refine Zr_st (q := (125, [zp a0, zp a1, zj x2], [zp a0])) rfl rfl rfl ?_
      show Zr sc 57 125 [zp a0, zp a1, zj x2] [zp a0] (w_37.set a0 (zob 2 [zp f0_333, zp f1_334, zj f2_335, zj f3_336, zj f4_337, zj f5_338, zj f6_339, zp f7_340, zp f8_341, zj f9_342, zj (f10_343 + 1), zj f11_344, zj f12_345])) ov w' c s
      refine Zr_st (q := (126, [zp a0, zp a1, zj x2], [zp a0, zp a0])) rfl rfl rfl ?_
      show Zr sc 57 126 [zp a0, zp a1, zj x2] [zp a0, zp a0] (w_37.set a0 (zob 2 [zp f0_333, zp f1_334, zj f2_335, zj f3_336, zj f4_337, zj f5_338, zj f6_339, zp f7_340, zp f8_341, zj f9_342, zj (f10_343 + 1), zj f11_344, zj f12_345])) ov w' c s
      refine rl_gf rfl (zw_s hw_332) rfl rfl ?_
      show Zr sc 57 129 [zp a0, zp a1, zj x2] [zj f11_344, zp a0] (w_37.set a0 (zob 2 [zp f0_333, zp f1_334, zj f2_335, zj f3_336, zj f4_337, zj f5_338, zj f6_339, zp f7_340, zp f8_341, zj f9_342, zj (f10_343 + 1), zj f11_344, zj f12_345])) ov w' c s
      refine Zr_st (q := (130, [zp a0, zp a1, zj x2], [zp a0, zj f11_344, zp a0])) rfl rfl rfl ?_
      show Zr sc 57 130 [zp a0, zp a1, zj x2] [zp a0, zj f11_344, zp a0] (w_37.set a0 (zob 2 [zp f0_333, zp f1_334, zj f2_335, zj f3_336, zj f4_337, zj f5_338, zj f6_339, zp f7_340, zp f8_341, zj f9_342, zj (f10_343 + 1), zj f11_344, zj f12_345])) ov w' c s
      refine rl_gf rfl (zw_s hw_332) rfl rfl ?_
      show Zr sc 57 133 [zp a0, zp a1, zj x2] [zp f0_333, zj f11_344, zp a0] (w_37.set a0 (zob 2 [zp f0_333, zp f1_334, zj f2_335, zj f3_336, zj f4_337, zj f5_338, zj f6_339, zp f7_340, zp f8_341, zj f9_342, zj (f10_343 + 1), zj f11_344, zj f12_345])) ov w' c s
      obtain ⟨hn_346, h⟩ := h
      obtain ⟨f0_348, f1_349, f2_350, f3_351, f4_352, f5_353, hw_347, h⟩ := h
      obtain ⟨r_356, w_354, hk_355, h⟩ := h
      refine rn_cal0 (ins := .invokevirtual 110) (rest := [zj f11_344, zp a0]) rfl rfl rfl rfl (zinv_v (fs := _) (zw_o hn_346 hw_347) rfl rfl rfl rfl) rfl rfl hk_355 ?_
      show Zr sc 57 136 [zp a0, zp a1, zj x2] [zj r_356, zj f11_344, zp a0] w_354 ov w' c s
      obtain ⟨hm_357, h⟩ := h
      refine Zr_mx (b := true) (ins := .invokestatic 113) (rest := [zp a0]) rfl rfl rfl rfl (zinv_t2 (rest := [zp a0]) rfl rfl rfl rfl rfl) rfl (zmx_j hm_357.1 hm_357.2) ?_
      show Zr sc 57 139 [zp a0, zp a1, zj x2] [zj (max f11_344 r_356), zp a0] w_354 ov w' c s
      obtain ⟨f0_359, f1_360, f2_361, f3_362, f4_363, f5_364, f6_365, f7_366, f8_367, f9_368, f10_369, f11_370, f12_371, hw_358, h⟩ := h
      refine rl_pf rfl hw_358 rfl rfl rfl ?_
      show Zr sc 57 142 [zp a0, zp a1, zj x2] [] (w_354.set a0 (zob 2 [zp f0_359, zp f1_360, zj f2_361, zj f3_362, zj f4_363, zj f5_364, zj f6_365, zp f7_366, zp f8_367, zj f9_368, zj f10_369, zj (max f11_344 r_356), zj f12_371])) ov w' c s
      refine rl_inc rfl rfl rfl rfl ?_
      show Zr sc 57 145 [zp a0, zp a1, zj (x2 + 1)] [] (w_354.set a0 (zob 2 [zp f0_359, zp f1_360, zj f2_361, zj f3_362, zj f4_363, zj f5_364, zj f6_365, zp f7_366, zp f8_367, zj f9_368, zj f10_369, zj (max f11_344 r_356), zj f12_371])) ov w' c s
      refine Zr_st (q := (5, [zp a0, zp a1, zj (x2 + 1)], [])) rfl rfl rfl ?_
      show Zr sc 57 5 [zp a0, zp a1, zj (x2 + 1)] [] (w_354.set a0 (zob 2 [zp f0_359, zp f1_360, zj f2_361, zj f3_362, zj f4_363, zj f5_364, zj f6_365, zp f7_366, zp f8_367, zj f9_368, zj f10_369, zj (max f11_344 r_356), zj f12_371])) ov w' c s
      exact h
    · replace h := h.2.2.2.2.2.2 hp
      refine rl_sw (t := 117) rfl hr_40 (by rw [hp]; rfl) ?_
      show Zr sc 57 117 [zp a0, zp a1, zj x2] [] w_37 ov w' c s
      refine Zr_st (q := (118, [zp a0, zp a1, zj x2], [zp a0])) rfl rfl rfl ?_
      show Zr sc 57 118 [zp a0, zp a1, zj x2] [zp a0] w_37 ov w' c s
      obtain ⟨f0_373, f1_374, f2_375, f3_376, f4_377, f5_378, f6_379, f7_380, f8_381, f9_382, f10_383, f11_384, f12_385, hw_372, h⟩ := h
      obtain ⟨w_386, hk_387, h⟩ := h
      refine rn_cal0 (ins := .invokevirtual 107) (rest := []) rfl rfl rfl rfl (zinv_v (fs := _) hw_372 rfl rfl rfl rfl) rfl rfl hk_387 ?_
      show Zr sc 57 121 [zp a0, zp a1, zj x2] [] w_386 ov w' c s
      refine Zr_st (q := (124, [zp a0, zp a1, zj x2], [])) rfl rfl rfl ?_
      show Zr sc 57 124 [zp a0, zp a1, zj x2] [] w_386 ov w' c s
      refine Zr_st (q := (125, [zp a0, zp a1, zj x2], [zp a0])) rfl rfl rfl ?_
      show Zr sc 57 125 [zp a0, zp a1, zj x2] [zp a0] w_386 ov w' c s
      refine Zr_st (q := (126, [zp a0, zp a1, zj x2], [zp a0, zp a0])) rfl rfl rfl ?_
      show Zr sc 57 126 [zp a0, zp a1, zj x2] [zp a0, zp a0] w_386 ov w' c s
      obtain ⟨f0_389, f1_390, f2_391, f3_392, f4_393, f5_394, f6_395, f7_396, f8_397, f9_398, f10_399, f11_400, f12_401, hw_388, h⟩ := h
      refine rl_gf rfl hw_388 rfl rfl ?_
      show Zr sc 57 129 [zp a0, zp a1, zj x2] [zj f11_400, zp a0] w_386 ov w' c s
      refine Zr_st (q := (130, [zp a0, zp a1, zj x2], [zp a0, zj f11_400, zp a0])) rfl rfl rfl ?_
      show Zr sc 57 130 [zp a0, zp a1, zj x2] [zp a0, zj f11_400, zp a0] w_386 ov w' c s
      refine rl_gf rfl hw_388 rfl rfl ?_
      show Zr sc 57 133 [zp a0, zp a1, zj x2] [zp f0_389, zj f11_400, zp a0] w_386 ov w' c s
      obtain ⟨f0_403, f1_404, f2_405, f3_406, f4_407, f5_408, hw_402, h⟩ := h
      obtain ⟨r_411, w_409, hk_410, h⟩ := h
      refine rn_cal0 (ins := .invokevirtual 110) (rest := [zj f11_400, zp a0]) rfl rfl rfl rfl (zinv_v (fs := _) hw_402 rfl rfl rfl rfl) rfl rfl hk_410 ?_
      show Zr sc 57 136 [zp a0, zp a1, zj x2] [zj r_411, zj f11_400, zp a0] w_409 ov w' c s
      obtain ⟨hm_412, h⟩ := h
      refine Zr_mx (b := true) (ins := .invokestatic 113) (rest := [zp a0]) rfl rfl rfl rfl (zinv_t2 (rest := [zp a0]) rfl rfl rfl rfl rfl) rfl (zmx_j hm_412.1 hm_412.2) ?_
      show Zr sc 57 139 [zp a0, zp a1, zj x2] [zj (max f11_400 r_411), zp a0] w_409 ov w' c s
      obtain ⟨f0_414, f1_415, f2_416, f3_417, f4_418, f5_419, f6_420, f7_421, f8_422, f9_423, f10_424, f11_425, f12_426, hw_413, h⟩ := h
      refine rl_pf rfl hw_413 rfl rfl rfl ?_
      show Zr sc 57 142 [zp a0, zp a1, zj x2] [] (w_409.set a0 (zob 2 [zp f0_414, zp f1_415, zj f2_416, zj f3_417, zj f4_418, zj f5_419, zj f6_420, zp f7_421, zp f8_422, zj f9_423, zj f10_424, zj (max f11_400 r_411), zj f12_426])) ov w' c s
      refine rl_inc rfl rfl rfl rfl ?_
      show Zr sc 57 145 [zp a0, zp a1, zj (x2 + 1)] [] (w_409.set a0 (zob 2 [zp f0_414, zp f1_415, zj f2_416, zj f3_417, zj f4_418, zj f5_419, zj f6_420, zp f7_421, zp f8_422, zj f9_423, zj f10_424, zj (max f11_400 r_411), zj f12_426])) ov w' c s
      refine Zr_st (q := (5, [zp a0, zp a1, zj (x2 + 1)], [])) rfl rfl rfl ?_
      show Zr sc 57 5 [zp a0, zp a1, zj (x2 + 1)] [] (w_409.set a0 (zob 2 [zp f0_414, zp f1_415, zj f2_416, zj f3_417, zj f4_418, zj f5_419, zj f6_420, zp f7_421, zp f8_422, zj f9_423, zj f10_424, zj (max f11_400 r_411), zj f12_426])) ov w' c s
      exact h

-- HeapwrightLab$Memory.follow(LHeapwrightLab$Trace;)LHeapwrightLab$Memory;
set_option maxRecDepth 100000 in
theorem V57_0_4 {sc : List Value} {w w' : List zE} {ov : Option Value} {c s : Nat} {a0 : Nat} {a1 : Nat} (h : (∃ f0_2 : Nat, ∃ f1_3 : Nat, ∃ f2_4 : Int, ∃ f3_5 : Int, ∃ f4_6 : Int, ∃ f5_7 : Int, ∃ f6_8 : Int, ∃ f7_9 : Nat, ∃ f8_10 : Nat, ∃ f9_11 : Int, ∃ f10_12 : Int, ∃ f11_13 : Int, ∃ f12_14 : Int, ∃ f13_15 : Nat, w[a0]? = some (zob 4 [zp f0_2, zp f1_3, zj f2_4, zj f3_5, zj f4_6, zj f5_7, zj f6_8, zp f7_9, zp f8_10, zj f9_11, zj f10_12, zj f11_13, zj f12_14, zp f13_15]) ∧ Zr sc 57 5 [zp a0, zp a1, zj f12_14] [] w ov w' c s)) : Zr sc 57 0 [zp a0, zp a1, zmk] [] w ov w' c s := by
  refine Zr_st (q := (1, [zp a0, zp a1, zmk], [zp a0])) rfl rfl rfl ?_
  show Zr sc 57 1 [zp a0, zp a1, zmk] [zp a0] w ov w' c s
  obtain ⟨f0_2, f1_3, f2_4, f3_5, f4_6, f5_7, f6_8, f7_9, f8_10, f9_11, f10_12, f11_13, f12_14, f13_15, hw_1, h⟩ := h
  refine rl_gf rfl hw_1 rfl rfl ?_
  show Zr sc 57 4 [zp a0, zp a1, zmk] [zj f12_14] w ov w' c s
  refine Zr_st (q := (5, [zp a0, zp a1, zj f12_14], [])) rfl rfl rfl ?_
  show Zr sc 57 5 [zp a0, zp a1, zj f12_14] [] w ov w' c s
  exact h
set_option maxRecDepth 100000 in
theorem V57_5_4 {sc : List Value} {w w' : List zE} {ov : Option Value} {c s : Nat} {a0 : Nat} {a1 : Nat} {x2 : Int} (h : (∃ f0_2 : Nat, ∃ f1_3 : Nat, ∃ f2_4 : Nat, ∃ f3_5 : Int, w[a1]? = some (zob 5 [zp f0_2, zp f1_3, zp f2_4, zj f3_5]) ∧ (∃ r_8 : Int, ∃ w_6 : List zE, Zc sc 58 [zp a1] w (some (zj r_8)) w_6 0 0 ∧ ((zrg x2 ∧ zrg r_8) ∧ ((r_8 ≤ x2 → (∃ f0_11 : Nat, ∃ f1_12 : Nat, ∃ f2_13 : Nat, ∃ f3_14 : Int, w_6[a1]? = some (zob 5 [zp f0_11, zp f1_12, zp f2_13, zj f3_14]) ∧ (∃ r_17 : Int, ∃ w_15 : List zE, Zc sc 58 [zp a1] w_6 (some (zj r_17)) w_15 0 0 ∧ (∃ f0_19 : Nat, ∃ f1_20 : Nat, ∃ f2_21 : Int, ∃ f3_22 : Int, ∃ f4_23 : Int, ∃ f5_24 : Int, ∃ f6_25 : Int, ∃ f7_26 : Nat, ∃ f8_27 : Nat, ∃ f9_28 : Int, ∃ f10_29 : Int, ∃ f11_30 : Int, ∃ f12_31 : Int, ∃ f13_32 : Nat, w_15[a0]? = some (zob 4 [zp f0_19, zp f1_20, zj f2_21, zj f3_22, zj f4_23, zj f5_24, zj f6_25, zp f7_26, zp f8_27, zj f9_28, zj f10_29, zj f11_30, zj f12_31, zp f13_32]) ∧ (ov = some (zp a0) ∧ w' = (w_15.set a0 (zob 4 [zp f0_19, zp f1_20, zj f2_21, zj f3_22, zj f4_23, zj f5_24, zj f6_25, zp f7_26, zp f8_27, zj f9_28, zj f10_29, zj f11_30, zj r_17, zp f13_32])) ∧ c = 0 ∧ s = 0))))) ∧ (¬ (r_8 ≤ x2) → (∃ f0_34 : Nat, ∃ f1_35 : Nat, ∃ f2_36 : Nat, ∃ f3_37 : Int, w_6[a1]? = some (zob 5 [zp f0_34, zp f1_35, zp f2_36, zj f3_37]) ∧ (∃ r_40 : Int, ∃ w_38 : List zE, Zc sc 59 [zp a1, zj x2] w_6 (some (zj r_40)) w_38 0 0 ∧ ((zrg r_40) ∧ (((r_40 < 0 ∨ 5 < r_40) → (∃ f0_43 : Nat, ∃ f1_44 : Nat, ∃ f2_45 : Int, ∃ f3_46 : Int, ∃ f4_47 : Int, ∃ f5_48 : Int, ∃ f6_49 : Int, ∃ f7_50 : Nat, ∃ f8_51 : Nat, ∃ f9_52 : Int, ∃ f10_53 : Int, ∃ f11_54 : Int, ∃ f12_55 : Int, ∃ f13_56 : Nat, w_38[a0]? = some (zob 4 [zp f0_43, zp f1_44, zj f2_45, zj f3_46, zj f4_47, zj f5_48, zj f6_49, zp f7_50, zp f8_51, zj f9_52, zj f10_53, zj f11_54, zj f12_55, zp f13_56]) ∧ (∃ f0_58 : Nat, ∃ f1_59 : Nat, ∃ f2_60 : Nat, ∃ f3_61 : Nat, ∃ f4_62 : Int, ∃ f5_63 : Int, w_38[f0_43]? = some (zob 0 [zp f0_58, zp f1_59, zp f2_60, zp f3_61, zj f4_62, zj f5_63]) ∧ (∃ r_66 : Int, ∃ w_64 : List zE, Zc sc 28 [zp f0_43] w_38 (some (zj r_66)) w_64 0 0 ∧ ((zrg f11_54 ∧ zrg r_66) ∧ (∃ f0_69 : Nat, ∃ f1_70 : Nat, ∃ f2_71 : Int, ∃ f3_72 : Int, ∃ f4_73 : Int, ∃ f5_74 : Int, ∃ f6_75 : Int, ∃ f7_76 : Nat, ∃ f8_77 : Nat, ∃ f9_78 : Int, ∃ f10_79 : Int, ∃ f11_80 : Int, ∃ f12_81 : Int, ∃ f13_82 : Nat, w_64[a0]? = some (zob 4 [zp f0_69, zp f1_70, zj f2_71, zj f3_72, zj f4_73, zj f5_74, zj f6_75, zp f7_76, zp f8_77, zj f9_78, zj f10_79, zj f11_80, zj f12_81, zp f13_82]) ∧ Zr sc 57 5 [zp a0, zp a1, zj (x2 + 1)] [] (w_64.set a0 (zob 4 [zp f0_69, zp f1_70, zj f2_71, zj f3_72, zj f4_73, zj f5_74, zj f6_75, zp f7_76, zp f8_77, zj f9_78, zj f10_79, zj (max f11_54 r_66), zj f12_81, zp f13_82])) ov w' c s)))))) ∧ (r_40 = 0 → (∃ f0_84 : Nat, ∃ f1_85 : Nat, ∃ f2_86 : Nat, ∃ f3_87 : Int, w_38[a1]? = some (zob 5 [zp f0_84, zp f1_85, zp f2_86, zj f3_87]) ∧ (∃ r_90 : Int, ∃ w_88 : List zE, Zc sc 61 [zp a1, zj x2] w_38 (some (zj r_90)) w_88 0 0 ∧ (∃ f0_92 : Nat, ∃ f1_93 : Nat, ∃ f2_94 : Int, ∃ f3_95 : Int, ∃ f4_96 : Int, ∃ f5_97 : Int, ∃ f6_98 : Int, ∃ f7_99 : Nat, ∃ f8_100 : Nat, ∃ f9_101 : Int, ∃ f10_102 : Int, ∃ f11_103 : Int, ∃ f12_104 : Int, ∃ f13_105 : Nat, w_88[a0]? = some (zob 4 [zp f0_92, zp f1_93, zj f2_94, zj f3_95, zj f4_96, zj f5_97, zj f6_98, zp f7_99, zp f8_100, zj f9_101, zj f10_102, zj f11_103, zj f12_104, zp f13_105]) ∧ (∃ w_106 : List zE, Zc sc 62 [zp a0, zj r_90] w_88 none w_106 0 0 ∧ (∃ f0_109 : Nat, ∃ f1_110 : Nat, ∃ f2_111 : Int, ∃ f3_112 : Int, ∃ f4_113 : Int, ∃ f5_114 : Int, ∃ f6_115 : Int, ∃ f7_116 : Nat, ∃ f8_117 : Nat, ∃ f9_118 : Int, ∃ f10_119 : Int, ∃ f11_120 : Int, ∃ f12_121 : Int, ∃ f13_122 : Nat, w_106[a0]? = some (zob 4 [zp f0_109, zp f1_110, zj f2_111, zj f3_112, zj f4_113, zj f5_114, zj f6_115, zp f7_116, zp f8_117, zj f9_118, zj f10_119, zj f11_120, zj f12_121, zp f13_122]) ∧ (∃ f0_124 : Nat, ∃ f1_125 : Nat, ∃ f2_126 : Nat, ∃ f3_127 : Nat, ∃ f4_128 : Int, ∃ f5_129 : Int, w_106[f0_109]? = some (zob 0 [zp f0_124, zp f1_125, zp f2_126, zp f3_127, zj f4_128, zj f5_129]) ∧ (∃ r_132 : Int, ∃ w_130 : List zE, Zc sc 28 [zp f0_109] w_106 (some (zj r_132)) w_130 0 0 ∧ ((zrg f11_120 ∧ zrg r_132) ∧ (∃ f0_135 : Nat, ∃ f1_136 : Nat, ∃ f2_137 : Int, ∃ f3_138 : Int, ∃ f4_139 : Int, ∃ f5_140 : Int, ∃ f6_141 : Int, ∃ f7_142 : Nat, ∃ f8_143 : Nat, ∃ f9_144 : Int, ∃ f10_145 : Int, ∃ f11_146 : Int, ∃ f12_147 : Int, ∃ f13_148 : Nat, w_130[a0]? = some (zob 4 [zp f0_135, zp f1_136, zj f2_137, zj f3_138, zj f4_139, zj f5_140, zj f6_141, zp f7_142, zp f8_143, zj f9_144, zj f10_145, zj f11_146, zj f12_147, zp f13_148]) ∧ Zr sc 57 5 [zp a0, zp a1, zj (x2 + 1)] [] (w_130.set a0 (zob 4 [zp f0_135, zp f1_136, zj f2_137, zj f3_138, zj f4_139, zj f5_140, zj f6_141, zp f7_142, zp f8_143, zj f9_144, zj f10_145, zj (max f11_120 r_132), zj f12_147, zp f13_148])) ov w' c s)))))))))) ∧ (r_40 = 1 → (∃ f0_150 : Nat, ∃ f1_151 : Nat, ∃ f2_152 : Nat, ∃ f3_153 : Int, w_38[a1]? = some (zob 5 [zp f0_150, zp f1_151, zp f2_152, zj f3_153]) ∧ (∃ r_156 : Int, ∃ w_154 : List zE, Zc sc 82 [zp a1, zj x2] w_38 (some (zj r_156)) w_154 0 0 ∧ (∃ f0_158 : Nat, ∃ f1_159 : Nat, ∃ f2_160 : Int, ∃ f3_161 : Int, ∃ f4_162 : Int, ∃ f5_163 : Int, ∃ f6_164 : Int, ∃ f7_165 : Nat, ∃ f8_166 : Nat, ∃ f9_167 : Int, ∃ f10_168 : Int, ∃ f11_169 : Int, ∃ f12_170 : Int, ∃ f13_171 : Nat, w_154[a0]? = some (zob 4 [zp f0_158, zp f1_159, zj f2_160, zj f3_161, zj f4_162, zj f5_163, zj f6_164, zp f7_165, zp f8_166, zj f9_167, zj f10_168, zj f11_169, zj f12_170, zp f13_171]) ∧ (∃ w_172 : List zE, Zc sc 83 [zp a0, zj r_156] w_154 none w_172 0 0 ∧ (∃ f0_175 : Nat, ∃ f1_176 : Nat, ∃ f2_177 : Int, ∃ f3_178 : Int, ∃ f4_179 : Int, ∃ f5_180 : Int, ∃ f6_181 : Int, ∃ f7_182 : Nat, ∃ f8_183 : Nat, ∃ f9_184 : Int, ∃ f10_185 : Int, ∃ f11_186 : Int, ∃ f12_187 : Int, ∃ f13_188 : Nat, w_172[a0]? = some (zob 4 [zp f0_175, zp f1_176, zj f2_177, zj f3_178, zj f4_179, zj f5_180, zj f6_181, zp f7_182, zp f8_183, zj f9_184, zj f10_185, zj f11_186, zj f12_187, zp f13_188]) ∧ (∃ f0_190 : Nat, ∃ f1_191 : Nat, ∃ f2_192 : Nat, ∃ f3_193 : Nat, ∃ f4_194 : Int, ∃ f5_195 : Int, w_172[f0_175]? = some (zob 0 [zp f0_190, zp f1_191, zp f2_192, zp f3_193, zj f4_194, zj f5_195]) ∧ (∃ r_198 : Int, ∃ w_196 : List zE, Zc sc 28 [zp f0_175] w_172 (some (zj r_198)) w_196 0 0 ∧ ((zrg f11_186 ∧ zrg r_198) ∧ (∃ f0_201 : Nat, ∃ f1_202 : Nat, ∃ f2_203 : Int, ∃ f3_204 : Int, ∃ f4_205 : Int, ∃ f5_206 : Int, ∃ f6_207 : Int, ∃ f7_208 : Nat, ∃ f8_209 : Nat, ∃ f9_210 : Int, ∃ f10_211 : Int, ∃ f11_212 : Int, ∃ f12_213 : Int, ∃ f13_214 : Nat, w_196[a0]? = some (zob 4 [zp f0_201, zp f1_202, zj f2_203, zj f3_204, zj f4_205, zj f5_206, zj f6_207, zp f7_208, zp f8_209, zj f9_210, zj f10_211, zj f11_212, zj f12_213, zp f13_214]) ∧ Zr sc 57 5 [zp a0, zp a1, zj (x2 + 1)] [] (w_196.set a0 (zob 4 [zp f0_201, zp f1_202, zj f2_203, zj f3_204, zj f4_205, zj f5_206, zj f6_207, zp f7_208, zp f8_209, zj f9_210, zj f10_211, zj (max f11_186 r_198), zj f12_213, zp f13_214])) ov w' c s)))))))))) ∧ (r_40 = 2 → (∃ f0_216 : Nat, ∃ f1_217 : Nat, ∃ f2_218 : Nat, ∃ f3_219 : Int, w_38[a1]? = some (zob 5 [zp f0_216, zp f1_217, zp f2_218, zj f3_219]) ∧ (∃ r_222 : Int, ∃ w_220 : List zE, Zc sc 82 [zp a1, zj x2] w_38 (some (zj r_222)) w_220 0 0 ∧ (∃ f0_224 : Nat, ∃ f1_225 : Nat, ∃ f2_226 : Nat, ∃ f3_227 : Int, w_220[a1]? = some (zob 5 [zp f0_224, zp f1_225, zp f2_226, zj f3_227]) ∧ (∃ r_230 : Int, ∃ w_228 : List zE, Zc sc 61 [zp a1, zj x2] w_220 (some (zj r_230)) w_228 0 0 ∧ (∃ f0_232 : Nat, ∃ f1_233 : Nat, ∃ f2_234 : Int, ∃ f3_235 : Int, ∃ f4_236 : Int, ∃ f5_237 : Int, ∃ f6_238 : Int, ∃ f7_239 : Nat, ∃ f8_240 : Nat, ∃ f9_241 : Int, ∃ f10_242 : Int, ∃ f11_243 : Int, ∃ f12_244 : Int, ∃ f13_245 : Nat, w_228[a0]? = some (zob 4 [zp f0_232, zp f1_233, zj f2_234, zj f3_235, zj f4_236, zj f5_237, zj f6_238, zp f7_239, zp f8_240, zj f9_241, zj f10_242, zj f11_243, zj f12_244, zp f13_245]) ∧ (∃ w_246 : List zE, Zc sc 88 [zp a0, zj r_222, zj r_230] w_228 none w_246 0 0 ∧ (∃ f0_249 : Nat, ∃ f1_250 : Nat, ∃ f2_251 : Int, ∃ f3_252 : Int, ∃ f4_253 : Int, ∃ f5_254 : Int, ∃ f6_255 : Int, ∃ f7_256 : Nat, ∃ f8_257 : Nat, ∃ f9_258 : Int, ∃ f10_259 : Int, ∃ f11_260 : Int, ∃ f12_261 : Int, ∃ f13_262 : Nat, w_246[a0]? = some (zob 4 [zp f0_249, zp f1_250, zj f2_251, zj f3_252, zj f4_253, zj f5_254, zj f6_255, zp f7_256, zp f8_257, zj f9_258, zj f10_259, zj f11_260, zj f12_261, zp f13_262]) ∧ (∃ f0_264 : Nat, ∃ f1_265 : Nat, ∃ f2_266 : Nat, ∃ f3_267 : Nat, ∃ f4_268 : Int, ∃ f5_269 : Int, w_246[f0_249]? = some (zob 0 [zp f0_264, zp f1_265, zp f2_266, zp f3_267, zj f4_268, zj f5_269]) ∧ (∃ r_272 : Int, ∃ w_270 : List zE, Zc sc 28 [zp f0_249] w_246 (some (zj r_272)) w_270 0 0 ∧ ((zrg f11_260 ∧ zrg r_272) ∧ (∃ f0_275 : Nat, ∃ f1_276 : Nat, ∃ f2_277 : Int, ∃ f3_278 : Int, ∃ f4_279 : Int, ∃ f5_280 : Int, ∃ f6_281 : Int, ∃ f7_282 : Nat, ∃ f8_283 : Nat, ∃ f9_284 : Int, ∃ f10_285 : Int, ∃ f11_286 : Int, ∃ f12_287 : Int, ∃ f13_288 : Nat, w_270[a0]? = some (zob 4 [zp f0_275, zp f1_276, zj f2_277, zj f3_278, zj f4_279, zj f5_280, zj f6_281, zp f7_282, zp f8_283, zj f9_284, zj f10_285, zj f11_286, zj f12_287, zp f13_288]) ∧ Zr sc 57 5 [zp a0, zp a1, zj (x2 + 1)] [] (w_270.set a0 (zob 4 [zp f0_275, zp f1_276, zj f2_277, zj f3_278, zj f4_279, zj f5_280, zj f6_281, zp f7_282, zp f8_283, zj f9_284, zj f10_285, zj (max f11_260 r_272), zj f12_287, zp f13_288])) ov w' c s)))))))))))) ∧ (r_40 = 3 → (∃ f0_290 : Nat, ∃ f1_291 : Nat, ∃ f2_292 : Int, ∃ f3_293 : Int, ∃ f4_294 : Int, ∃ f5_295 : Int, ∃ f6_296 : Int, ∃ f7_297 : Nat, ∃ f8_298 : Nat, ∃ f9_299 : Int, ∃ f10_300 : Int, ∃ f11_301 : Int, ∃ f12_302 : Int, ∃ f13_303 : Nat, w_38[a0]? = some (zob 4 [zp f0_290, zp f1_291, zj f2_292, zj f3_293, zj f4_294, zj f5_295, zj f6_296, zp f7_297, zp f8_298, zj f9_299, zj f10_300, zj f11_301, zj f12_302, zp f13_303]) ∧ (∃ w_304 : List zE, Zc sc 96 [zp a0] w_38 none w_304 0 0 ∧ (∃ f0_307 : Nat, ∃ f1_308 : Nat, ∃ f2_309 : Int, ∃ f3_310 : Int, ∃ f4_311 : Int, ∃ f5_312 : Int, ∃ f6_313 : Int, ∃ f7_314 : Nat, ∃ f8_315 : Nat, ∃ f9_316 : Int, ∃ f10_317 : Int, ∃ f11_318 : Int, ∃ f12_319 : Int, ∃ f13_320 : Nat, w_304[a0]? = some (zob 4 [zp f0_307, zp f1_308, zj f2_309, zj f3_310, zj f4_311, zj f5_312, zj f6_313, zp f7_314, zp f8_315, zj f9_316, zj f10_317, zj f11_318, zj f12_319, zp f13_320]) ∧ (∃ f0_322 : Nat, ∃ f1_323 : Nat, ∃ f2_324 : Nat, ∃ f3_325 : Nat, ∃ f4_326 : Int, ∃ f5_327 : Int, w_304[f0_307]? = some (zob 0 [zp f0_322, zp f1_323, zp f2_324, zp f3_325, zj f4_326, zj f5_327]) ∧ (∃ r_330 : Int, ∃ w_328 : List zE, Zc sc 28 [zp f0_307] w_304 (some (zj r_330)) w_328 0 0 ∧ ((zrg f11_318 ∧ zrg r_330) ∧ (∃ f0_333 : Nat, ∃ f1_334 : Nat, ∃ f2_335 : Int, ∃ f3_336 : Int, ∃ f4_337 : Int, ∃ f5_338 : Int, ∃ f6_339 : Int, ∃ f7_340 : Nat, ∃ f8_341 : Nat, ∃ f9_342 : Int, ∃ f10_343 : Int, ∃ f11_344 : Int, ∃ f12_345 : Int, ∃ f13_346 : Nat, w_328[a0]? = some (zob 4 [zp f0_333, zp f1_334, zj f2_335, zj f3_336, zj f4_337, zj f5_338, zj f6_339, zp f7_340, zp f8_341, zj f9_342, zj f10_343, zj f11_344, zj f12_345, zp f13_346]) ∧ Zr sc 57 5 [zp a0, zp a1, zj (x2 + 1)] [] (w_328.set a0 (zob 4 [zp f0_333, zp f1_334, zj f2_335, zj f3_336, zj f4_337, zj f5_338, zj f6_339, zp f7_340, zp f8_341, zj f9_342, zj f10_343, zj (max f11_318 r_330), zj f12_345, zp f13_346])) ov w' c s)))))))) ∧ (r_40 = 4 → (∃ f0_348 : Nat, ∃ f1_349 : Nat, ∃ f2_350 : Int, ∃ f3_351 : Int, ∃ f4_352 : Int, ∃ f5_353 : Int, ∃ f6_354 : Int, ∃ f7_355 : Nat, ∃ f8_356 : Nat, ∃ f9_357 : Int, ∃ f10_358 : Int, ∃ f11_359 : Int, ∃ f12_360 : Int, ∃ f13_361 : Nat, w_38[a0]? = some (zob 4 [zp f0_348, zp f1_349, zj f2_350, zj f3_351, zj f4_352, zj f5_353, zj f6_354, zp f7_355, zp f8_356, zj f9_357, zj f10_358, zj f11_359, zj f12_360, zp f13_361]) ∧ ((a0 ≠ f0_348) ∧ (∃ f0_364 : Nat, ∃ f1_365 : Nat, ∃ f2_366 : Nat, ∃ f3_367 : Nat, ∃ f4_368 : Int, ∃ f5_369 : Int, w_38[f0_348]? = some (zob 0 [zp f0_364, zp f1_365, zp f2_366, zp f3_367, zj f4_368, zj f5_369]) ∧ (∃ r_372 : Int, ∃ w_370 : List zE, Zc sc 28 [zp f0_348] (w_38.set a0 (zob 4 [zp f0_348, zp f1_349, zj f2_350, zj f3_351, zj f4_352, zj f5_353, zj f6_354, zp f7_355, zp f8_356, zj f9_357, zj (f10_358 + 1), zj f11_359, zj f12_360, zp f13_361])) (some (zj r_372)) w_370 0 0 ∧ ((zrg f11_359 ∧ zrg r_372) ∧ (∃ f0_375 : Nat, ∃ f1_376 : Nat, ∃ f2_377 : Int, ∃ f3_378 : Int, ∃ f4_379 : Int, ∃ f5_380 : Int, ∃ f6_381 : Int, ∃ f7_382 : Nat, ∃ f8_383 : Nat, ∃ f9_384 : Int, ∃ f10_385 : Int, ∃ f11_386 : Int, ∃ f12_387 : Int, ∃ f13_388 : Nat, w_370[a0]? = some (zob 4 [zp f0_375, zp f1_376, zj f2_377, zj f3_378, zj f4_379, zj f5_380, zj f6_381, zp f7_382, zp f8_383, zj f9_384, zj f10_385, zj f11_386, zj f12_387, zp f13_388]) ∧ Zr sc 57 5 [zp a0, zp a1, zj (x2 + 1)] [] (w_370.set a0 (zob 4 [zp f0_375, zp f1_376, zj f2_377, zj f3_378, zj f4_379, zj f5_380, zj f6_381, zp f7_382, zp f8_383, zj f9_384, zj f10_385, zj (max f11_359 r_372), zj f12_387, zp f13_388])) ov w' c s))))))) ∧ (r_40 = 5 → (∃ f0_390 : Nat, ∃ f1_391 : Nat, ∃ f2_392 : Int, ∃ f3_393 : Int, ∃ f4_394 : Int, ∃ f5_395 : Int, ∃ f6_396 : Int, ∃ f7_397 : Nat, ∃ f8_398 : Nat, ∃ f9_399 : Int, ∃ f10_400 : Int, ∃ f11_401 : Int, ∃ f12_402 : Int, ∃ f13_403 : Nat, w_38[a0]? = some (zob 4 [zp f0_390, zp f1_391, zj f2_392, zj f3_393, zj f4_394, zj f5_395, zj f6_396, zp f7_397, zp f8_398, zj f9_399, zj f10_400, zj f11_401, zj f12_402, zp f13_403]) ∧ (∃ w_404 : List zE, Zc sc 97 [zp a0] w_38 none w_404 0 0 ∧ (∃ f0_407 : Nat, ∃ f1_408 : Nat, ∃ f2_409 : Int, ∃ f3_410 : Int, ∃ f4_411 : Int, ∃ f5_412 : Int, ∃ f6_413 : Int, ∃ f7_414 : Nat, ∃ f8_415 : Nat, ∃ f9_416 : Int, ∃ f10_417 : Int, ∃ f11_418 : Int, ∃ f12_419 : Int, ∃ f13_420 : Nat, w_404[a0]? = some (zob 4 [zp f0_407, zp f1_408, zj f2_409, zj f3_410, zj f4_411, zj f5_412, zj f6_413, zp f7_414, zp f8_415, zj f9_416, zj f10_417, zj f11_418, zj f12_419, zp f13_420]) ∧ (∃ f0_422 : Nat, ∃ f1_423 : Nat, ∃ f2_424 : Nat, ∃ f3_425 : Nat, ∃ f4_426 : Int, ∃ f5_427 : Int, w_404[f0_407]? = some (zob 0 [zp f0_422, zp f1_423, zp f2_424, zp f3_425, zj f4_426, zj f5_427]) ∧ (∃ r_430 : Int, ∃ w_428 : List zE, Zc sc 28 [zp f0_407] w_404 (some (zj r_430)) w_428 0 0 ∧ ((zrg f11_418 ∧ zrg r_430) ∧ (∃ f0_433 : Nat, ∃ f1_434 : Nat, ∃ f2_435 : Int, ∃ f3_436 : Int, ∃ f4_437 : Int, ∃ f5_438 : Int, ∃ f6_439 : Int, ∃ f7_440 : Nat, ∃ f8_441 : Nat, ∃ f9_442 : Int, ∃ f10_443 : Int, ∃ f11_444 : Int, ∃ f12_445 : Int, ∃ f13_446 : Nat, w_428[a0]? = some (zob 4 [zp f0_433, zp f1_434, zj f2_435, zj f3_436, zj f4_437, zj f5_438, zj f6_439, zp f7_440, zp f8_441, zj f9_442, zj f10_443, zj f11_444, zj f12_445, zp f13_446]) ∧ Zr sc 57 5 [zp a0, zp a1, zj (x2 + 1)] [] (w_428.set a0 (zob 4 [zp f0_433, zp f1_434, zj f2_435, zj f3_436, zj f4_437, zj f5_438, zj f6_439, zp f7_440, zp f8_441, zj f9_442, zj f10_443, zj (max f11_418 r_430), zj f12_445, zp f13_446])) ov w' c s)))))))))))))))))) : Zr sc 57 5 [zp a0, zp a1, zj x2] [] w ov w' c s := by
  refine Zr_st (q := (6, [zp a0, zp a1, zj x2], [zj x2])) rfl rfl rfl ?_
  show Zr sc 57 6 [zp a0, zp a1, zj x2] [zj x2] w ov w' c s
  refine Zr_st (q := (7, [zp a0, zp a1, zj x2], [zp a1, zj x2])) rfl rfl rfl ?_
  show Zr sc 57 7 [zp a0, zp a1, zj x2] [zp a1, zj x2] w ov w' c s
  obtain ⟨f0_2, f1_3, f2_4, f3_5, hw_1, h⟩ := h
  obtain ⟨r_8, w_6, hk_7, h⟩ := h
  refine rn_cal0 (ins := .invokevirtual 80) (rest := [zj x2]) rfl rfl rfl rfl (zinv_v (fs := _) hw_1 rfl rfl rfl rfl) rfl rfl hk_7 ?_
  show Zr sc 57 10 [zp a0, zp a1, zj x2] [zj r_8, zj x2] w_6 ov w' c s
  obtain ⟨hr_9, h⟩ := h
  refine Zr_br (p := r_8 ≤ x2) rfl rfl (zcmp_j (cnd := .ge) hr_9.1 hr_9.2) (fun hp => ?_) (fun hp => ?_)
  · replace h := h.1 hp
    show Zr sc 57 148 [zp a0, zp a1, zj x2] [] w_6 ov w' c s
    refine Zr_st (q := (149, [zp a0, zp a1, zj x2], [zp a0])) rfl rfl rfl ?_
    show Zr sc 57 149 [zp a0, zp a1, zj x2] [zp a0] w_6 ov w' c s
    refine Zr_st (q := (150, [zp a0, zp a1, zj x2], [zp a1, zp a0])) rfl rfl rfl ?_
    show Zr sc 57 150 [zp a0, zp a1, zj x2] [zp a1, zp a0] w_6 ov w' c s
    obtain ⟨f0_11, f1_12, f2_13, f3_14, hw_10, h⟩ := h
    obtain ⟨r_17, w_15, hk_16, h⟩ := h
    refine rn_cal0 (ins := .invokevirtual 80) (rest := [zp a0]) rfl rfl rfl rfl (zinv_v (fs := _) hw_10 rfl rfl rfl rfl) rfl rfl hk_16 ?_
    show Zr sc 57 153 [zp a0, zp a1, zj x2] [zj r_17, zp a0] w_15 ov w' c s
    obtain ⟨f0_19, f1_20, f2_21, f3_22, f4_23, f5_24, f6_25, f7_26, f8_27, f9_28, f10_29, f11_30, f12_31, f13_32, hw_18, h⟩ := h
    refine rl_pf rfl hw_18 rfl rfl rfl ?_
    show Zr sc 57 156 [zp a0, zp a1, zj x2] [] (w_15.set a0 (zob 4 [zp f0_19, zp f1_20, zj f2_21, zj f3_22, zj f4_23, zj f5_24, zj f6_25, zp f7_26, zp f8_27, zj f9_28, zj f10_29, zj f11_30, zj r_17, zp f13_32])) ov w' c s
    refine Zr_st (q := (157, [zp a0, zp a1, zj x2], [zp a0])) rfl rfl rfl ?_
    show Zr sc 57 157 [zp a0, zp a1, zj x2] [zp a0] (w_15.set a0 (zob 4 [zp f0_19, zp f1_20, zj f2_21, zj f3_22, zj f4_23, zj f5_24, zj f6_25, zp f7_26, zp f8_27, zj f9_28, zj f10_29, zj f11_30, zj r_17, zp f13_32])) ov w' c s
    obtain ⟨h1, h2, h3, h4⟩ := h
    subst h1; subst h2; subst h3; subst h4
    exact Zr_ret (ins := .areturn) rfl rfl
  · replace h := h.2 hp
    show Zr sc 57 13 [zp a0, zp a1, zj x2] [] w_6 ov w' c s
    refine Zr_st (q := (14, [zp a0, zp a1, zj x2], [zp a1])) rfl rfl rfl ?_
    show Zr sc 57 14 [zp a0, zp a1, zj x2] [zp a1] w_6 ov w' c s
    refine Zr_st (q := (15, [zp a0, zp a1, zj x2], [zj x2, zp a1])) rfl rfl rfl ?_
    show Zr sc 57 15 [zp a0, zp a1, zj x2] [zj x2, zp a1] w_6 ov w' c s
    obtain ⟨f0_34, f1_35, f2_36, f3_37, hw_33, h⟩ := h
    obtain ⟨r_40, w_38, hk_39, h⟩ := h
    refine rn_cal0 (ins := .invokevirtual 86) (rest := []) rfl rfl rfl rfl (zinv_v (fs := _) hw_33 rfl rfl rfl rfl) rfl rfl hk_39 ?_
    show Zr sc 57 18 [zp a0, zp a1, zj x2] [zj r_40] w_38 ov w' c s
    obtain ⟨hr_41, h⟩ := h
    have hsw : (r_40 < 0 ∨ 5 < r_40) ∨ r_40 = 0 ∨ r_40 = 1 ∨ r_40 = 2 ∨ r_40 = 3 ∨ r_40 = 4 ∨ r_40 = 5 := by omega
    rcases hsw with hp | hp | hp | hp | hp | hp | hp
    · replace h := h.1 hp
      refine rl_sw (t := 124) rfl hr_41 (zsw_d hp rfl) ?_
      show Zr sc 57 124 [zp a0, zp a1, zj x2] [] w_38 ov w' c s
      refine Zr_st (q := (125, [zp a0, zp a1, zj x2], [zp a0])) rfl rfl rfl ?_
      show Zr sc 57 125 [zp a0, zp a1, zj x2] [zp a0] w_38 ov w' c s
      refine Zr_st (q := (126, [zp a0, zp a1, zj x2], [zp a0, zp a0])) rfl rfl rfl ?_
      show Zr sc 57 126 [zp a0, zp a1, zj x2] [zp a0, zp a0] w_38 ov w' c s
      obtain ⟨f0_43, f1_44, f2_45, f3_46, f4_47, f5_48, f6_49, f7_50, f8_51, f9_52, f10_53, f11_54, f12_55, f13_56, hw_42, h⟩ := h
      refine rl_gf rfl hw_42 rfl rfl ?_
      show Zr sc 57 129 [zp a0, zp a1, zj x2] [zj f11_54, zp a0] w_38 ov w' c s
      refine Zr_st (q := (130, [zp a0, zp a1, zj x2], [zp a0, zj f11_54, zp a0])) rfl rfl rfl ?_
      show Zr sc 57 130 [zp a0, zp a1, zj x2] [zp a0, zj f11_54, zp a0] w_38 ov w' c s
      refine rl_gf rfl hw_42 rfl rfl ?_
      show Zr sc 57 133 [zp a0, zp a1, zj x2] [zp f0_43, zj f11_54, zp a0] w_38 ov w' c s
      obtain ⟨f0_58, f1_59, f2_60, f3_61, f4_62, f5_63, hw_57, h⟩ := h
      obtain ⟨r_66, w_64, hk_65, h⟩ := h
      refine rn_cal0 (ins := .invokevirtual 110) (rest := [zj f11_54, zp a0]) rfl rfl rfl rfl (zinv_v (fs := _) hw_57 rfl rfl rfl rfl) rfl rfl hk_65 ?_
      show Zr sc 57 136 [zp a0, zp a1, zj x2] [zj r_66, zj f11_54, zp a0] w_64 ov w' c s
      obtain ⟨hm_67, h⟩ := h
      refine Zr_mx (b := true) (ins := .invokestatic 113) (rest := [zp a0]) rfl rfl rfl rfl (zinv_t2 (rest := [zp a0]) rfl rfl rfl rfl rfl) rfl (zmx_j hm_67.1 hm_67.2) ?_
      show Zr sc 57 139 [zp a0, zp a1, zj x2] [zj (max f11_54 r_66), zp a0] w_64 ov w' c s
      obtain ⟨f0_69, f1_70, f2_71, f3_72, f4_73, f5_74, f6_75, f7_76, f8_77, f9_78, f10_79, f11_80, f12_81, f13_82, hw_68, h⟩ := h
      refine rl_pf rfl hw_68 rfl rfl rfl ?_
      show Zr sc 57 142 [zp a0, zp a1, zj x2] [] (w_64.set a0 (zob 4 [zp f0_69, zp f1_70, zj f2_71, zj f3_72, zj f4_73, zj f5_74, zj f6_75, zp f7_76, zp f8_77, zj f9_78, zj f10_79, zj (max f11_54 r_66), zj f12_81, zp f13_82])) ov w' c s
      refine rl_inc rfl rfl rfl rfl ?_
      show Zr sc 57 145 [zp a0, zp a1, zj (x2 + 1)] [] (w_64.set a0 (zob 4 [zp f0_69, zp f1_70, zj f2_71, zj f3_72, zj f4_73, zj f5_74, zj f6_75, zp f7_76, zp f8_77, zj f9_78, zj f10_79, zj (max f11_54 r_66), zj f12_81, zp f13_82])) ov w' c s
      refine Zr_st (q := (5, [zp a0, zp a1, zj (x2 + 1)], [])) rfl rfl rfl ?_
      show Zr sc 57 5 [zp a0, zp a1, zj (x2 + 1)] [] (w_64.set a0 (zob 4 [zp f0_69, zp f1_70, zj f2_71, zj f3_72, zj f4_73, zj f5_74, zj f6_75, zp f7_76, zp f8_77, zj f9_78, zj f10_79, zj (max f11_54 r_66), zj f12_81, zp f13_82])) ov w' c s
      exact h
    · replace h := h.2.1 hp
      refine rl_sw (t := 56) rfl hr_41 (by rw [hp]; rfl) ?_
      show Zr sc 57 56 [zp a0, zp a1, zj x2] [] w_38 ov w' c s
      refine Zr_st (q := (57, [zp a0, zp a1, zj x2], [zp a0])) rfl rfl rfl ?_
      show Zr sc 57 57 [zp a0, zp a1, zj x2] [zp a0] w_38 ov w' c s
      refine Zr_st (q := (58, [zp a0, zp a1, zj x2], [zp a1, zp a0])) rfl rfl rfl ?_
      show Zr sc 57 58 [zp a0, zp a1, zj x2] [zp a1, zp a0] w_38 ov w' c s
      refine Zr_st (q := (59, [zp a0, zp a1, zj x2], [zj x2, zp a1, zp a0])) rfl rfl rfl ?_
      show Zr sc 57 59 [zp a0, zp a1, zj x2] [zj x2, zp a1, zp a0] w_38 ov w' c s
      obtain ⟨f0_84, f1_85, f2_86, f3_87, hw_83, h⟩ := h
      obtain ⟨r_90, w_88, hk_89, h⟩ := h
      refine rn_cal0 (ins := .invokevirtual 89) (rest := [zp a0]) rfl rfl rfl rfl (zinv_v (fs := _) hw_83 rfl rfl rfl rfl) rfl rfl hk_89 ?_
      show Zr sc 57 62 [zp a0, zp a1, zj x2] [zj r_90, zp a0] w_88 ov w' c s
      obtain ⟨f0_92, f1_93, f2_94, f3_95, f4_96, f5_97, f6_98, f7_99, f8_100, f9_101, f10_102, f11_103, f12_104, f13_105, hw_91, h⟩ := h
      obtain ⟨w_106, hk_107, h⟩ := h
      refine rn_cal0 (ins := .invokevirtual 90) (rest := []) rfl rfl rfl rfl (zinv_v (fs := _) hw_91 rfl rfl rfl rfl) rfl rfl hk_107 ?_
      show Zr sc 57 65 [zp a0, zp a1, zj x2] [] w_106 ov w' c s
      refine Zr_st (q := (124, [zp a0, zp a1, zj x2], [])) rfl rfl rfl ?_
      show Zr sc 57 124 [zp a0, zp a1, zj x2] [] w_106 ov w' c s
      refine Zr_st (q := (125, [zp a0, zp a1, zj x2], [zp a0])) rfl rfl rfl ?_
      show Zr sc 57 125 [zp a0, zp a1, zj x2] [zp a0] w_106 ov w' c s
      refine Zr_st (q := (126, [zp a0, zp a1, zj x2], [zp a0, zp a0])) rfl rfl rfl ?_
      show Zr sc 57 126 [zp a0, zp a1, zj x2] [zp a0, zp a0] w_106 ov w' c s
      obtain ⟨f0_109, f1_110, f2_111, f3_112, f4_113, f5_114, f6_115, f7_116, f8_117, f9_118, f10_119, f11_120, f12_121, f13_122, hw_108, h⟩ := h
      refine rl_gf rfl hw_108 rfl rfl ?_
      show Zr sc 57 129 [zp a0, zp a1, zj x2] [zj f11_120, zp a0] w_106 ov w' c s
      refine Zr_st (q := (130, [zp a0, zp a1, zj x2], [zp a0, zj f11_120, zp a0])) rfl rfl rfl ?_
      show Zr sc 57 130 [zp a0, zp a1, zj x2] [zp a0, zj f11_120, zp a0] w_106 ov w' c s
      refine rl_gf rfl hw_108 rfl rfl ?_
      show Zr sc 57 133 [zp a0, zp a1, zj x2] [zp f0_109, zj f11_120, zp a0] w_106 ov w' c s
      obtain ⟨f0_124, f1_125, f2_126, f3_127, f4_128, f5_129, hw_123, h⟩ := h
      obtain ⟨r_132, w_130, hk_131, h⟩ := h
      refine rn_cal0 (ins := .invokevirtual 110) (rest := [zj f11_120, zp a0]) rfl rfl rfl rfl (zinv_v (fs := _) hw_123 rfl rfl rfl rfl) rfl rfl hk_131 ?_
      show Zr sc 57 136 [zp a0, zp a1, zj x2] [zj r_132, zj f11_120, zp a0] w_130 ov w' c s
      obtain ⟨hm_133, h⟩ := h
      refine Zr_mx (b := true) (ins := .invokestatic 113) (rest := [zp a0]) rfl rfl rfl rfl (zinv_t2 (rest := [zp a0]) rfl rfl rfl rfl rfl) rfl (zmx_j hm_133.1 hm_133.2) ?_
      show Zr sc 57 139 [zp a0, zp a1, zj x2] [zj (max f11_120 r_132), zp a0] w_130 ov w' c s
      obtain ⟨f0_135, f1_136, f2_137, f3_138, f4_139, f5_140, f6_141, f7_142, f8_143, f9_144, f10_145, f11_146, f12_147, f13_148, hw_134, h⟩ := h
      refine rl_pf rfl hw_134 rfl rfl rfl ?_
      show Zr sc 57 142 [zp a0, zp a1, zj x2] [] (w_130.set a0 (zob 4 [zp f0_135, zp f1_136, zj f2_137, zj f3_138, zj f4_139, zj f5_140, zj f6_141, zp f7_142, zp f8_143, zj f9_144, zj f10_145, zj (max f11_120 r_132), zj f12_147, zp f13_148])) ov w' c s
      refine rl_inc rfl rfl rfl rfl ?_
      show Zr sc 57 145 [zp a0, zp a1, zj (x2 + 1)] [] (w_130.set a0 (zob 4 [zp f0_135, zp f1_136, zj f2_137, zj f3_138, zj f4_139, zj f5_140, zj f6_141, zp f7_142, zp f8_143, zj f9_144, zj f10_145, zj (max f11_120 r_132), zj f12_147, zp f13_148])) ov w' c s
      refine Zr_st (q := (5, [zp a0, zp a1, zj (x2 + 1)], [])) rfl rfl rfl ?_
      show Zr sc 57 5 [zp a0, zp a1, zj (x2 + 1)] [] (w_130.set a0 (zob 4 [zp f0_135, zp f1_136, zj f2_137, zj f3_138, zj f4_139, zj f5_140, zj f6_141, zp f7_142, zp f8_143, zj f9_144, zj f10_145, zj (max f11_120 r_132), zj f12_147, zp f13_148])) ov w' c s
      exact h
    · replace h := h.2.2.1 hp
      refine rl_sw (t := 68) rfl hr_41 (by rw [hp]; rfl) ?_
      show Zr sc 57 68 [zp a0, zp a1, zj x2] [] w_38 ov w' c s
      refine Zr_st (q := (69, [zp a0, zp a1, zj x2], [zp a0])) rfl rfl rfl ?_
      show Zr sc 57 69 [zp a0, zp a1, zj x2] [zp a0] w_38 ov w' c s
      refine Zr_st (q := (70, [zp a0, zp a1, zj x2], [zp a1, zp a0])) rfl rfl rfl ?_
      show Zr sc 57 70 [zp a0, zp a1, zj x2] [zp a1, zp a0] w_38 ov w' c s
      refine Zr_st (q := (71, [zp a0, zp a1, zj x2], [zj x2, zp a1, zp a0])) rfl rfl rfl ?_
      show Zr sc 57 71 [zp a0, zp a1, zj x2] [zj x2, zp a1, zp a0] w_38 ov w' c s
      obtain ⟨f0_150, f1_151, f2_152, f3_153, hw_149, h⟩ := h
      obtain ⟨r_156, w_154, hk_155, h⟩ := h
      refine rn_cal0 (ins := .invokevirtual 94) (rest := [zp a0]) rfl rfl rfl rfl (zinv_v (fs := _) hw_149 rfl rfl rfl rfl) rfl rfl hk_155 ?_
      show Zr sc 57 74 [zp a0, zp a1, zj x2] [zj r_156, zp a0] w_154 ov w' c s
      obtain ⟨f0_158, f1_159, f2_160, f3_161, f4_162, f5_163, f6_164, f7_165, f8_166, f9_167, f10_168, f11_169, f12_170, f13_171, hw_157, h⟩ := h
      obtain ⟨w_172, hk_173, h⟩ := h
      refine rn_cal0 (ins := .invokevirtual 97) (rest := []) rfl rfl rfl rfl (zinv_v (fs := _) hw_157 rfl rfl rfl rfl) rfl rfl hk_173 ?_
      show Zr sc 57 77 [zp a0, zp a1, zj x2] [] w_172 ov w' c s
      refine Zr_st (q := (124, [zp a0, zp a1, zj x2], [])) rfl rfl rfl ?_
      show Zr sc 57 124 [zp a0, zp a1, zj x2] [] w_172 ov w' c s
      refine Zr_st (q := (125, [zp a0, zp a1, zj x2], [zp a0])) rfl rfl rfl ?_
      show Zr sc 57 125 [zp a0, zp a1, zj x2] [zp a0] w_172 ov w' c s
      refine Zr_st (q := (126, [zp a0, zp a1, zj x2], [zp a0, zp a0])) rfl rfl rfl ?_
      show Zr sc 57 126 [zp a0, zp a1, zj x2] [zp a0, zp a0] w_172 ov w' c s
      obtain ⟨f0_175, f1_176, f2_177, f3_178, f4_179, f5_180, f6_181, f7_182, f8_183, f9_184, f10_185, f11_186, f12_187, f13_188, hw_174, h⟩ := h
      refine rl_gf rfl hw_174 rfl rfl ?_
      show Zr sc 57 129 [zp a0, zp a1, zj x2] [zj f11_186, zp a0] w_172 ov w' c s
      refine Zr_st (q := (130, [zp a0, zp a1, zj x2], [zp a0, zj f11_186, zp a0])) rfl rfl rfl ?_
      show Zr sc 57 130 [zp a0, zp a1, zj x2] [zp a0, zj f11_186, zp a0] w_172 ov w' c s
      refine rl_gf rfl hw_174 rfl rfl ?_
      show Zr sc 57 133 [zp a0, zp a1, zj x2] [zp f0_175, zj f11_186, zp a0] w_172 ov w' c s
      obtain ⟨f0_190, f1_191, f2_192, f3_193, f4_194, f5_195, hw_189, h⟩ := h
      obtain ⟨r_198, w_196, hk_197, h⟩ := h
      refine rn_cal0 (ins := .invokevirtual 110) (rest := [zj f11_186, zp a0]) rfl rfl rfl rfl (zinv_v (fs := _) hw_189 rfl rfl rfl rfl) rfl rfl hk_197 ?_
      show Zr sc 57 136 [zp a0, zp a1, zj x2] [zj r_198, zj f11_186, zp a0] w_196 ov w' c s
      obtain ⟨hm_199, h⟩ := h
      refine Zr_mx (b := true) (ins := .invokestatic 113) (rest := [zp a0]) rfl rfl rfl rfl (zinv_t2 (rest := [zp a0]) rfl rfl rfl rfl rfl) rfl (zmx_j hm_199.1 hm_199.2) ?_
      show Zr sc 57 139 [zp a0, zp a1, zj x2] [zj (max f11_186 r_198), zp a0] w_196 ov w' c s
      obtain ⟨f0_201, f1_202, f2_203, f3_204, f4_205, f5_206, f6_207, f7_208, f8_209, f9_210, f10_211, f11_212, f12_213, f13_214, hw_200, h⟩ := h
      refine rl_pf rfl hw_200 rfl rfl rfl ?_
      show Zr sc 57 142 [zp a0, zp a1, zj x2] [] (w_196.set a0 (zob 4 [zp f0_201, zp f1_202, zj f2_203, zj f3_204, zj f4_205, zj f5_206, zj f6_207, zp f7_208, zp f8_209, zj f9_210, zj f10_211, zj (max f11_186 r_198), zj f12_213, zp f13_214])) ov w' c s
      refine rl_inc rfl rfl rfl rfl ?_
      show Zr sc 57 145 [zp a0, zp a1, zj (x2 + 1)] [] (w_196.set a0 (zob 4 [zp f0_201, zp f1_202, zj f2_203, zj f3_204, zj f4_205, zj f5_206, zj f6_207, zp f7_208, zp f8_209, zj f9_210, zj f10_211, zj (max f11_186 r_198), zj f12_213, zp f13_214])) ov w' c s
      refine Zr_st (q := (5, [zp a0, zp a1, zj (x2 + 1)], [])) rfl rfl rfl ?_
      show Zr sc 57 5 [zp a0, zp a1, zj (x2 + 1)] [] (w_196.set a0 (zob 4 [zp f0_201, zp f1_202, zj f2_203, zj f3_204, zj f4_205, zj f5_206, zj f6_207, zp f7_208, zp f8_209, zj f9_210, zj f10_211, zj (max f11_186 r_198), zj f12_213, zp f13_214])) ov w' c s
      exact h
    · replace h := h.2.2.2.1 hp
      refine rl_sw (t := 80) rfl hr_41 (by rw [hp]; rfl) ?_
      show Zr sc 57 80 [zp a0, zp a1, zj x2] [] w_38 ov w' c s
      refine Zr_st (q := (81, [zp a0, zp a1, zj x2], [zp a0])) rfl rfl rfl ?_
      show Zr sc 57 81 [zp a0, zp a1, zj x2] [zp a0] w_38 ov w' c s
      refine Zr_st (q := (82, [zp a0, zp a1, zj x2], [zp a1, zp a0])) rfl rfl rfl ?_
      show Zr sc 57 82 [zp a0, zp a1, zj x2] [zp a1, zp a0] w_38 ov w' c s
      refine Zr_st (q := (83, [zp a0, zp a1, zj x2], [zj x2, zp a1, zp a0])) rfl rfl rfl ?_
      show Zr sc 57 83 [zp a0, zp a1, zj x2] [zj x2, zp a1, zp a0] w_38 ov w' c s
      obtain ⟨f0_216, f1_217, f2_218, f3_219, hw_215, h⟩ := h
      obtain ⟨r_222, w_220, hk_221, h⟩ := h
      refine rn_cal0 (ins := .invokevirtual 94) (rest := [zp a0]) rfl rfl rfl rfl (zinv_v (fs := _) hw_215 rfl rfl rfl rfl) rfl rfl hk_221 ?_
      show Zr sc 57 86 [zp a0, zp a1, zj x2] [zj r_222, zp a0] w_220 ov w' c s
      refine Zr_st (q := (87, [zp a0, zp a1, zj x2], [zp a1, zj r_222, zp a0])) rfl rfl rfl ?_
      show Zr sc 57 87 [zp a0, zp a1, zj x2] [zp a1, zj r_222, zp a0] w_220 ov w' c s
      refine Zr_st (q := (88, [zp a0, zp a1, zj x2], [zj x2, zp a1, zj r_222, zp a0])) rfl rfl rfl ?_
      show Zr sc 57 88 [zp a0, zp a1, zj x2] [zj x2, zp a1, zj r_222, zp a0] w_220 ov w' c s
      obtain ⟨f0_224, f1_225, f2_226, f3_227, hw_223, h⟩ := h
      obtain ⟨r_230, w_228, hk_229, h⟩ := h
      refine rn_cal0 (ins := .invokevirtual 89) (rest := [zj r_222, zp a0]) rfl rfl rfl rfl (zinv_v (fs := _) hw_223 rfl rfl rfl rfl) rfl rfl hk_229 ?_
      show Zr sc 57 91 [zp a0, zp a1, zj x2] [zj r_230, zj r_222, zp a0] w_228 ov w' c s
      obtain ⟨f0_232, f1_233, f2_234, f3_235, f4_236, f5_237, f6_238, f7_239, f8_240, f9_241, f10_242, f11_243, f12_244, f13_245, hw_231, h⟩ := h
      obtain ⟨w_246, hk_247, h⟩ := h
      refine rn_cal0 (ins := .invokevirtual 100) (rest := []) rfl rfl rfl rfl (zinv_v (fs := _) hw_231 rfl rfl rfl rfl) rfl rfl hk_247 ?_
      show Zr sc 57 94 [zp a0, zp a1, zj x2] [] w_246 ov w' c s
      refine Zr_st (q := (124, [zp a0, zp a1, zj x2], [])) rfl rfl rfl ?_
      show Zr sc 57 124 [zp a0, zp a1, zj x2] [] w_246 ov w' c s
      refine Zr_st (q := (125, [zp a0, zp a1, zj x2], [zp a0])) rfl rfl rfl ?_
      show Zr sc 57 125 [zp a0, zp a1, zj x2] [zp a0] w_246 ov w' c s
      refine Zr_st (q := (126, [zp a0, zp a1, zj x2], [zp a0, zp a0])) rfl rfl rfl ?_
      show Zr sc 57 126 [zp a0, zp a1, zj x2] [zp a0, zp a0] w_246 ov w' c s
      obtain ⟨f0_249, f1_250, f2_251, f3_252, f4_253, f5_254, f6_255, f7_256, f8_257, f9_258, f10_259, f11_260, f12_261, f13_262, hw_248, h⟩ := h
      refine rl_gf rfl hw_248 rfl rfl ?_
      show Zr sc 57 129 [zp a0, zp a1, zj x2] [zj f11_260, zp a0] w_246 ov w' c s
      refine Zr_st (q := (130, [zp a0, zp a1, zj x2], [zp a0, zj f11_260, zp a0])) rfl rfl rfl ?_
      show Zr sc 57 130 [zp a0, zp a1, zj x2] [zp a0, zj f11_260, zp a0] w_246 ov w' c s
      refine rl_gf rfl hw_248 rfl rfl ?_
      show Zr sc 57 133 [zp a0, zp a1, zj x2] [zp f0_249, zj f11_260, zp a0] w_246 ov w' c s
      obtain ⟨f0_264, f1_265, f2_266, f3_267, f4_268, f5_269, hw_263, h⟩ := h
      obtain ⟨r_272, w_270, hk_271, h⟩ := h
      refine rn_cal0 (ins := .invokevirtual 110) (rest := [zj f11_260, zp a0]) rfl rfl rfl rfl (zinv_v (fs := _) hw_263 rfl rfl rfl rfl) rfl rfl hk_271 ?_
      show Zr sc 57 136 [zp a0, zp a1, zj x2] [zj r_272, zj f11_260, zp a0] w_270 ov w' c s
      obtain ⟨hm_273, h⟩ := h
      refine Zr_mx (b := true) (ins := .invokestatic 113) (rest := [zp a0]) rfl rfl rfl rfl (zinv_t2 (rest := [zp a0]) rfl rfl rfl rfl rfl) rfl (zmx_j hm_273.1 hm_273.2) ?_
      show Zr sc 57 139 [zp a0, zp a1, zj x2] [zj (max f11_260 r_272), zp a0] w_270 ov w' c s
      obtain ⟨f0_275, f1_276, f2_277, f3_278, f4_279, f5_280, f6_281, f7_282, f8_283, f9_284, f10_285, f11_286, f12_287, f13_288, hw_274, h⟩ := h
      refine rl_pf rfl hw_274 rfl rfl rfl ?_
      show Zr sc 57 142 [zp a0, zp a1, zj x2] [] (w_270.set a0 (zob 4 [zp f0_275, zp f1_276, zj f2_277, zj f3_278, zj f4_279, zj f5_280, zj f6_281, zp f7_282, zp f8_283, zj f9_284, zj f10_285, zj (max f11_260 r_272), zj f12_287, zp f13_288])) ov w' c s
      refine rl_inc rfl rfl rfl rfl ?_
      show Zr sc 57 145 [zp a0, zp a1, zj (x2 + 1)] [] (w_270.set a0 (zob 4 [zp f0_275, zp f1_276, zj f2_277, zj f3_278, zj f4_279, zj f5_280, zj f6_281, zp f7_282, zp f8_283, zj f9_284, zj f10_285, zj (max f11_260 r_272), zj f12_287, zp f13_288])) ov w' c s
      refine Zr_st (q := (5, [zp a0, zp a1, zj (x2 + 1)], [])) rfl rfl rfl ?_
      show Zr sc 57 5 [zp a0, zp a1, zj (x2 + 1)] [] (w_270.set a0 (zob 4 [zp f0_275, zp f1_276, zj f2_277, zj f3_278, zj f4_279, zj f5_280, zj f6_281, zp f7_282, zp f8_283, zj f9_284, zj f10_285, zj (max f11_260 r_272), zj f12_287, zp f13_288])) ov w' c s
      exact h
    · replace h := h.2.2.2.2.1 hp
      refine rl_sw (t := 97) rfl hr_41 (by rw [hp]; rfl) ?_
      show Zr sc 57 97 [zp a0, zp a1, zj x2] [] w_38 ov w' c s
      refine Zr_st (q := (98, [zp a0, zp a1, zj x2], [zp a0])) rfl rfl rfl ?_
      show Zr sc 57 98 [zp a0, zp a1, zj x2] [zp a0] w_38 ov w' c s
      obtain ⟨f0_290, f1_291, f2_292, f3_293, f4_294, f5_295, f6_296, f7_297, f8_298, f9_299, f10_300, f11_301, f12_302, f13_303, hw_289, h⟩ := h
      obtain ⟨w_304, hk_305, h⟩ := h
      refine rn_cal0 (ins := .invokevirtual 104) (rest := []) rfl rfl rfl rfl (zinv_v (fs := _) hw_289 rfl rfl rfl rfl) rfl rfl hk_305 ?_
      show Zr sc 57 101 [zp a0, zp a1, zj x2] [] w_304 ov w' c s
      refine Zr_st (q := (124, [zp a0, zp a1, zj x2], [])) rfl rfl rfl ?_
      show Zr sc 57 124 [zp a0, zp a1, zj x2] [] w_304 ov w' c s
      refine Zr_st (q := (125, [zp a0, zp a1, zj x2], [zp a0])) rfl rfl rfl ?_
      show Zr sc 57 125 [zp a0, zp a1, zj x2] [zp a0] w_304 ov w' c s
      refine Zr_st (q := (126, [zp a0, zp a1, zj x2], [zp a0, zp a0])) rfl rfl rfl ?_
      show Zr sc 57 126 [zp a0, zp a1, zj x2] [zp a0, zp a0] w_304 ov w' c s
      obtain ⟨f0_307, f1_308, f2_309, f3_310, f4_311, f5_312, f6_313, f7_314, f8_315, f9_316, f10_317, f11_318, f12_319, f13_320, hw_306, h⟩ := h
      refine rl_gf rfl hw_306 rfl rfl ?_
      show Zr sc 57 129 [zp a0, zp a1, zj x2] [zj f11_318, zp a0] w_304 ov w' c s
      refine Zr_st (q := (130, [zp a0, zp a1, zj x2], [zp a0, zj f11_318, zp a0])) rfl rfl rfl ?_
      show Zr sc 57 130 [zp a0, zp a1, zj x2] [zp a0, zj f11_318, zp a0] w_304 ov w' c s
      refine rl_gf rfl hw_306 rfl rfl ?_
      show Zr sc 57 133 [zp a0, zp a1, zj x2] [zp f0_307, zj f11_318, zp a0] w_304 ov w' c s
      obtain ⟨f0_322, f1_323, f2_324, f3_325, f4_326, f5_327, hw_321, h⟩ := h
      obtain ⟨r_330, w_328, hk_329, h⟩ := h
      refine rn_cal0 (ins := .invokevirtual 110) (rest := [zj f11_318, zp a0]) rfl rfl rfl rfl (zinv_v (fs := _) hw_321 rfl rfl rfl rfl) rfl rfl hk_329 ?_
      show Zr sc 57 136 [zp a0, zp a1, zj x2] [zj r_330, zj f11_318, zp a0] w_328 ov w' c s
      obtain ⟨hm_331, h⟩ := h
      refine Zr_mx (b := true) (ins := .invokestatic 113) (rest := [zp a0]) rfl rfl rfl rfl (zinv_t2 (rest := [zp a0]) rfl rfl rfl rfl rfl) rfl (zmx_j hm_331.1 hm_331.2) ?_
      show Zr sc 57 139 [zp a0, zp a1, zj x2] [zj (max f11_318 r_330), zp a0] w_328 ov w' c s
      obtain ⟨f0_333, f1_334, f2_335, f3_336, f4_337, f5_338, f6_339, f7_340, f8_341, f9_342, f10_343, f11_344, f12_345, f13_346, hw_332, h⟩ := h
      refine rl_pf rfl hw_332 rfl rfl rfl ?_
      show Zr sc 57 142 [zp a0, zp a1, zj x2] [] (w_328.set a0 (zob 4 [zp f0_333, zp f1_334, zj f2_335, zj f3_336, zj f4_337, zj f5_338, zj f6_339, zp f7_340, zp f8_341, zj f9_342, zj f10_343, zj (max f11_318 r_330), zj f12_345, zp f13_346])) ov w' c s
      refine rl_inc rfl rfl rfl rfl ?_
      show Zr sc 57 145 [zp a0, zp a1, zj (x2 + 1)] [] (w_328.set a0 (zob 4 [zp f0_333, zp f1_334, zj f2_335, zj f3_336, zj f4_337, zj f5_338, zj f6_339, zp f7_340, zp f8_341, zj f9_342, zj f10_343, zj (max f11_318 r_330), zj f12_345, zp f13_346])) ov w' c s
      refine Zr_st (q := (5, [zp a0, zp a1, zj (x2 + 1)], [])) rfl rfl rfl ?_
      show Zr sc 57 5 [zp a0, zp a1, zj (x2 + 1)] [] (w_328.set a0 (zob 4 [zp f0_333, zp f1_334, zj f2_335, zj f3_336, zj f4_337, zj f5_338, zj f6_339, zp f7_340, zp f8_341, zj f9_342, zj f10_343, zj (max f11_318 r_330), zj f12_345, zp f13_346])) ov w' c s
      exact h
    · replace h := h.2.2.2.2.2.1 hp
      refine rl_sw (t := 104) rfl hr_41 (by rw [hp]; rfl) ?_
      show Zr sc 57 104 [zp a0, zp a1, zj x2] [] w_38 ov w' c s
      refine Zr_st (q := (105, [zp a0, zp a1, zj x2], [zp a0])) rfl rfl rfl ?_
      show Zr sc 57 105 [zp a0, zp a1, zj x2] [zp a0] w_38 ov w' c s
      refine Zr_st (q := (106, [zp a0, zp a1, zj x2], [zp a0, zp a0])) rfl rfl rfl ?_
      show Zr sc 57 106 [zp a0, zp a1, zj x2] [zp a0, zp a0] w_38 ov w' c s
      obtain ⟨f0_348, f1_349, f2_350, f3_351, f4_352, f5_353, f6_354, f7_355, f8_356, f9_357, f10_358, f11_359, f12_360, f13_361, hw_347, h⟩ := h
      refine rl_gf rfl hw_347 rfl rfl ?_
      show Zr sc 57 109 [zp a0, zp a1, zj x2] [zj f10_358, zp a0] w_38 ov w' c s
      refine rl_ic rfl ?_
      show Zr sc 57 110 [zp a0, zp a1, zj x2] [zj 1, zj f10_358, zp a0] w_38 ov w' c s
      refine rl_add rfl ?_
      show Zr sc 57 111 [zp a0, zp a1, zj x2] [zj (f10_358 + 1), zp a0] w_38 ov w' c s
      refine rl_pf rfl hw_347 rfl rfl rfl ?_
      show Zr sc 57 114 [zp a0, zp a1, zj x2] [] (w_38.set a0 (zob 4 [zp f0_348, zp f1_349, zj f2_350, zj f3_351, zj f4_352, zj f5_353, zj f6_354, zp f7_355, zp f8_356, zj f9_357, zj (f10_358 + 1), zj f11_359, zj f12_360, zp f13_361])) ov w' c s
      refine Zr_st (q := (124, [zp a0, zp a1, zj x2], [])) rfl rfl rfl ?_
      show Zr sc 57 124 [zp a0, zp a1, zj x2] [] (w_38.set a0 (zob 4 [zp f0_348, zp f1_349, zj f2_350, zj f3_351, zj f4_352, zj f5_353, zj f6_354, zp f7_355, zp f8_356, zj f9_357, zj (f10_358 + 1), zj f11_359, zj f12_360, zp f13_361])) ov w' c s
      refine Zr_st (q := (125, [zp a0, zp a1, zj x2], [zp a0])) rfl rfl rfl ?_
      show Zr sc 57 125 [zp a0, zp a1, zj x2] [zp a0] (w_38.set a0 (zob 4 [zp f0_348, zp f1_349, zj f2_350, zj f3_351, zj f4_352, zj f5_353, zj f6_354, zp f7_355, zp f8_356, zj f9_357, zj (f10_358 + 1), zj f11_359, zj f12_360, zp f13_361])) ov w' c s
      refine Zr_st (q := (126, [zp a0, zp a1, zj x2], [zp a0, zp a0])) rfl rfl rfl ?_
      show Zr sc 57 126 [zp a0, zp a1, zj x2] [zp a0, zp a0] (w_38.set a0 (zob 4 [zp f0_348, zp f1_349, zj f2_350, zj f3_351, zj f4_352, zj f5_353, zj f6_354, zp f7_355, zp f8_356, zj f9_357, zj (f10_358 + 1), zj f11_359, zj f12_360, zp f13_361])) ov w' c s
      refine rl_gf rfl (zw_s hw_347) rfl rfl ?_
      show Zr sc 57 129 [zp a0, zp a1, zj x2] [zj f11_359, zp a0] (w_38.set a0 (zob 4 [zp f0_348, zp f1_349, zj f2_350, zj f3_351, zj f4_352, zj f5_353, zj f6_354, zp f7_355, zp f8_356, zj f9_357, zj (f10_358 + 1), zj f11_359, zj f12_360, zp f13_361])) ov w' c s
      refine Zr_st (q := (130, [zp a0, zp a1, zj x2], [zp a0, zj f11_359, zp a0])) rfl rfl rfl ?_
      show Zr sc 57 130 [zp a0, zp a1, zj x2] [zp a0, zj f11_359, zp a0] (w_38.set a0 (zob 4 [zp f0_348, zp f1_349, zj f2_350, zj f3_351, zj f4_352, zj f5_353, zj f6_354, zp f7_355, zp f8_356, zj f9_357, zj (f10_358 + 1), zj f11_359, zj f12_360, zp f13_361])) ov w' c s
      refine rl_gf rfl (zw_s hw_347) rfl rfl ?_
      show Zr sc 57 133 [zp a0, zp a1, zj x2] [zp f0_348, zj f11_359, zp a0] (w_38.set a0 (zob 4 [zp f0_348, zp f1_349, zj f2_350, zj f3_351, zj f4_352, zj f5_353, zj f6_354, zp f7_355, zp f8_356, zj f9_357, zj (f10_358 + 1), zj f11_359, zj f12_360, zp f13_361])) ov w' c s
      obtain ⟨hn_362, h⟩ := h
      obtain ⟨f0_364, f1_365, f2_366, f3_367, f4_368, f5_369, hw_363, h⟩ := h
      obtain ⟨r_372, w_370, hk_371, h⟩ := h
      refine rn_cal0 (ins := .invokevirtual 110) (rest := [zj f11_359, zp a0]) rfl rfl rfl rfl (zinv_v (fs := _) (zw_o hn_362 hw_363) rfl rfl rfl rfl) rfl rfl hk_371 ?_
      show Zr sc 57 136 [zp a0, zp a1, zj x2] [zj r_372, zj f11_359, zp a0] w_370 ov w' c s
      obtain ⟨hm_373, h⟩ := h
      refine Zr_mx (b := true) (ins := .invokestatic 113) (rest := [zp a0]) rfl rfl rfl rfl (zinv_t2 (rest := [zp a0]) rfl rfl rfl rfl rfl) rfl (zmx_j hm_373.1 hm_373.2) ?_
      show Zr sc 57 139 [zp a0, zp a1, zj x2] [zj (max f11_359 r_372), zp a0] w_370 ov w' c s
      obtain ⟨f0_375, f1_376, f2_377, f3_378, f4_379, f5_380, f6_381, f7_382, f8_383, f9_384, f10_385, f11_386, f12_387, f13_388, hw_374, h⟩ := h
      refine rl_pf rfl hw_374 rfl rfl rfl ?_
      show Zr sc 57 142 [zp a0, zp a1, zj x2] [] (w_370.set a0 (zob 4 [zp f0_375, zp f1_376, zj f2_377, zj f3_378, zj f4_379, zj f5_380, zj f6_381, zp f7_382, zp f8_383, zj f9_384, zj f10_385, zj (max f11_359 r_372), zj f12_387, zp f13_388])) ov w' c s
      refine rl_inc rfl rfl rfl rfl ?_
      show Zr sc 57 145 [zp a0, zp a1, zj (x2 + 1)] [] (w_370.set a0 (zob 4 [zp f0_375, zp f1_376, zj f2_377, zj f3_378, zj f4_379, zj f5_380, zj f6_381, zp f7_382, zp f8_383, zj f9_384, zj f10_385, zj (max f11_359 r_372), zj f12_387, zp f13_388])) ov w' c s
      refine Zr_st (q := (5, [zp a0, zp a1, zj (x2 + 1)], [])) rfl rfl rfl ?_
      show Zr sc 57 5 [zp a0, zp a1, zj (x2 + 1)] [] (w_370.set a0 (zob 4 [zp f0_375, zp f1_376, zj f2_377, zj f3_378, zj f4_379, zj f5_380, zj f6_381, zp f7_382, zp f8_383, zj f9_384, zj f10_385, zj (max f11_359 r_372), zj f12_387, zp f13_388])) ov w' c s
      exact h
    · replace h := h.2.2.2.2.2.2 hp
      refine rl_sw (t := 117) rfl hr_41 (by rw [hp]; rfl) ?_
      show Zr sc 57 117 [zp a0, zp a1, zj x2] [] w_38 ov w' c s
      refine Zr_st (q := (118, [zp a0, zp a1, zj x2], [zp a0])) rfl rfl rfl ?_
      show Zr sc 57 118 [zp a0, zp a1, zj x2] [zp a0] w_38 ov w' c s
      obtain ⟨f0_390, f1_391, f2_392, f3_393, f4_394, f5_395, f6_396, f7_397, f8_398, f9_399, f10_400, f11_401, f12_402, f13_403, hw_389, h⟩ := h
      obtain ⟨w_404, hk_405, h⟩ := h
      refine rn_cal0 (ins := .invokevirtual 107) (rest := []) rfl rfl rfl rfl (zinv_v (fs := _) hw_389 rfl rfl rfl rfl) rfl rfl hk_405 ?_
      show Zr sc 57 121 [zp a0, zp a1, zj x2] [] w_404 ov w' c s
      refine Zr_st (q := (124, [zp a0, zp a1, zj x2], [])) rfl rfl rfl ?_
      show Zr sc 57 124 [zp a0, zp a1, zj x2] [] w_404 ov w' c s
      refine Zr_st (q := (125, [zp a0, zp a1, zj x2], [zp a0])) rfl rfl rfl ?_
      show Zr sc 57 125 [zp a0, zp a1, zj x2] [zp a0] w_404 ov w' c s
      refine Zr_st (q := (126, [zp a0, zp a1, zj x2], [zp a0, zp a0])) rfl rfl rfl ?_
      show Zr sc 57 126 [zp a0, zp a1, zj x2] [zp a0, zp a0] w_404 ov w' c s
      obtain ⟨f0_407, f1_408, f2_409, f3_410, f4_411, f5_412, f6_413, f7_414, f8_415, f9_416, f10_417, f11_418, f12_419, f13_420, hw_406, h⟩ := h
      refine rl_gf rfl hw_406 rfl rfl ?_
      show Zr sc 57 129 [zp a0, zp a1, zj x2] [zj f11_418, zp a0] w_404 ov w' c s
      refine Zr_st (q := (130, [zp a0, zp a1, zj x2], [zp a0, zj f11_418, zp a0])) rfl rfl rfl ?_
      show Zr sc 57 130 [zp a0, zp a1, zj x2] [zp a0, zj f11_418, zp a0] w_404 ov w' c s
      refine rl_gf rfl hw_406 rfl rfl ?_
      show Zr sc 57 133 [zp a0, zp a1, zj x2] [zp f0_407, zj f11_418, zp a0] w_404 ov w' c s
      obtain ⟨f0_422, f1_423, f2_424, f3_425, f4_426, f5_427, hw_421, h⟩ := h
      obtain ⟨r_430, w_428, hk_429, h⟩ := h
      refine rn_cal0 (ins := .invokevirtual 110) (rest := [zj f11_418, zp a0]) rfl rfl rfl rfl (zinv_v (fs := _) hw_421 rfl rfl rfl rfl) rfl rfl hk_429 ?_
      show Zr sc 57 136 [zp a0, zp a1, zj x2] [zj r_430, zj f11_418, zp a0] w_428 ov w' c s
      obtain ⟨hm_431, h⟩ := h
      refine Zr_mx (b := true) (ins := .invokestatic 113) (rest := [zp a0]) rfl rfl rfl rfl (zinv_t2 (rest := [zp a0]) rfl rfl rfl rfl rfl) rfl (zmx_j hm_431.1 hm_431.2) ?_
      show Zr sc 57 139 [zp a0, zp a1, zj x2] [zj (max f11_418 r_430), zp a0] w_428 ov w' c s
      obtain ⟨f0_433, f1_434, f2_435, f3_436, f4_437, f5_438, f6_439, f7_440, f8_441, f9_442, f10_443, f11_444, f12_445, f13_446, hw_432, h⟩ := h
      refine rl_pf rfl hw_432 rfl rfl rfl ?_
      show Zr sc 57 142 [zp a0, zp a1, zj x2] [] (w_428.set a0 (zob 4 [zp f0_433, zp f1_434, zj f2_435, zj f3_436, zj f4_437, zj f5_438, zj f6_439, zp f7_440, zp f8_441, zj f9_442, zj f10_443, zj (max f11_418 r_430), zj f12_445, zp f13_446])) ov w' c s
      refine rl_inc rfl rfl rfl rfl ?_
      show Zr sc 57 145 [zp a0, zp a1, zj (x2 + 1)] [] (w_428.set a0 (zob 4 [zp f0_433, zp f1_434, zj f2_435, zj f3_436, zj f4_437, zj f5_438, zj f6_439, zp f7_440, zp f8_441, zj f9_442, zj f10_443, zj (max f11_418 r_430), zj f12_445, zp f13_446])) ov w' c s
      refine Zr_st (q := (5, [zp a0, zp a1, zj (x2 + 1)], [])) rfl rfl rfl ?_
      show Zr sc 57 5 [zp a0, zp a1, zj (x2 + 1)] [] (w_428.set a0 (zob 4 [zp f0_433, zp f1_434, zj f2_435, zj f3_436, zj f4_437, zj f5_438, zj f6_439, zp f7_440, zp f8_441, zj f9_442, zj f10_443, zj (max f11_418 r_430), zj f12_445, zp f13_446])) ov w' c s
      exact h

-- HeapwrightLab$Trace.length()I
set_option maxRecDepth 100000 in
theorem V58_0 {sc : List Value} {w w' : List zE} {ov : Option Value} {c s : Nat} {a0 : Nat} (h : (∃ f0_2 : Nat, ∃ f1_3 : Nat, ∃ f2_4 : Nat, ∃ f3_5 : Int, w[a0]? = some (zob 5 [zp f0_2, zp f1_3, zp f2_4, zj f3_5]) ∧ (ov = some (zj f3_5) ∧ w' = w ∧ c = 0 ∧ s = 0))) : Zr sc 58 0 [zp a0] [] w ov w' c s := by
  refine Zr_st (q := (1, [zp a0], [zp a0])) rfl rfl rfl ?_
  show Zr sc 58 1 [zp a0] [zp a0] w ov w' c s
  obtain ⟨f0_2, f1_3, f2_4, f3_5, hw_1, h⟩ := h
  refine rl_gf rfl hw_1 rfl rfl ?_
  show Zr sc 58 4 [zp a0] [zj f3_5] w ov w' c s
  obtain ⟨h1, h2, h3, h4⟩ := h
  subst h1; subst h2; subst h3; subst h4
  exact Zr_ret (ins := .ireturn) rfl rfl

-- HeapwrightLab$Trace.kindOf(I)I
set_option maxRecDepth 100000 in
theorem V59_0 {sc : List Value} {w w' : List zE} {ov : Option Value} {c s : Nat} {a0 : Nat} {x1 : Int} (h : (∃ f0_2 : Nat, ∃ f1_3 : Nat, ∃ f2_4 : Nat, ∃ f3_5 : Int, w[a0]? = some (zob 5 [zp f0_2, zp f1_3, zp f2_4, zj f3_5]) ∧ (∃ r_8 : Int, ∃ w_6 : List zE, Zc sc 60 [zp a0, zj x1] w (some (zj r_8)) w_6 0 0 ∧ ((zrg r_8) ∧ ((r_8 = 0 → (ov = some (zj (-1)) ∧ w' = w_6 ∧ c = 0 ∧ s = 0)) ∧ (¬ (r_8 = 0) → (∃ f0_11 : Nat, ∃ f1_12 : Nat, ∃ f2_13 : Nat, ∃ f3_14 : Int, w_6[a0]? = some (zob 5 [zp f0_11, zp f1_12, zp f2_13, zj f3_14]) ∧ (∃ l_17 : List Int, w_6[f0_11]? = some (za l_17) ∧ ((0 ≤ x1 ∧ x1 < (l_17.length : Int) ∧ x1 ≤ 2147483647) ∧ (ov = some (zj (zgi l_17 x1)) ∧ w' = w_6 ∧ c = 0 ∧ s = 0)))))))))) : Zr sc 59 0 [zp a0, zj x1] [] w ov w' c s := by
  refine Zr_st (q := (1, [zp a0, zj x1], [zp a0])) rfl rfl rfl ?_
  show Zr sc 59 1 [zp a0, zj x1] [zp a0] w ov w' c s
  refine Zr_st (q := (2, [zp a0, zj x1], [zj x1, zp a0])) rfl rfl rfl ?_
  show Zr sc 59 2 [zp a0, zj x1] [zj x1, zp a0] w ov w' c s
  obtain ⟨f0_2, f1_3, f2_4, f3_5, hw_1, h⟩ := h
  obtain ⟨r_8, w_6, hk_7, h⟩ := h
  refine rn_cal0 (ins := .invokevirtual 25) (rest := []) rfl rfl rfl rfl (zinv_v (fs := _) hw_1 rfl rfl rfl rfl) rfl rfl hk_7 ?_
  show Zr sc 59 5 [zp a0, zj x1] [zj r_8] w_6 ov w' c s
  obtain ⟨hr_9, h⟩ := h
  refine Zr_b0 (p := r_8 = 0) rfl rfl (zcmp_0 (cnd := .eq) hr_9) (fun hp => ?_) (fun hp => ?_)
  · replace h := h.1 hp
    show Zr sc 59 17 [zp a0, zj x1] [] w_6 ov w' c s
    refine rl_ic rfl ?_
    show Zr sc 59 18 [zp a0, zj x1] [zj (-1)] w_6 ov w' c s
    obtain ⟨h1, h2, h3, h4⟩ := h
    subst h1; subst h2; subst h3; subst h4
    exact Zr_ret (ins := .ireturn) rfl rfl
  · replace h := h.2 hp
    show Zr sc 59 8 [zp a0, zj x1] [] w_6 ov w' c s
    refine Zr_st (q := (9, [zp a0, zj x1], [zp a0])) rfl rfl rfl ?_
    show Zr sc 59 9 [zp a0, zj x1] [zp a0] w_6 ov w' c s
    obtain ⟨f0_11, f1_12, f2_13, f3_14, hw_10, h⟩ := h
    refine rl_gf rfl hw_10 rfl rfl ?_
    show Zr sc 59 12 [zp a0, zj x1] [zp f0_11] w_6 ov w' c s
    refine Zr_st (q := (13, [zp a0, zj x1], [zj x1, zp f0_11])) rfl rfl rfl ?_
    show Zr sc 59 13 [zp a0, zj x1] [zj x1, zp f0_11] w_6 ov w' c s
    obtain ⟨l_17, hw_16, h⟩ := h
    obtain ⟨hi_15, h⟩ := h
    refine rl_ia rfl hw_16 hi_15.1 hi_15.2.1 hi_15.2.2 ?_
    show Zr sc 59 14 [zp a0, zj x1] [zj (zgi l_17 x1)] w_6 ov w' c s
    refine Zr_st (q := (18, [zp a0, zj x1], [zj (zgi l_17 x1)])) rfl rfl rfl ?_
    show Zr sc 59 18 [zp a0, zj x1] [zj (zgi l_17 x1)] w_6 ov w' c s
    obtain ⟨h1, h2, h3, h4⟩ := h
    subst h1; subst h2; subst h3; subst h4
    exact Zr_ret (ins := .ireturn) rfl rfl

-- HeapwrightLab$Trace.isDeed(I)Z
set_option maxRecDepth 100000 in
theorem V60_0 {sc : List Value} {w w' : List zE} {ov : Option Value} {c s : Nat} {a0 : Nat} {x1 : Int} (h : ((zrg x1) ∧ ((x1 < 0 → (ov = some (zj 0) ∧ w' = w ∧ c = 0 ∧ s = 0)) ∧ (¬ (x1 < 0) → (∃ f0_3 : Nat, ∃ f1_4 : Nat, ∃ f2_5 : Nat, ∃ f3_6 : Int, w[a0]? = some (zob 5 [zp f0_3, zp f1_4, zp f2_5, zj f3_6]) ∧ ((zrg x1 ∧ zrg f3_6) ∧ ((f3_6 ≤ x1 → (ov = some (zj 0) ∧ w' = w ∧ c = 0 ∧ s = 0)) ∧ (¬ (f3_6 ≤ x1) → (ov = some (zj 1) ∧ w' = w ∧ c = 0 ∧ s = 0))))))))) : Zr sc 60 0 [zp a0, zj x1] [] w ov w' c s := by
  refine Zr_st (q := (1, [zp a0, zj x1], [zj x1])) rfl rfl rfl ?_
  show Zr sc 60 1 [zp a0, zj x1] [zj x1] w ov w' c s
  obtain ⟨hr_1, h⟩ := h
  refine Zr_b0 (p := x1 < 0) rfl rfl (zcmp_0 (cnd := .lt) hr_1) (fun hp => ?_) (fun hp => ?_)
  · replace h := h.1 hp
    show Zr sc 60 16 [zp a0, zj x1] [] w ov w' c s
    refine rl_ic rfl ?_
    show Zr sc 60 17 [zp a0, zj x1] [zj 0] w ov w' c s
    obtain ⟨h1, h2, h3, h4⟩ := h
    subst h1; subst h2; subst h3; subst h4
    exact Zr_ret (ins := .ireturn) rfl rfl
  · replace h := h.2 hp
    show Zr sc 60 4 [zp a0, zj x1] [] w ov w' c s
    refine Zr_st (q := (5, [zp a0, zj x1], [zj x1])) rfl rfl rfl ?_
    show Zr sc 60 5 [zp a0, zj x1] [zj x1] w ov w' c s
    refine Zr_st (q := (6, [zp a0, zj x1], [zp a0, zj x1])) rfl rfl rfl ?_
    show Zr sc 60 6 [zp a0, zj x1] [zp a0, zj x1] w ov w' c s
    obtain ⟨f0_3, f1_4, f2_5, f3_6, hw_2, h⟩ := h
    refine rl_gf rfl hw_2 rfl rfl ?_
    show Zr sc 60 9 [zp a0, zj x1] [zj f3_6, zj x1] w ov w' c s
    obtain ⟨hr_7, h⟩ := h
    refine Zr_br (p := f3_6 ≤ x1) rfl rfl (zcmp_j (cnd := .ge) hr_7.1 hr_7.2) (fun hp => ?_) (fun hp => ?_)
    · replace h := h.1 hp
      show Zr sc 60 16 [zp a0, zj x1] [] w ov w' c s
      refine rl_ic rfl ?_
      show Zr sc 60 17 [zp a0, zj x1] [zj 0] w ov w' c s
      obtain ⟨h1, h2, h3, h4⟩ := h
      subst h1; subst h2; subst h3; subst h4
      exact Zr_ret (ins := .ireturn) rfl rfl
    · replace h := h.2 hp
      show Zr sc 60 12 [zp a0, zj x1] [] w ov w' c s
      refine rl_ic rfl ?_
      show Zr sc 60 13 [zp a0, zj x1] [zj 1] w ov w' c s
      refine Zr_st (q := (17, [zp a0, zj x1], [zj 1])) rfl rfl rfl ?_
      show Zr sc 60 17 [zp a0, zj x1] [zj 1] w ov w' c s
      obtain ⟨h1, h2, h3, h4⟩ := h
      subst h1; subst h2; subst h3; subst h4
      exact Zr_ret (ins := .ireturn) rfl rfl

-- HeapwrightLab$Trace.sizeOf(I)I
set_option maxRecDepth 100000 in
theorem V61_0 {sc : List Value} {w w' : List zE} {ov : Option Value} {c s : Nat} {a0 : Nat} {x1 : Int} (h : (∃ f0_2 : Nat, ∃ f1_3 : Nat, ∃ f2_4 : Nat, ∃ f3_5 : Int, w[a0]? = some (zob 5 [zp f0_2, zp f1_3, zp f2_4, zj f3_5]) ∧ (∃ r_8 : Int, ∃ w_6 : List zE, Zc sc 60 [zp a0, zj x1] w (some (zj r_8)) w_6 0 0 ∧ ((zrg r_8) ∧ ((r_8 = 0 → (ov = some (zj (-1)) ∧ w' = w_6 ∧ c = 0 ∧ s = 0)) ∧ (¬ (r_8 = 0) → (∃ f0_11 : Nat, ∃ f1_12 : Nat, ∃ f2_13 : Nat, ∃ f3_14 : Int, w_6[a0]? = some (zob 5 [zp f0_11, zp f1_12, zp f2_13, zj f3_14]) ∧ (∃ l_17 : List Int, w_6[f2_13]? = some (za l_17) ∧ ((0 ≤ x1 ∧ x1 < (l_17.length : Int) ∧ x1 ≤ 2147483647) ∧ (ov = some (zj (zgi l_17 x1)) ∧ w' = w_6 ∧ c = 0 ∧ s = 0)))))))))) : Zr sc 61 0 [zp a0, zj x1] [] w ov w' c s := by
  refine Zr_st (q := (1, [zp a0, zj x1], [zp a0])) rfl rfl rfl ?_
  show Zr sc 61 1 [zp a0, zj x1] [zp a0] w ov w' c s
  refine Zr_st (q := (2, [zp a0, zj x1], [zj x1, zp a0])) rfl rfl rfl ?_
  show Zr sc 61 2 [zp a0, zj x1] [zj x1, zp a0] w ov w' c s
  obtain ⟨f0_2, f1_3, f2_4, f3_5, hw_1, h⟩ := h
  obtain ⟨r_8, w_6, hk_7, h⟩ := h
  refine rn_cal0 (ins := .invokevirtual 25) (rest := []) rfl rfl rfl rfl (zinv_v (fs := _) hw_1 rfl rfl rfl rfl) rfl rfl hk_7 ?_
  show Zr sc 61 5 [zp a0, zj x1] [zj r_8] w_6 ov w' c s
  obtain ⟨hr_9, h⟩ := h
  refine Zr_b0 (p := r_8 = 0) rfl rfl (zcmp_0 (cnd := .eq) hr_9) (fun hp => ?_) (fun hp => ?_)
  · replace h := h.1 hp
    show Zr sc 61 17 [zp a0, zj x1] [] w_6 ov w' c s
    refine rl_ic rfl ?_
    show Zr sc 61 18 [zp a0, zj x1] [zj (-1)] w_6 ov w' c s
    obtain ⟨h1, h2, h3, h4⟩ := h
    subst h1; subst h2; subst h3; subst h4
    exact Zr_ret (ins := .ireturn) rfl rfl
  · replace h := h.2 hp
    show Zr sc 61 8 [zp a0, zj x1] [] w_6 ov w' c s
    refine Zr_st (q := (9, [zp a0, zj x1], [zp a0])) rfl rfl rfl ?_
    show Zr sc 61 9 [zp a0, zj x1] [zp a0] w_6 ov w' c s
    obtain ⟨f0_11, f1_12, f2_13, f3_14, hw_10, h⟩ := h
    refine rl_gf rfl hw_10 rfl rfl ?_
    show Zr sc 61 12 [zp a0, zj x1] [zp f2_13] w_6 ov w' c s
    refine Zr_st (q := (13, [zp a0, zj x1], [zj x1, zp f2_13])) rfl rfl rfl ?_
    show Zr sc 61 13 [zp a0, zj x1] [zj x1, zp f2_13] w_6 ov w' c s
    obtain ⟨l_17, hw_16, h⟩ := h
    obtain ⟨hi_15, h⟩ := h
    refine rl_ia rfl hw_16 hi_15.1 hi_15.2.1 hi_15.2.2 ?_
    show Zr sc 61 14 [zp a0, zj x1] [zj (zgi l_17 x1)] w_6 ov w' c s
    refine Zr_st (q := (18, [zp a0, zj x1], [zj (zgi l_17 x1)])) rfl rfl rfl ?_
    show Zr sc 61 18 [zp a0, zj x1] [zj (zgi l_17 x1)] w_6 ov w' c s
    obtain ⟨h1, h2, h3, h4⟩ := h
    subst h1; subst h2; subst h3; subst h4
    exact Zr_ret (ins := .ireturn) rfl rfl

-- HeapwrightLab$Memory.welcome(I)V
set_option maxRecDepth 100000 in
theorem V62_0_1 {sc : List Value} {w w' : List zE} {ov : Option Value} {c s : Nat} {a0 : Nat} {x1 : Int} (h : (∃ f0_2 : Nat, ∃ f1_3 : Nat, ∃ f2_4 : Int, ∃ f3_5 : Int, ∃ f4_6 : Int, ∃ f5_7 : Int, ∃ f6_8 : Int, ∃ f7_9 : Nat, ∃ f8_10 : Nat, ∃ f9_11 : Int, ∃ f10_12 : Int, ∃ f11_13 : Int, ∃ f12_14 : Int, w[a0]? = some (zob 1 [zp f0_2, zp f1_3, zj f2_4, zj f3_5, zj f4_6, zj f5_7, zj f6_8, zp f7_9, zp f8_10, zj f9_11, zj f10_12, zj f11_13, zj f12_14]) ∧ ((zrg f9_11 ∧ zrg 80) ∧ ((f9_11 < 80 → (∃ l_18 : List Int, w[f8_10]? = some (za l_18) ∧ ((0 ≤ f9_11 ∧ f9_11 < (l_18.length : Int) ∧ f9_11 ≤ 2147483647) ∧ ((f8_10 ≠ a0) ∧ (∃ r_22 : Int, ∃ w_20 : List zE, Zc sc 39 [zp a0, zj x1] ((w.set f8_10 (za (zsi l_18 f9_11 f10_12))).set a0 (zob 1 [zp f0_2, zp f1_3, zj f2_4, zj f3_5, zj f4_6, zj f5_7, zj f6_8, zp f7_9, zp f8_10, zj (f9_11 + 1), zj f10_12, zj f11_13, zj f12_14])) (some (zj r_22)) w_20 0 0 ∧ (∃ f0_24 : Nat, ∃ f1_25 : Nat, ∃ f2_26 : Int, ∃ f3_27 : Int, ∃ f4_28 : Int, ∃ f5_29 : Int, ∃ f6_30 : Int, ∃ f7_31 : Nat, ∃ f8_32 : Nat, ∃ f9_33 : Int, ∃ f10_34 : Int, ∃ f11_35 : Int, ∃ f12_36 : Int, w_20[a0]? = some (zob 1 [zp f0_24, zp f1_25, zj f2_26, zj f3_27, zj f4_28, zj f5_29, zj f6_30, zp f7_31, zp f8_32, zj f9_33, zj f10_34, zj f11_35, zj f12_36]) ∧ (∃ r_39 : Int, ∃ w_37 : List zE, Zc sc 63 [zp a0, zj f9_11, zj x1, zj r_22] w_20 (some (zj r_39)) w_37 0 0 ∧ (ov = none ∧ w' = w_37 ∧ c = 0 ∧ s = 0)))))))) ∧ (¬ (f9_11 < 80) → (ov = none ∧ w' = w ∧ c = 0 ∧ s = 0)))))) : Zr sc 62 0 [zp a0, zj x1, zmk] [] w ov w' c s := by
  refine Zr_st (q := (1, [zp a0, zj x1, zmk], [zp a0])) rfl rfl rfl ?_
  show Zr sc 62 1 [zp a0, zj x1, zmk] [zp a0] w ov w' c s
  obtain ⟨f0_2, f1_3, f2_4, f3_5, f4_6, f5_7, f6_8, f7_9, f8_10, f9_11, f10_12, f11_13, f12_14, hw_1, h⟩ := h
  refine rl_gf rfl hw_1 rfl rfl ?_
  show Zr sc 62 4 [zp a0, zj x1, zmk] [zj f9_11] w ov w' c s
  refine rl_bi rfl (by decide) ?_
  show Zr sc 62 6 [zp a0, zj x1, zmk] [zj 80, zj f9_11] w ov w' c s
  obtain ⟨hr_15, h⟩ := h
  refine Zr_br (p := f9_11 < 80) rfl rfl (zcmp_j (cnd := .lt) hr_15.1 hr_15.2) (fun hp => ?_) (fun hp => ?_)
  · replace h := h.1 hp
    show Zr sc 62 10 [zp a0, zj x1, zmk] [] w ov w' c s
    refine Zr_st (q := (11, [zp a0, zj x1, zmk], [zp a0])) rfl rfl rfl ?_
    show Zr sc 62 11 [zp a0, zj x1, zmk] [zp a0] w ov w' c s
    refine rl_gf rfl hw_1 rfl rfl ?_
    show Zr sc 62 14 [zp a0, zj x1, zmk] [zj f9_11] w ov w' c s
    refine Zr_st (q := (15, [zp a0, zj x1, zj f9_11], [])) rfl rfl rfl ?_
    show Zr sc 62 15 [zp a0, zj x1, zj f9_11] [] w ov w' c s
    refine Zr_st (q := (16, [zp a0, zj x1, zj f9_11], [zp a0])) rfl rfl rfl ?_
    show Zr sc 62 16 [zp a0, zj x1, zj f9_11] [zp a0] w ov w' c s
    refine rl_gf rfl hw_1 rfl rfl ?_
    show Zr sc 62 19 [zp a0, zj x1, zj f9_11] [zp f8_10] w ov w' c s
    refine Zr_st (q := (20, [zp a0, zj x1, zj f9_11], [zj f9_11, zp f8_10])) rfl rfl rfl ?_
    show Zr sc 62 20 [zp a0, zj x1, zj f9_11] [zj f9_11, zp f8_10] w ov w' c s
    refine Zr_st (q := (21, [zp a0, zj x1, zj f9_11], [zp a0, zj f9_11, zp f8_10])) rfl rfl rfl ?_
    show Zr sc 62 21 [zp a0, zj x1, zj f9_11] [zp a0, zj f9_11, zp f8_10] w ov w' c s
    refine rl_gf rfl hw_1 rfl rfl ?_
    show Zr sc 62 24 [zp a0, zj x1, zj f9_11] [zj f10_12, zj f9_11, zp f8_10] w ov w' c s
    obtain ⟨l_18, hw_17, h⟩ := h
    obtain ⟨hi_16, h⟩ := h
    refine rl_is rfl hw_17 hi_16.1 hi_16.2.1 hi_16.2.2 ?_
    show Zr sc 62 25 [zp a0, zj x1, zj f9_11] [] (w.set f8_10 (za (zsi l_18 f9_11 f10_12))) ov w' c s
    refine Zr_st (q := (26, [zp a0, zj x1, zj f9_11], [zp a0])) rfl rfl rfl ?_
    show Zr sc 62 26 [zp a0, zj x1, zj f9_11] [zp a0] (w.set f8_10 (za (zsi l_18 f9_11 f10_12))) ov w' c s
    refine Zr_st (q := (27, [zp a0, zj x1, zj f9_11], [zp a0, zp a0])) rfl rfl rfl ?_
    show Zr sc 62 27 [zp a0, zj x1, zj f9_11] [zp a0, zp a0] (w.set f8_10 (za (zsi l_18 f9_11 f10_12))) ov w' c s
    obtain ⟨hn_19, h⟩ := h
    refine rl_gf rfl (zw_o hn_19 hw_1) rfl rfl ?_
    show Zr sc 62 30 [zp a0, zj x1, zj f9_11] [zj f9_11, zp a0] (w.set f8_10 (za (zsi l_18 f9_11 f10_12))) ov w' c s
    refine rl_ic rfl ?_
    show Zr sc 62 31 [zp a0, zj x1, zj f9_11] [zj 1, zj f9_11, zp a0] (w.set f8_10 (za (zsi l_18 f9_11 f10_12))) ov w' c s
    refine rl_add rfl ?_
    show Zr sc 62 32 [zp a0, zj x1, zj f9_11] [zj (f9_11 + 1), zp a0] (w.set f8_10 (za (zsi l_18 f9_11 f10_12))) ov w' c s
    refine rl_pf rfl (zw_o hn_19 hw_1) rfl rfl rfl ?_
    show Zr sc 62 35 [zp a0, zj x1, zj f9_11] [] ((w.set f8_10 (za (zsi l_18 f9_11 f10_12))).set a0 (zob 1 [zp f0_2, zp f1_3, zj f2_4, zj f3_5, zj f4_6, zj f5_7, zj f6_8, zp f7_9, zp f8_10, zj (f9_11 + 1), zj f10_12, zj f11_13, zj f12_14])) ov w' c s
    refine Zr_st (q := (36, [zp a0, zj x1, zj f9_11], [zp a0])) rfl rfl rfl ?_
    show Zr sc 62 36 [zp a0, zj x1, zj f9_11] [zp a0] ((w.set f8_10 (za (zsi l_18 f9_11 f10_12))).set a0 (zob 1 [zp f0_2, zp f1_3, zj f2_4, zj f3_5, zj f4_6, zj f5_7, zj f6_8, zp f7_9, zp f8_10, zj (f9_11 + 1), zj f10_12, zj f11_13, zj f12_14])) ov w' c s
    refine Zr_st (q := (37, [zp a0, zj x1, zj f9_11], [zj f9_11, zp a0])) rfl rfl rfl ?_
    show Zr sc 62 37 [zp a0, zj x1, zj f9_11] [zj f9_11, zp a0] ((w.set f8_10 (za (zsi l_18 f9_11 f10_12))).set a0 (zob 1 [zp f0_2, zp f1_3, zj f2_4, zj f3_5, zj f4_6, zj f5_7, zj f6_8, zp f7_9, zp f8_10, zj (f9_11 + 1), zj f10_12, zj f11_13, zj f12_14])) ov w' c s
    refine Zr_st (q := (38, [zp a0, zj x1, zj f9_11], [zj x1, zj f9_11, zp a0])) rfl rfl rfl ?_
    show Zr sc 62 38 [zp a0, zj x1, zj f9_11] [zj x1, zj f9_11, zp a0] ((w.set f8_10 (za (zsi l_18 f9_11 f10_12))).set a0 (zob 1 [zp f0_2, zp f1_3, zj f2_4, zj f3_5, zj f4_6, zj f5_7, zj f6_8, zp f7_9, zp f8_10, zj (f9_11 + 1), zj f10_12, zj f11_13, zj f12_14])) ov w' c s
    refine Zr_st (q := (39, [zp a0, zj x1, zj f9_11], [zp a0, zj x1, zj f9_11, zp a0])) rfl rfl rfl ?_
    show Zr sc 62 39 [zp a0, zj x1, zj f9_11] [zp a0, zj x1, zj f9_11, zp a0] ((w.set f8_10 (za (zsi l_18 f9_11 f10_12))).set a0 (zob 1 [zp f0_2, zp f1_3, zj f2_4, zj f3_5, zj f4_6, zj f5_7, zj f6_8, zp f7_9, zp f8_10, zj (f9_11 + 1), zj f10_12, zj f11_13, zj f12_14])) ov w' c s
    refine Zr_st (q := (40, [zp a0, zj x1, zj f9_11], [zj x1, zp a0, zj x1, zj f9_11, zp a0])) rfl rfl rfl ?_
    show Zr sc 62 40 [zp a0, zj x1, zj f9_11] [zj x1, zp a0, zj x1, zj f9_11, zp a0] ((w.set f8_10 (za (zsi l_18 f9_11 f10_12))).set a0 (zob 1 [zp f0_2, zp f1_3, zj f2_4, zj f3_5, zj f4_6, zj f5_7, zj f6_8, zp f7_9, zp f8_10, zj (f9_11 + 1), zj f10_12, zj f11_13, zj f12_14])) ov w' c s
    obtain ⟨r_22, w_20, hk_21, h⟩ := h
    refine rn_cal0 (ins := .invokevirtual 124) (rest := [zj x1, zj f9_11, zp a0]) rfl rfl rfl rfl (zinv_v (fs := _) (zw_s (zw_o hn_19 hw_1)) rfl rfl rfl rfl) rfl rfl hk_21 ?_
    show Zr sc 62 43 [zp a0, zj x1, zj f9_11] [zj r_22, zj x1, zj f9_11, zp a0] w_20 ov w' c s
    obtain ⟨f0_24, f1_25, f2_26, f3_27, f4_28, f5_29, f6_30, f7_31, f8_32, f9_33, f10_34, f11_35, f12_36, hw_23, h⟩ := h
    obtain ⟨r_39, w_37, hk_38, h⟩ := h
    refine rn_cal0 (ins := .invokevirtual 162) (rest := []) rfl rfl rfl rfl (zinv_v (fs := _) hw_23 rfl rfl rfl rfl) rfl rfl hk_38 ?_
    show Zr sc 62 46 [zp a0, zj x1, zj f9_11] [zj r_39] w_37 ov w' c s
    refine Zr_st (q := (47, [zp a0, zj x1, zj f9_11], [])) rfl rfl rfl ?_
    show Zr sc 62 47 [zp a0, zj x1, zj f9_11] [] w_37 ov w' c s
    obtain ⟨h1, h2, h3, h4⟩ := h
    subst h1; subst h2; subst h3; subst h4
    exact Zr_ret (ins := .return_) rfl rfl
  · replace h := h.2 hp
    show Zr sc 62 9 [zp a0, zj x1, zmk] [] w ov w' c s
    obtain ⟨h1, h2, h3, h4⟩ := h
    subst h1; subst h2; subst h3; subst h4
    exact Zr_ret (ins := .return_) rfl rfl

-- HeapwrightLab$Memory.welcome(I)V
set_option maxRecDepth 100000 in
theorem V62_0_2 {sc : List Value} {w w' : List zE} {ov : Option Value} {c s : Nat} {a0 : Nat} {x1 : Int} (h : (∃ f0_2 : Nat, ∃ f1_3 : Nat, ∃ f2_4 : Int, ∃ f3_5 : Int, ∃ f4_6 : Int, ∃ f5_7 : Int, ∃ f6_8 : Int, ∃ f7_9 : Nat, ∃ f8_10 : Nat, ∃ f9_11 : Int, ∃ f10_12 : Int, ∃ f11_13 : Int, ∃ f12_14 : Int, w[a0]? = some (zob 2 [zp f0_2, zp f1_3, zj f2_4, zj f3_5, zj f4_6, zj f5_7, zj f6_8, zp f7_9, zp f8_10, zj f9_11, zj f10_12, zj f11_13, zj f12_14]) ∧ ((zrg f9_11 ∧ zrg 80) ∧ ((f9_11 < 80 → (∃ l_18 : List Int, w[f8_10]? = some (za l_18) ∧ ((0 ≤ f9_11 ∧ f9_11 < (l_18.length : Int) ∧ f9_11 ≤ 2147483647) ∧ ((f8_10 ≠ a0) ∧ (∃ r_22 : Int, ∃ w_20 : List zE, Zc sc 40 [zp a0, zj x1] ((w.set f8_10 (za (zsi l_18 f9_11 f10_12))).set a0 (zob 2 [zp f0_2, zp f1_3, zj f2_4, zj f3_5, zj f4_6, zj f5_7, zj f6_8, zp f7_9, zp f8_10, zj (f9_11 + 1), zj f10_12, zj f11_13, zj f12_14])) (some (zj r_22)) w_20 0 0 ∧ (∃ f0_24 : Nat, ∃ f1_25 : Nat, ∃ f2_26 : Int, ∃ f3_27 : Int, ∃ f4_28 : Int, ∃ f5_29 : Int, ∃ f6_30 : Int, ∃ f7_31 : Nat, ∃ f8_32 : Nat, ∃ f9_33 : Int, ∃ f10_34 : Int, ∃ f11_35 : Int, ∃ f12_36 : Int, w_20[a0]? = some (zob 2 [zp f0_24, zp f1_25, zj f2_26, zj f3_27, zj f4_28, zj f5_29, zj f6_30, zp f7_31, zp f8_32, zj f9_33, zj f10_34, zj f11_35, zj f12_36]) ∧ (∃ r_39 : Int, ∃ w_37 : List zE, Zc sc 63 [zp a0, zj f9_11, zj x1, zj r_22] w_20 (some (zj r_39)) w_37 0 0 ∧ (ov = none ∧ w' = w_37 ∧ c = 0 ∧ s = 0)))))))) ∧ (¬ (f9_11 < 80) → (ov = none ∧ w' = w ∧ c = 0 ∧ s = 0)))))) : Zr sc 62 0 [zp a0, zj x1, zmk] [] w ov w' c s := by
  refine Zr_st (q := (1, [zp a0, zj x1, zmk], [zp a0])) rfl rfl rfl ?_
  show Zr sc 62 1 [zp a0, zj x1, zmk] [zp a0] w ov w' c s
  obtain ⟨f0_2, f1_3, f2_4, f3_5, f4_6, f5_7, f6_8, f7_9, f8_10, f9_11, f10_12, f11_13, f12_14, hw_1, h⟩ := h
  refine rl_gf rfl hw_1 rfl rfl ?_
  show Zr sc 62 4 [zp a0, zj x1, zmk] [zj f9_11] w ov w' c s
  refine rl_bi rfl (by decide) ?_
  show Zr sc 62 6 [zp a0, zj x1, zmk] [zj 80, zj f9_11] w ov w' c s
  obtain ⟨hr_15, h⟩ := h
  refine Zr_br (p := f9_11 < 80) rfl rfl (zcmp_j (cnd := .lt) hr_15.1 hr_15.2) (fun hp => ?_) (fun hp => ?_)
  · replace h := h.1 hp
    show Zr sc 62 10 [zp a0, zj x1, zmk] [] w ov w' c s
    refine Zr_st (q := (11, [zp a0, zj x1, zmk], [zp a0])) rfl rfl rfl ?_
    show Zr sc 62 11 [zp a0, zj x1, zmk] [zp a0] w ov w' c s
    refine rl_gf rfl hw_1 rfl rfl ?_
    show Zr sc 62 14 [zp a0, zj x1, zmk] [zj f9_11] w ov w' c s
    refine Zr_st (q := (15, [zp a0, zj x1, zj f9_11], [])) rfl rfl rfl ?_
    show Zr sc 62 15 [zp a0, zj x1, zj f9_11] [] w ov w' c s
    refine Zr_st (q := (16, [zp a0, zj x1, zj f9_11], [zp a0])) rfl rfl rfl ?_
    show Zr sc 62 16 [zp a0, zj x1, zj f9_11] [zp a0] w ov w' c s
    refine rl_gf rfl hw_1 rfl rfl ?_
    show Zr sc 62 19 [zp a0, zj x1, zj f9_11] [zp f8_10] w ov w' c s
    refine Zr_st (q := (20, [zp a0, zj x1, zj f9_11], [zj f9_11, zp f8_10])) rfl rfl rfl ?_
    show Zr sc 62 20 [zp a0, zj x1, zj f9_11] [zj f9_11, zp f8_10] w ov w' c s
    refine Zr_st (q := (21, [zp a0, zj x1, zj f9_11], [zp a0, zj f9_11, zp f8_10])) rfl rfl rfl ?_
    show Zr sc 62 21 [zp a0, zj x1, zj f9_11] [zp a0, zj f9_11, zp f8_10] w ov w' c s
    refine rl_gf rfl hw_1 rfl rfl ?_
    show Zr sc 62 24 [zp a0, zj x1, zj f9_11] [zj f10_12, zj f9_11, zp f8_10] w ov w' c s
    obtain ⟨l_18, hw_17, h⟩ := h
    obtain ⟨hi_16, h⟩ := h
    refine rl_is rfl hw_17 hi_16.1 hi_16.2.1 hi_16.2.2 ?_
    show Zr sc 62 25 [zp a0, zj x1, zj f9_11] [] (w.set f8_10 (za (zsi l_18 f9_11 f10_12))) ov w' c s
    refine Zr_st (q := (26, [zp a0, zj x1, zj f9_11], [zp a0])) rfl rfl rfl ?_
    show Zr sc 62 26 [zp a0, zj x1, zj f9_11] [zp a0] (w.set f8_10 (za (zsi l_18 f9_11 f10_12))) ov w' c s
    refine Zr_st (q := (27, [zp a0, zj x1, zj f9_11], [zp a0, zp a0])) rfl rfl rfl ?_
    show Zr sc 62 27 [zp a0, zj x1, zj f9_11] [zp a0, zp a0] (w.set f8_10 (za (zsi l_18 f9_11 f10_12))) ov w' c s
    obtain ⟨hn_19, h⟩ := h
    refine rl_gf rfl (zw_o hn_19 hw_1) rfl rfl ?_
    show Zr sc 62 30 [zp a0, zj x1, zj f9_11] [zj f9_11, zp a0] (w.set f8_10 (za (zsi l_18 f9_11 f10_12))) ov w' c s
    refine rl_ic rfl ?_
    show Zr sc 62 31 [zp a0, zj x1, zj f9_11] [zj 1, zj f9_11, zp a0] (w.set f8_10 (za (zsi l_18 f9_11 f10_12))) ov w' c s
    refine rl_add rfl ?_
    show Zr sc 62 32 [zp a0, zj x1, zj f9_11] [zj (f9_11 + 1), zp a0] (w.set f8_10 (za (zsi l_18 f9_11 f10_12))) ov w' c s
    refine rl_pf rfl (zw_o hn_19 hw_1) rfl rfl rfl ?_
    show Zr sc 62 35 [zp a0, zj x1, zj f9_11] [] ((w.set f8_10 (za (zsi l_18 f9_11 f10_12))).set a0 (zob 2 [zp f0_2, zp f1_3, zj f2_4, zj f3_5, zj f4_6, zj f5_7, zj f6_8, zp f7_9, zp f8_10, zj (f9_11 + 1), zj f10_12, zj f11_13, zj f12_14])) ov w' c s
    refine Zr_st (q := (36, [zp a0, zj x1, zj f9_11], [zp a0])) rfl rfl rfl ?_
    show Zr sc 62 36 [zp a0, zj x1, zj f9_11] [zp a0] ((w.set f8_10 (za (zsi l_18 f9_11 f10_12))).set a0 (zob 2 [zp f0_2, zp f1_3, zj f2_4, zj f3_5, zj f4_6, zj f5_7, zj f6_8, zp f7_9, zp f8_10, zj (f9_11 + 1), zj f10_12, zj f11_13, zj f12_14])) ov w' c s
    refine Zr_st (q := (37, [zp a0, zj x1, zj f9_11], [zj f9_11, zp a0])) rfl rfl rfl ?_
    show Zr sc 62 37 [zp a0, zj x1, zj f9_11] [zj f9_11, zp a0] ((w.set f8_10 (za (zsi l_18 f9_11 f10_12))).set a0 (zob 2 [zp f0_2, zp f1_3, zj f2_4, zj f3_5, zj f4_6, zj f5_7, zj f6_8, zp f7_9, zp f8_10, zj (f9_11 + 1), zj f10_12, zj f11_13, zj f12_14])) ov w' c s
    refine Zr_st (q := (38, [zp a0, zj x1, zj f9_11], [zj x1, zj f9_11, zp a0])) rfl rfl rfl ?_
    show Zr sc 62 38 [zp a0, zj x1, zj f9_11] [zj x1, zj f9_11, zp a0] ((w.set f8_10 (za (zsi l_18 f9_11 f10_12))).set a0 (zob 2 [zp f0_2, zp f1_3, zj f2_4, zj f3_5, zj f4_6, zj f5_7, zj f6_8, zp f7_9, zp f8_10, zj (f9_11 + 1), zj f10_12, zj f11_13, zj f12_14])) ov w' c s
    refine Zr_st (q := (39, [zp a0, zj x1, zj f9_11], [zp a0, zj x1, zj f9_11, zp a0])) rfl rfl rfl ?_
    show Zr sc 62 39 [zp a0, zj x1, zj f9_11] [zp a0, zj x1, zj f9_11, zp a0] ((w.set f8_10 (za (zsi l_18 f9_11 f10_12))).set a0 (zob 2 [zp f0_2, zp f1_3, zj f2_4, zj f3_5, zj f4_6, zj f5_7, zj f6_8, zp f7_9, zp f8_10, zj (f9_11 + 1), zj f10_12, zj f11_13, zj f12_14])) ov w' c s
    refine Zr_st (q := (40, [zp a0, zj x1, zj f9_11], [zj x1, zp a0, zj x1, zj f9_11, zp a0])) rfl rfl rfl ?_
    show Zr sc 62 40 [zp a0, zj x1, zj f9_11] [zj x1, zp a0, zj x1, zj f9_11, zp a0] ((w.set f8_10 (za (zsi l_18 f9_11 f10_12))).set a0 (zob 2 [zp f0_2, zp f1_3, zj f2_4, zj f3_5, zj f4_6, zj f5_7, zj f6_8, zp f7_9, zp f8_10, zj (f9_11 + 1), zj f10_12, zj f11_13, zj f12_14])) ov w' c s
    obtain ⟨r_22, w_20, hk_21, h⟩ := h
    refine rn_cal0 (ins := .invokevirtual 124) (rest := [zj x1, zj f9_11, zp a0]) rfl rfl rfl rfl (zinv_v (fs := _) (zw_s (zw_o hn_19 hw_1)) rfl rfl rfl rfl) rfl rfl hk_21 ?_
    show Zr sc 62 43 [zp a0, zj x1, zj f9_11] [zj r_22, zj x1, zj f9_11, zp a0] w_20 ov w' c s
    obtain ⟨f0_24, f1_25, f2_26, f3_27, f4_28, f5_29, f6_30, f7_31, f8_32, f9_33, f10_34, f11_35, f12_36, hw_23, h⟩ := h
    obtain ⟨r_39, w_37, hk_38, h⟩ := h
    refine rn_cal0 (ins := .invokevirtual 162) (rest := []) rfl rfl rfl rfl (zinv_v (fs := _) hw_23 rfl rfl rfl rfl) rfl rfl hk_38 ?_
    show Zr sc 62 46 [zp a0, zj x1, zj f9_11] [zj r_39] w_37 ov w' c s
    refine Zr_st (q := (47, [zp a0, zj x1, zj f9_11], [])) rfl rfl rfl ?_
    show Zr sc 62 47 [zp a0, zj x1, zj f9_11] [] w_37 ov w' c s
    obtain ⟨h1, h2, h3, h4⟩ := h
    subst h1; subst h2; subst h3; subst h4
    exact Zr_ret (ins := .return_) rfl rfl
  · replace h := h.2 hp
    show Zr sc 62 9 [zp a0, zj x1, zmk] [] w ov w' c s
    obtain ⟨h1, h2, h3, h4⟩ := h
    subst h1; subst h2; subst h3; subst h4
    exact Zr_ret (ins := .return_) rfl rfl

-- HeapwrightLab$Memory.welcome(I)V
set_option maxRecDepth 100000 in
theorem V62_0_4 {sc : List Value} {w w' : List zE} {ov : Option Value} {c s : Nat} {a0 : Nat} {x1 : Int} (h : (∃ f0_2 : Nat, ∃ f1_3 : Nat, ∃ f2_4 : Int, ∃ f3_5 : Int, ∃ f4_6 : Int, ∃ f5_7 : Int, ∃ f6_8 : Int, ∃ f7_9 : Nat, ∃ f8_10 : Nat, ∃ f9_11 : Int, ∃ f10_12 : Int, ∃ f11_13 : Int, ∃ f12_14 : Int, ∃ f13_15 : Nat, w[a0]? = some (zob 4 [zp f0_2, zp f1_3, zj f2_4, zj f3_5, zj f4_6, zj f5_7, zj f6_8, zp f7_9, zp f8_10, zj f9_11, zj f10_12, zj f11_13, zj f12_14, zp f13_15]) ∧ ((zrg f9_11 ∧ zrg 80) ∧ ((f9_11 < 80 → (∃ l_19 : List Int, w[f8_10]? = some (za l_19) ∧ ((0 ≤ f9_11 ∧ f9_11 < (l_19.length : Int) ∧ f9_11 ≤ 2147483647) ∧ ((f8_10 ≠ a0) ∧ (∃ r_23 : Int, ∃ w_21 : List zE, Zc sc 42 [zp a0, zj x1] ((w.set f8_10 (za (zsi l_19 f9_11 f10_12))).set a0 (zob 4 [zp f0_2, zp f1_3, zj f2_4, zj f3_5, zj f4_6, zj f5_7, zj f6_8, zp f7_9, zp f8_10, zj (f9_11 + 1), zj f10_12, zj f11_13, zj f12_14, zp f13_15])) (some (zj r_23)) w_21 0 0 ∧ (∃ f0_25 : Nat, ∃ f1_26 : Nat, ∃ f2_27 : Int, ∃ f3_28 : Int, ∃ f4_29 : Int, ∃ f5_30 : Int, ∃ f6_31 : Int, ∃ f7_32 : Nat, ∃ f8_33 : Nat, ∃ f9_34 : Int, ∃ f10_35 : Int, ∃ f11_36 : Int, ∃ f12_37 : Int, ∃ f13_38 : Nat, w_21[a0]? = some (zob 4 [zp f0_25, zp f1_26, zj f2_27, zj f3_28, zj f4_29, zj f5_30, zj f6_31, zp f7_32, zp f8_33, zj f9_34, zj f10_35, zj f11_36, zj f12_37, zp f13_38]) ∧ (∃ r_41 : Int, ∃ w_39 : List zE, Zc sc 63 [zp a0, zj f9_11, zj x1, zj r_23] w_21 (some (zj r_41)) w_39 0 0 ∧ (ov = none ∧ w' = w_39 ∧ c = 0 ∧ s = 0)))))))) ∧ (¬ (f9_11 < 80) → (ov = none ∧ w' = w ∧ c = 0 ∧ s = 0)))))) : Zr sc 62 0 [zp a0, zj x1, zmk] [] w ov w' c s := by
  refine Zr_st (q := (1, [zp a0, zj x1, zmk], [zp a0])) rfl rfl rfl ?_
  show Zr sc 62 1 [zp a0, zj x1, zmk] [zp a0] w ov w' c s
  obtain ⟨f0_2, f1_3, f2_4, f3_5, f4_6, f5_7, f6_8, f7_9, f8_10, f9_11, f10_12, f11_13, f12_14, f13_15, hw_1, h⟩ := h
  refine rl_gf rfl hw_1 rfl rfl ?_
  show Zr sc 62 4 [zp a0, zj x1, zmk] [zj f9_11] w ov w' c s
  refine rl_bi rfl (by decide) ?_
  show Zr sc 62 6 [zp a0, zj x1, zmk] [zj 80, zj f9_11] w ov w' c s
  obtain ⟨hr_16, h⟩ := h
  refine Zr_br (p := f9_11 < 80) rfl rfl (zcmp_j (cnd := .lt) hr_16.1 hr_16.2) (fun hp => ?_) (fun hp => ?_)
  · replace h := h.1 hp
    show Zr sc 62 10 [zp a0, zj x1, zmk] [] w ov w' c s
    refine Zr_st (q := (11, [zp a0, zj x1, zmk], [zp a0])) rfl rfl rfl ?_
    show Zr sc 62 11 [zp a0, zj x1, zmk] [zp a0] w ov w' c s
    refine rl_gf rfl hw_1 rfl rfl ?_
    show Zr sc 62 14 [zp a0, zj x1, zmk] [zj f9_11] w ov w' c s
    refine Zr_st (q := (15, [zp a0, zj x1, zj f9_11], [])) rfl rfl rfl ?_
    show Zr sc 62 15 [zp a0, zj x1, zj f9_11] [] w ov w' c s
    refine Zr_st (q := (16, [zp a0, zj x1, zj f9_11], [zp a0])) rfl rfl rfl ?_
    show Zr sc 62 16 [zp a0, zj x1, zj f9_11] [zp a0] w ov w' c s
    refine rl_gf rfl hw_1 rfl rfl ?_
    show Zr sc 62 19 [zp a0, zj x1, zj f9_11] [zp f8_10] w ov w' c s
    refine Zr_st (q := (20, [zp a0, zj x1, zj f9_11], [zj f9_11, zp f8_10])) rfl rfl rfl ?_
    show Zr sc 62 20 [zp a0, zj x1, zj f9_11] [zj f9_11, zp f8_10] w ov w' c s
    refine Zr_st (q := (21, [zp a0, zj x1, zj f9_11], [zp a0, zj f9_11, zp f8_10])) rfl rfl rfl ?_
    show Zr sc 62 21 [zp a0, zj x1, zj f9_11] [zp a0, zj f9_11, zp f8_10] w ov w' c s
    refine rl_gf rfl hw_1 rfl rfl ?_
    show Zr sc 62 24 [zp a0, zj x1, zj f9_11] [zj f10_12, zj f9_11, zp f8_10] w ov w' c s
    obtain ⟨l_19, hw_18, h⟩ := h
    obtain ⟨hi_17, h⟩ := h
    refine rl_is rfl hw_18 hi_17.1 hi_17.2.1 hi_17.2.2 ?_
    show Zr sc 62 25 [zp a0, zj x1, zj f9_11] [] (w.set f8_10 (za (zsi l_19 f9_11 f10_12))) ov w' c s
    refine Zr_st (q := (26, [zp a0, zj x1, zj f9_11], [zp a0])) rfl rfl rfl ?_
    show Zr sc 62 26 [zp a0, zj x1, zj f9_11] [zp a0] (w.set f8_10 (za (zsi l_19 f9_11 f10_12))) ov w' c s
    refine Zr_st (q := (27, [zp a0, zj x1, zj f9_11], [zp a0, zp a0])) rfl rfl rfl ?_
    show Zr sc 62 27 [zp a0, zj x1, zj f9_11] [zp a0, zp a0] (w.set f8_10 (za (zsi l_19 f9_11 f10_12))) ov w' c s
    obtain ⟨hn_20, h⟩ := h
    refine rl_gf rfl (zw_o hn_20 hw_1) rfl rfl ?_
    show Zr sc 62 30 [zp a0, zj x1, zj f9_11] [zj f9_11, zp a0] (w.set f8_10 (za (zsi l_19 f9_11 f10_12))) ov w' c s
    refine rl_ic rfl ?_
    show Zr sc 62 31 [zp a0, zj x1, zj f9_11] [zj 1, zj f9_11, zp a0] (w.set f8_10 (za (zsi l_19 f9_11 f10_12))) ov w' c s
    refine rl_add rfl ?_
    show Zr sc 62 32 [zp a0, zj x1, zj f9_11] [zj (f9_11 + 1), zp a0] (w.set f8_10 (za (zsi l_19 f9_11 f10_12))) ov w' c s
    refine rl_pf rfl (zw_o hn_20 hw_1) rfl rfl rfl ?_
    show Zr sc 62 35 [zp a0, zj x1, zj f9_11] [] ((w.set f8_10 (za (zsi l_19 f9_11 f10_12))).set a0 (zob 4 [zp f0_2, zp f1_3, zj f2_4, zj f3_5, zj f4_6, zj f5_7, zj f6_8, zp f7_9, zp f8_10, zj (f9_11 + 1), zj f10_12, zj f11_13, zj f12_14, zp f13_15])) ov w' c s
    refine Zr_st (q := (36, [zp a0, zj x1, zj f9_11], [zp a0])) rfl rfl rfl ?_
    show Zr sc 62 36 [zp a0, zj x1, zj f9_11] [zp a0] ((w.set f8_10 (za (zsi l_19 f9_11 f10_12))).set a0 (zob 4 [zp f0_2, zp f1_3, zj f2_4, zj f3_5, zj f4_6, zj f5_7, zj f6_8, zp f7_9, zp f8_10, zj (f9_11 + 1), zj f10_12, zj f11_13, zj f12_14, zp f13_15])) ov w' c s
    refine Zr_st (q := (37, [zp a0, zj x1, zj f9_11], [zj f9_11, zp a0])) rfl rfl rfl ?_
    show Zr sc 62 37 [zp a0, zj x1, zj f9_11] [zj f9_11, zp a0] ((w.set f8_10 (za (zsi l_19 f9_11 f10_12))).set a0 (zob 4 [zp f0_2, zp f1_3, zj f2_4, zj f3_5, zj f4_6, zj f5_7, zj f6_8, zp f7_9, zp f8_10, zj (f9_11 + 1), zj f10_12, zj f11_13, zj f12_14, zp f13_15])) ov w' c s
    refine Zr_st (q := (38, [zp a0, zj x1, zj f9_11], [zj x1, zj f9_11, zp a0])) rfl rfl rfl ?_
    show Zr sc 62 38 [zp a0, zj x1, zj f9_11] [zj x1, zj f9_11, zp a0] ((w.set f8_10 (za (zsi l_19 f9_11 f10_12))).set a0 (zob 4 [zp f0_2, zp f1_3, zj f2_4, zj f3_5, zj f4_6, zj f5_7, zj f6_8, zp f7_9, zp f8_10, zj (f9_11 + 1), zj f10_12, zj f11_13, zj f12_14, zp f13_15])) ov w' c s
    refine Zr_st (q := (39, [zp a0, zj x1, zj f9_11], [zp a0, zj x1, zj f9_11, zp a0])) rfl rfl rfl ?_
    show Zr sc 62 39 [zp a0, zj x1, zj f9_11] [zp a0, zj x1, zj f9_11, zp a0] ((w.set f8_10 (za (zsi l_19 f9_11 f10_12))).set a0 (zob 4 [zp f0_2, zp f1_3, zj f2_4, zj f3_5, zj f4_6, zj f5_7, zj f6_8, zp f7_9, zp f8_10, zj (f9_11 + 1), zj f10_12, zj f11_13, zj f12_14, zp f13_15])) ov w' c s
    refine Zr_st (q := (40, [zp a0, zj x1, zj f9_11], [zj x1, zp a0, zj x1, zj f9_11, zp a0])) rfl rfl rfl ?_
    show Zr sc 62 40 [zp a0, zj x1, zj f9_11] [zj x1, zp a0, zj x1, zj f9_11, zp a0] ((w.set f8_10 (za (zsi l_19 f9_11 f10_12))).set a0 (zob 4 [zp f0_2, zp f1_3, zj f2_4, zj f3_5, zj f4_6, zj f5_7, zj f6_8, zp f7_9, zp f8_10, zj (f9_11 + 1), zj f10_12, zj f11_13, zj f12_14, zp f13_15])) ov w' c s
    obtain ⟨r_23, w_21, hk_22, h⟩ := h
    refine rn_cal0 (ins := .invokevirtual 124) (rest := [zj x1, zj f9_11, zp a0]) rfl rfl rfl rfl (zinv_v (fs := _) (zw_s (zw_o hn_20 hw_1)) rfl rfl rfl rfl) rfl rfl hk_22 ?_
    show Zr sc 62 43 [zp a0, zj x1, zj f9_11] [zj r_23, zj x1, zj f9_11, zp a0] w_21 ov w' c s
    obtain ⟨f0_25, f1_26, f2_27, f3_28, f4_29, f5_30, f6_31, f7_32, f8_33, f9_34, f10_35, f11_36, f12_37, f13_38, hw_24, h⟩ := h
    obtain ⟨r_41, w_39, hk_40, h⟩ := h
    refine rn_cal0 (ins := .invokevirtual 162) (rest := []) rfl rfl rfl rfl (zinv_v (fs := _) hw_24 rfl rfl rfl rfl) rfl rfl hk_40 ?_
    show Zr sc 62 46 [zp a0, zj x1, zj f9_11] [zj r_41] w_39 ov w' c s
    refine Zr_st (q := (47, [zp a0, zj x1, zj f9_11], [])) rfl rfl rfl ?_
    show Zr sc 62 47 [zp a0, zj x1, zj f9_11] [] w_39 ov w' c s
    obtain ⟨h1, h2, h3, h4⟩ := h
    subst h1; subst h2; subst h3; subst h4
    exact Zr_ret (ins := .return_) rfl rfl
  · replace h := h.2 hp
    show Zr sc 62 9 [zp a0, zj x1, zmk] [] w ov w' c s
    obtain ⟨h1, h2, h3, h4⟩ := h
    subst h1; subst h2; subst h3; subst h4
    exact Zr_ret (ins := .return_) rfl rfl

-- HeapwrightLab$Memory.settle(III)Z
set_option maxRecDepth 100000 in
theorem V63_0_1 {sc : List Value} {w w' : List zE} {ov : Option Value} {c s : Nat} {a0 : Nat} {x1 : Int} {x2 : Int} {x3 : Int} (h : (∃ f0_2 : Nat, ∃ f1_3 : Nat, ∃ f2_4 : Int, ∃ f3_5 : Int, ∃ f4_6 : Int, ∃ f5_7 : Int, ∃ f6_8 : Int, ∃ f7_9 : Nat, ∃ f8_10 : Nat, ∃ f9_11 : Int, ∃ f10_12 : Int, ∃ f11_13 : Int, ∃ f12_14 : Int, w[a0]? = some (zob 1 [zp f0_2, zp f1_3, zj f2_4, zj f3_5, zj f4_6, zj f5_7, zj f6_8, zp f7_9, zp f8_10, zj f9_11, zj f10_12, zj f11_13, zj f12_14]) ∧ (∃ r_17 : Int, ∃ w_15 : List zE, Zc sc 43 [zp a0, zj x3] w (some (zj r_17)) w_15 0 0 ∧ (∃ f0_19 : Nat, ∃ f1_20 : Nat, ∃ f2_21 : Int, ∃ f3_22 : Int, ∃ f4_23 : Int, ∃ f5_24 : Int, ∃ f6_25 : Int, ∃ f7_26 : Nat, ∃ f8_27 : Nat, ∃ f9_28 : Int, ∃ f10_29 : Int, ∃ f11_30 : Int, ∃ f12_31 : Int, w_15[a0]? = some (zob 1 [zp f0_19, zp f1_20, zj f2_21, zj f3_22, zj f4_23, zj f5_24, zj f6_25, zp f7_26, zp f8_27, zj f9_28, zj f10_29, zj f11_30, zj f12_31]) ∧ (∃ w_32 : List zE, Zc sc 64 [zp a0, zj 0, zj f6_25] w_15 none w_32 0 0 ∧ ((zrg r_17) ∧ ((0 ≤ r_17 → (∃ f0_36 : Nat, ∃ f1_37 : Nat, ∃ f2_38 : Int, ∃ f3_39 : Int, ∃ f4_40 : Int, ∃ f5_41 : Int, ∃ f6_42 : Int, ∃ f7_43 : Nat, ∃ f8_44 : Nat, ∃ f9_45 : Int, ∃ f10_46 : Int, ∃ f11_47 : Int, ∃ f12_48 : Int, w_32[a0]? = some (zob 1 [zp f0_36, zp f1_37, zj f2_38, zj f3_39, zj f4_40, zj f5_41, zj f6_42, zp f7_43, zp f8_44, zj f9_45, zj f10_46, zj f11_47, zj f12_48]) ∧ (∃ f0_50 : Nat, ∃ f1_51 : Nat, ∃ f2_52 : Int, w_32[f1_37]? = some (zob 3 [zp f0_50, zp f1_51, zj f2_52]) ∧ (∃ r_55 : Int, ∃ w_53 : List zE, Zc sc 24 [zp f1_37, zj r_17] w_32 (some (zj r_55)) w_53 0 0 ∧ (∃ f0_57 : Nat, ∃ f1_58 : Nat, ∃ f2_59 : Int, ∃ f3_60 : Int, ∃ f4_61 : Int, ∃ f5_62 : Int, ∃ f6_63 : Int, ∃ f7_64 : Nat, ∃ f8_65 : Nat, ∃ f9_66 : Int, ∃ f10_67 : Int, ∃ f11_68 : Int, ∃ f12_69 : Int, w_53[a0]? = some (zob 1 [zp f0_57, zp f1_58, zj f2_59, zj f3_60, zj f4_61, zj f5_62, zj f6_63, zp f7_64, zp f8_65, zj f9_66, zj f10_67, zj f11_68, zj f12_69]) ∧ (∃ f0_71 : Nat, ∃ f1_72 : Nat, ∃ f2_73 : Int, w_53[f1_58]? = some (zob 3 [zp f0_71, zp f1_72, zj f2_73]) ∧ (∃ r_76 : Int, ∃ w_74 : List zE, Zc sc 26 [zp f1_58, zj r_17] w_53 (some (zj r_76)) w_74 0 0 ∧ (∃ f0_78 : Nat, ∃ f1_79 : Nat, ∃ f2_80 : Int, ∃ f3_81 : Int, ∃ f4_82 : Int, ∃ f5_83 : Int, ∃ f6_84 : Int, ∃ f7_85 : Nat, ∃ f8_86 : Nat, ∃ f9_87 : Int, ∃ f10_88 : Int, ∃ f11_89 : Int, ∃ f12_90 : Int, w_74[a0]? = some (zob 1 [zp f0_78, zp f1_79, zj f2_80, zj f3_81, zj f4_82, zj f5_83, zj f6_84, zp f7_85, zp f8_86, zj f9_87, zj f10_88, zj f11_89, zj f12_90]) ∧ (∃ r_93 : Int, ∃ w_91 : List zE, Zc sc 65 [zp a0, zj r_76, zj x3] w_74 (some (zj r_93)) w_91 0 0 ∧ (∃ f0_95 : Nat, ∃ f1_96 : Nat, ∃ f2_97 : Int, ∃ f3_98 : Int, ∃ f4_99 : Int, ∃ f5_100 : Int, ∃ f6_101 : Int, ∃ f7_102 : Nat, ∃ f8_103 : Nat, ∃ f9_104 : Int, ∃ f10_105 : Int, ∃ f11_106 : Int, ∃ f12_107 : Int, w_91[a0]? = some (zob 1 [zp f0_95, zp f1_96, zj f2_97, zj f3_98, zj f4_99, zj f5_100, zj f6_101, zp f7_102, zp f8_103, zj f9_104, zj f10_105, zj f11_106, zj f12_107]) ∧ (∃ w_108 : List zE, Zc sc 64 [zp a0, zj 1, zj r_93] w_91 none w_108 0 0 ∧ (∃ f0_111 : Nat, ∃ f1_112 : Nat, ∃ f2_113 : Int, ∃ f3_114 : Int, ∃ f4_115 : Int, ∃ f5_116 : Int, ∃ f6_117 : Int, ∃ f7_118 : Nat, ∃ f8_119 : Nat, ∃ f9_120 : Int, ∃ f10_121 : Int, ∃ f11_122 : Int, ∃ f12_123 : Int, w_108[a0]? = some (zob 1 [zp f0_111, zp f1_112, zj f2_113, zj f3_114, zj f4_115, zj f5_116, zj f6_117, zp f7_118, zp f8_119, zj f9_120, zj f10_121, zj f11_122, zj f12_123]) ∧ (∃ f0_125 : Nat, ∃ f1_126 : Nat, ∃ f2_127 : Nat, ∃ f3_128 : Nat, ∃ f4_129 : Int, ∃ f5_130 : Int, w_108[f0_111]? = some (zob 0 [zp f0_125, zp f1_126, zp f2_127, zp f3_128, zj f4_129, zj f5_130]) ∧ (∃ w_131 : List zE, Zc sc 68 [zp f0_111, zj x1, zj r_55, zj x2, zj x3] w_108 none w_131 0 0 ∧ (∃ f0_134 : Nat, ∃ f1_135 : Nat, ∃ f2_136 : Int, ∃ f3_137 : Int, ∃ f4_138 : Int, ∃ f5_139 : Int, ∃ f6_140 : Int, ∃ f7_141 : Nat, ∃ f8_142 : Nat, ∃ f9_143 : Int, ∃ f10_144 : Int, ∃ f11_145 : Int, ∃ f12_146 : Int, w_131[a0]? = some (zob 1 [zp f0_134, zp f1_135, zj f2_136, zj f3_137, zj f4_138, zj f5_139, zj f6_140, zp f7_141, zp f8_142, zj f9_143, zj f10_144, zj f11_145, zj f12_146]) ∧ (∃ w_147 : List zE, Zc sc 69 [zp a0] w_131 none w_147 0 0 ∧ (∃ f0_150 : Nat, ∃ f1_151 : Nat, ∃ f2_152 : Int, ∃ f3_153 : Int, ∃ f4_154 : Int, ∃ f5_155 : Int, ∃ f6_156 : Int, ∃ f7_157 : Nat, ∃ f8_158 : Nat, ∃ f9_159 : Int, ∃ f10_160 : Int, ∃ f11_161 : Int, ∃ f12_162 : Int, w_147[a0]? = some (zob 1 [zp f0_150, zp f1_151, zj f2_152, zj f3_153, zj f4_154, zj f5_155, zj f6_156, zp f7_157, zp f8_158, zj f9_159, zj f10_160, zj f11_161, zj f12_162]) ∧ ((zrg f2_152 ∧ zrg 1) ∧ ((f2_152 ≠ 1 → (ov = some (zj 1) ∧ w' = w_147 ∧ c = 0 ∧ s = 0)) ∧ (¬ (f2_152 ≠ 1) → (∃ w_164 : List zE, Zc sc 81 [zp a0, zj (r_55 + x3)] w_147 none w_164 0 0 ∧ (ov = some (zj 1) ∧ w' = w_164 ∧ c = 0 ∧ s = 0)))))))))))))))))))))) ∧ (¬ (0 ≤ r_17) → (∃ f0_167 : Nat, ∃ f1_168 : Nat, ∃ f2_169 : Int, ∃ f3_170 : Int, ∃ f4_171 : Int, ∃ f5_172 : Int, ∃ f6_173 : Int, ∃ f7_174 : Nat, ∃ f8_175 : Nat, ∃ f9_176 : Int, ∃ f10_177 : Int, ∃ f11_178 : Int, ∃ f12_179 : Int, w_32[a0]? = some (zob 1 [zp f0_167, zp f1_168, zj f2_169, zj f3_170, zj f4_171, zj f5_172, zj f6_173, zp f7_174, zp f8_175, zj f9_176, zj f10_177, zj f11_178, zj f12_179]) ∧ (∃ w_180 : List zE, Zc sc 64 [zp a0, zj 4, zj 1] w_32 none w_180 0 0 ∧ (ov = some (zj 0) ∧ w' = w_180 ∧ c = 0 ∧ s = 0))))))))))) : Zr sc 63 0 [zp a0, zj x1, zj x2, zj x3, zmk, zmk] [] w ov w' c s := by
  refine Zr_st (q := (1, [zp a0, zj x1, zj x2, zj x3, zmk, zmk], [zp a0])) rfl rfl rfl ?_
  show Zr sc 63 1 [zp a0, zj x1, zj x2, zj x3, zmk, zmk] [zp a0] w ov w' c s
  refine Zr_st (q := (2, [zp a0, zj x1, zj x2, zj x3, zmk, zmk], [zj x3, zp a0])) rfl rfl rfl ?_
  show Zr sc 63 2 [zp a0, zj x1, zj x2, zj x3, zmk, zmk] [zj x3, zp a0] w ov w' c s
  obtain ⟨f0_2, f1_3, f2_4, f3_5, f4_6, f5_7, f6_8, f7_9, f8_10, f9_11, f10_12, f11_13, f12_14, hw_1, h⟩ := h
  obtain ⟨r_17, w_15, hk_16, h⟩ := h
  refine rn_cal0 (ins := .invokevirtual 127) (rest := []) rfl rfl rfl rfl (zinv_v (fs := _) hw_1 rfl rfl rfl rfl) rfl rfl hk_16 ?_
  show Zr sc 63 5 [zp a0, zj x1, zj x2, zj x3, zmk, zmk] [zj r_17] w_15 ov w' c s
  refine Zr_st (q := (7, [zp a0, zj x1, zj x2, zj x3, zj r_17, zmk], [])) rfl rfl rfl ?_
  show Zr sc 63 7 [zp a0, zj x1, zj x2, zj x3, zj r_17, zmk] [] w_15 ov w' c s
  refine Zr_st (q := (8, [zp a0, zj x1, zj x2, zj x3, zj r_17, zmk], [zp a0])) rfl rfl rfl ?_
  show Zr sc 63 8 [zp a0, zj x1, zj x2, zj x3, zj r_17, zmk] [zp a0] w_15 ov w' c s
  refine rl_ic rfl ?_
  show Zr sc 63 9 [zp a0, zj x1, zj x2, zj x3, zj r_17, zmk] [zj 0, zp a0] w_15 ov w' c s
  refine Zr_st (q := (10, [zp a0, zj x1, zj x2, zj x3, zj r_17, zmk], [zp a0, zj 0, zp a0])) rfl rfl rfl ?_
  show Zr sc 63 10 [zp a0, zj x1, zj x2, zj x3, zj r_17, zmk] [zp a0, zj 0, zp a0] w_15 ov w' c s
  obtain ⟨f0_19, f1_20, f2_21, f3_22, f4_23, f5_24, f6_25, f7_26, f8_27, f9_28, f10_29, f11_30, f12_31, hw_18, h⟩ := h
  refine rl_gf rfl hw_18 rfl rfl ?_
  show Zr sc 63 13 [zp a0, zj x1, zj x2, zj x3, zj r_17, zmk] [zj f6_25, zj 0, zp a0] w_15 ov w' c s
  obtain ⟨w_32, hk_33, h⟩ := h
  refine rn_cal0 (ins := .invokevirtual 169) (rest := []) rfl rfl rfl rfl (zinv_v (fs := _) hw_18 rfl rfl rfl rfl) rfl rfl hk_33 ?_
  show Zr sc 63 16 [zp a0, zj x1, zj x2, zj x3, zj r_17, zmk] [] w_32 ov w' c s
  refine Zr_st (q := (18, [zp a0, zj x1, zj x2, zj x3, zj r_17, zmk], [zj r_17])) rfl rfl rfl ?_
  show Zr sc 63 18 [zp a0, zj x1, zj x2, zj x3, zj r_17, zmk] [zj r_17] w_32 ov w' c s
  obtain ⟨hr_34, h⟩ := h
  refine Zr_b0 (p := 0 ≤ r_17) rfl rfl (zcmp_0 (cnd := .ge) hr_34) (fun hp => ?_) (fun hp => ?_)
  · replace h := h.1 hp
    show Zr sc 63 29 [zp a0, zj x1, zj x2, zj x3, zj r_17, zmk] [] w_32 ov w' c s
    refine Zr_st (q := (30, [zp a0, zj x1, zj x2, zj x3, zj r_17, zmk], [zp a0])) rfl rfl rfl ?_
    show Zr sc 63 30 [zp a0, zj x1, zj x2, zj x3, zj r_17, zmk] [zp a0] w_32 ov w' c s
    obtain ⟨f0_36, f1_37, f2_38, f3_39, f4_40, f5_41, f6_42, f7_43, f8_44, f9_45, f10_46, f11_47, f12_48, hw_35, h⟩ := h
    refine rl_gf rfl hw_35 rfl rfl ?_
    show Zr sc 63 33 [zp a0, zj x1, zj x2, zj x3, zj r_17, zmk] [zp f1_37] w_32 ov w' c s
    refine Zr_st (q := (35, [zp a0, zj x1, zj x2, zj x3, zj r_17, zmk], [zj r_17, zp f1_37])) rfl rfl rfl ?_
    show Zr sc 63 35 [zp a0, zj x1, zj x2, zj x3, zj r_17, zmk] [zj r_17, zp f1_37] w_32 ov w' c s
    obtain ⟨f0_50, f1_51, f2_52, hw_49, h⟩ := h
    obtain ⟨r_55, w_53, hk_54, h⟩ := h
    refine rn_cal0 (ins := .invokevirtual 130) (rest := []) rfl rfl rfl rfl (zinv_v (fs := _) hw_49 rfl rfl rfl rfl) rfl rfl hk_54 ?_
    show Zr sc 63 38 [zp a0, zj x1, zj x2, zj x3, zj r_17, zmk] [zj r_55] w_53 ov w' c s
    refine Zr_st (q := (40, [zp a0, zj x1, zj x2, zj x3, zj r_17, zj r_55], [])) rfl rfl rfl ?_
    show Zr sc 63 40 [zp a0, zj x1, zj x2, zj x3, zj r_17, zj r_55] [] w_53 ov w' c s
    refine Zr_st (q := (41, [zp a0, zj x1, zj x2, zj x3, zj r_17, zj r_55], [zp a0])) rfl rfl rfl ?_
    show Zr sc 63 41 [zp a0, zj x1, zj x2, zj x3, zj r_17, zj r_55] [zp a0] w_53 ov w' c s
    refine rl_ic rfl ?_
    show Zr sc 63 42 [zp a0, zj x1, zj x2, zj x3, zj r_17, zj r_55] [zj 1, zp a0] w_53 ov w' c s
    refine Zr_st (q := (43, [zp a0, zj x1, zj x2, zj x3, zj r_17, zj r_55], [zp a0, zj 1, zp a0])) rfl rfl rfl ?_
    show Zr sc 63 43 [zp a0, zj x1, zj x2, zj x3, zj r_17, zj r_55] [zp a0, zj 1, zp a0] w_53 ov w' c s
    refine Zr_st (q := (44, [zp a0, zj x1, zj x2, zj x3, zj r_17, zj r_55], [zp a0, zp a0, zj 1, zp a0])) rfl rfl rfl ?_
    show Zr sc 63 44 [zp a0, zj x1, zj x2, zj x3, zj r_17, zj r_55] [zp a0, zp a0, zj 1, zp a0] w_53 ov w' c s
    obtain ⟨f0_57, f1_58, f2_59, f3_60, f4_61, f5_62, f6_63, f7_64, f8_65, f9_66, f10_67, f11_68, f12_69, hw_56, h⟩ := h
    refine rl_gf rfl hw_56 rfl rfl ?_
    show Zr sc 63 47 [zp a0, zj x1, zj x2, zj x3, zj r_17, zj r_55] [zp f1_58, zp a0, zj 1, zp a0] w_53 ov w' c s
    refine Zr_st (q := (49, [zp a0, zj x1, zj x2, zj x3, zj r_17, zj r_55], [zj r_17, zp f1_58, zp a0, zj 1, zp a0])) rfl rfl rfl ?_
    show Zr sc 63 49 [zp a0, zj x1, zj x2, zj x3, zj r_17, zj r_55] [zj r_17, zp f1_58, zp a0, zj 1, zp a0] w_53 ov w' c s
    obtain ⟨f0_71, f1_72, f2_73, hw_70, h⟩ := h
    obtain ⟨r_76, w_74, hk_75, h⟩ := h
    refine rn_cal0 (ins := .invokevirtual 46) (rest := [zp a0, zj 1, zp a0]) rfl rfl rfl rfl (zinv_v (fs := _) hw_70 rfl rfl rfl rfl) rfl rfl hk_75 ?_
    show Zr sc 63 52 [zp a0, zj x1, zj x2, zj x3, zj r_17, zj r_55] [zj r_76, zp a0, zj 1, zp a0] w_74 ov w' c s
    refine Zr_st (q := (53, [zp a0, zj x1, zj x2, zj x3, zj r_17, zj r_55], [zj x3, zj r_76, zp a0, zj 1, zp a0])) rfl rfl rfl ?_
    show Zr sc 63 53 [zp a0, zj x1, zj x2, zj x3, zj r_17, zj r_55] [zj x3, zj r_76, zp a0, zj 1, zp a0] w_74 ov w' c s
    obtain ⟨f0_78, f1_79, f2_80, f3_81, f4_82, f5_83, f6_84, f7_85, f8_86, f9_87, f10_88, f11_89, f12_90, hw_77, h⟩ := h
    obtain ⟨r_93, w_91, hk_92, h⟩ := h
    refine rn_cal0 (ins := .invokevirtual 49) (rest := [zj 1, zp a0]) rfl rfl rfl rfl (zinv_v (fs := _) hw_77 rfl rfl rfl rfl) rfl rfl hk_92 ?_
    show Zr sc 63 56 [zp a0, zj x1, zj x2, zj x3, zj r_17, zj r_55] [zj r_93, zj 1, zp a0] w_91 ov w' c s
    obtain ⟨f0_95, f1_96, f2_97, f3_98, f4_99, f5_100, f6_101, f7_102, f8_103, f9_104, f10_105, f11_106, f12_107, hw_94, h⟩ := h
    obtain ⟨w_108, hk_109, h⟩ := h
    refine rn_cal0 (ins := .invokevirtual 169) (rest := []) rfl rfl rfl rfl (zinv_v (fs := _) hw_94 rfl rfl rfl rfl) rfl rfl hk_109 ?_
    show Zr sc 63 59 [zp a0, zj x1, zj x2, zj x3, zj r_17, zj r_55] [] w_108 ov w' c s
    refine Zr_st (q := (60, [zp a0, zj x1, zj x2, zj x3, zj r_17, zj r_55], [zp a0])) rfl rfl rfl ?_
    show Zr sc 63 60 [zp a0, zj x1, zj x2, zj x3, zj r_17, zj r_55] [zp a0] w_108 ov w' c s
    obtain ⟨f0_111, f1_112, f2_113, f3_114, f4_115, f5_116, f6_117, f7_118, f8_119, f9_120, f10_121, f11_122, f12_123, hw_110, h⟩ := h
    refine rl_gf rfl hw_110 rfl rfl ?_
    show Zr sc 63 63 [zp a0, zj x1, zj x2, zj x3, zj r_17, zj r_55] [zp f0_111] w_108 ov w' c s
    refine Zr_st (q := (64, [zp a0, zj x1, zj x2, zj x3, zj r_17, zj r_55], [zj x1, zp f0_111])) rfl rfl rfl ?_
    show Zr sc 63 64 [zp a0, zj x1, zj x2, zj x3, zj r_17, zj r_55] [zj x1, zp f0_111] w_108 ov w' c s
    refine Zr_st (q := (66, [zp a0, zj x1, zj x2, zj x3, zj r_17, zj r_55], [zj r_55, zj x1, zp f0_111])) rfl rfl rfl ?_
    show Zr sc 63 66 [zp a0, zj x1, zj x2, zj x3, zj r_17, zj r_55] [zj r_55, zj x1, zp f0_111] w_108 ov w' c s
    refine Zr_st (q := (67, [zp a0, zj x1, zj x2, zj x3, zj r_17, zj r_55], [zj x2, zj r_55, zj x1, zp f0_111])) rfl rfl rfl ?_
    show Zr sc 63 67 [zp a0, zj x1, zj x2, zj x3, zj r_17, zj r_55] [zj x2, zj r_55, zj x1, zp f0_111] w_108 ov w' c s
    refine Zr_st (q := (68, [zp a0, zj x1, zj x2, zj x3, zj r_17, zj r_55], [zj x3, zj x2, zj r_55, zj x1, zp f0_111])) rfl rfl rfl ?_
    show Zr sc 63 68 [zp a0, zj x1, zj x2, zj x3, zj r_17, zj r_55] [zj x3, zj x2, zj r_55, zj x1, zp f0_111] w_108 ov w' c s
    obtain ⟨f0_125, f1_126, f2_127, f3_128, f4_129, f5_130, hw_124, h⟩ := h
    obtain ⟨w_131, hk_132, h⟩ := h
    refine rn_cal0 (ins := .invokevirtual 144) (rest := []) rfl rfl rfl rfl (zinv_v (fs := _) hw_124 rfl rfl rfl rfl) rfl rfl hk_132 ?_
    show Zr sc 63 71 [zp a0, zj x1, zj x2, zj x3, zj r_17, zj r_55] [] w_131 ov w' c s
    refine Zr_st (q := (72, [zp a0, zj x1, zj x2, zj x3, zj r_17, zj r_55], [zp a0])) rfl rfl rfl ?_
    show Zr sc 63 72 [zp a0, zj x1, zj x2, zj x3, zj r_17, zj r_55] [zp a0] w_131 ov w' c s
    obtain ⟨f0_134, f1_135, f2_136, f3_137, f4_138, f5_139, f6_140, f7_141, f8_142, f9_143, f10_144, f11_145, f12_146, hw_133, h⟩ := h
    obtain ⟨w_147, hk_148, h⟩ := h
    refine rn_cal0 (ins := .invokevirtual 77) (rest := []) rfl rfl rfl rfl (zinv_v (fs := _) hw_133 rfl rfl rfl rfl) rfl rfl hk_148 ?_
    show Zr sc 63 75 [zp a0, zj x1, zj x2, zj x3, zj r_17, zj r_55] [] w_147 ov w' c s
    refine Zr_st (q := (76, [zp a0, zj x1, zj x2, zj x3, zj r_17, zj r_55], [zp a0])) rfl rfl rfl ?_
    show Zr sc 63 76 [zp a0, zj x1, zj x2, zj x3, zj r_17, zj r_55] [zp a0] w_147 ov w' c s
    obtain ⟨f0_150, f1_151, f2_152, f3_153, f4_154, f5_155, f6_156, f7_157, f8_158, f9_159, f10_160, f11_161, f12_162, hw_149, h⟩ := h
    refine rl_gf rfl hw_149 rfl rfl ?_
    show Zr sc 63 79 [zp a0, zj x1, zj x2, zj x3, zj r_17, zj r_55] [zj f2_152] w_147 ov w' c s
    refine rl_ic rfl ?_
    show Zr sc 63 80 [zp a0, zj x1, zj x2, zj x3, zj r_17, zj r_55] [zj 1, zj f2_152] w_147 ov w' c s
    obtain ⟨hr_163, h⟩ := h
    refine Zr_br (p := f2_152 ≠ 1) rfl rfl (zcmp_j (cnd := .ne) hr_163.1 hr_163.2) (fun hp => ?_) (fun hp => ?_)
    · replace h := h.1 hp
      show Zr sc 63 91 [zp a0, zj x1, zj x2, zj x3, zj r_17, zj r_55] [] w_147 ov w' c s
      refine rl_ic rfl ?_
      show Zr sc 63 92 [zp a0, zj x1, zj x2, zj x3, zj r_17, zj r_55] [zj 1] w_147 ov w' c s
      obtain ⟨h1, h2, h3, h4⟩ := h
      subst h1; subst h2; subst h3; subst h4
      exact Zr_ret (ins := .ireturn) rfl rfl
    · replace h := h.2 hp
      show Zr sc 63 83 [zp a0, zj x1, zj x2, zj x3, zj r_17, zj r_55] [] w_147 ov w' c s
      refine Zr_st (q := (84, [zp a0, zj x1, zj x2, zj x3, zj r_17, zj r_55], [zp a0])) rfl rfl rfl ?_
      show Zr sc 63 84 [zp a0, zj x1, zj x2, zj x3, zj r_17, zj r_55] [zp a0] w_147 ov w' c s
      refine Zr_st (q := (86, [zp a0, zj x1, zj x2, zj x3, zj r_17, zj r_55], [zj r_55, zp a0])) rfl rfl rfl ?_
      show Zr sc 63 86 [zp a0, zj x1, zj x2, zj x3, zj r_17, zj r_55] [zj r_55, zp a0] w_147 ov w' c s
      refine Zr_st (q := (87, [zp a0, zj x1, zj x2, zj x3, zj r_17, zj r_55], [zj x3, zj r_55, zp a0])) rfl rfl rfl ?_
      show Zr sc 63 87 [zp a0, zj x1, zj x2, zj x3, zj r_17, zj r_55] [zj x3, zj r_55, zp a0] w_147 ov w' c s
      refine rl_add rfl ?_
      show Zr sc 63 88 [zp a0, zj x1, zj x2, zj x3, zj r_17, zj r_55] [zj (r_55 + x3), zp a0] w_147 ov w' c s
      obtain ⟨w_164, hk_165, h⟩ := h
      refine rn_cal0 (ins := .invokevirtual 172) (rest := []) rfl rfl rfl rfl (zinv_v (fs := _) hw_149 rfl rfl rfl rfl) rfl rfl hk_165 ?_
      show Zr sc 63 91 [zp a0, zj x1, zj x2, zj x3, zj r_17, zj r_55] [] w_164 ov w' c s
      refine rl_ic rfl ?_
      show Zr sc 63 92 [zp a0, zj x1, zj x2, zj x3, zj r_17, zj r_55] [zj 1] w_164 ov w' c s
      obtain ⟨h1, h2, h3, h4⟩ := h
      subst h1; subst h2; subst h3; subst h4
      exact Zr_ret (ins := .ireturn) rfl rfl
  · replace h := h.2 hp
    show Zr sc 63 21 [zp a0, zj x1, zj x2, zj x3, zj r_17, zmk] [] w_32 ov w' c s
    refine Zr_st (q := (22, [zp a0, zj x1, zj x2, zj x3, zj r_17, zmk], [zp a0])) rfl rfl rfl ?_
    show Zr sc 63 22 [zp a0, zj x1, zj x2, zj x3, zj r_17, zmk] [zp a0] w_32 ov w' c s
    refine rl_ic rfl ?_
    show Zr sc 63 23 [zp a0, zj x1, zj x2, zj x3, zj r_17, zmk] [zj 4, zp a0] w_32 ov w' c s
    refine rl_ic rfl ?_
    show Zr sc 63 24 [zp a0, zj x1, zj x2, zj x3, zj r_17, zmk] [zj 1, zj 4, zp a0] w_32 ov w' c s
    obtain ⟨f0_167, f1_168, f2_169, f3_170, f4_171, f5_172, f6_173, f7_174, f8_175, f9_176, f10_177, f11_178, f12_179, hw_166, h⟩ := h
    obtain ⟨w_180, hk_181, h⟩ := h
    refine rn_cal0 (ins := .invokevirtual 169) (rest := []) rfl rfl rfl rfl (zinv_v (fs := _) hw_166 rfl rfl rfl rfl) rfl rfl hk_181 ?_
    show Zr sc 63 27 [zp a0, zj x1, zj x2, zj x3, zj r_17, zmk] [] w_180 ov w' c s
    refine rl_ic rfl ?_
    show Zr sc 63 28 [zp a0, zj x1, zj x2, zj x3, zj r_17, zmk] [zj 0] w_180 ov w' c s
    obtain ⟨h1, h2, h3, h4⟩ := h
    subst h1; subst h2; subst h3; subst h4
    exact Zr_ret (ins := .ireturn) rfl rfl

-- HeapwrightLab$Memory.settle(III)Z
set_option maxRecDepth 100000 in
theorem V63_0_2 {sc : List Value} {w w' : List zE} {ov : Option Value} {c s : Nat} {a0 : Nat} {x1 : Int} {x2 : Int} {x3 : Int} (h : (∃ f0_2 : Nat, ∃ f1_3 : Nat, ∃ f2_4 : Int, ∃ f3_5 : Int, ∃ f4_6 : Int, ∃ f5_7 : Int, ∃ f6_8 : Int, ∃ f7_9 : Nat, ∃ f8_10 : Nat, ∃ f9_11 : Int, ∃ f10_12 : Int, ∃ f11_13 : Int, ∃ f12_14 : Int, w[a0]? = some (zob 2 [zp f0_2, zp f1_3, zj f2_4, zj f3_5, zj f4_6, zj f5_7, zj f6_8, zp f7_9, zp f8_10, zj f9_11, zj f10_12, zj f11_13, zj f12_14]) ∧ (∃ r_17 : Int, ∃ w_15 : List zE, Zc sc 45 [zp a0, zj x3] w (some (zj r_17)) w_15 0 0 ∧ (∃ f0_19 : Nat, ∃ f1_20 : Nat, ∃ f2_21 : Int, ∃ f3_22 : Int, ∃ f4_23 : Int, ∃ f5_24 : Int, ∃ f6_25 : Int, ∃ f7_26 : Nat, ∃ f8_27 : Nat, ∃ f9_28 : Int, ∃ f10_29 : Int, ∃ f11_30 : Int, ∃ f12_31 : Int, w_15[a0]? = some (zob 2 [zp f0_19, zp f1_20, zj f2_21, zj f3_22, zj f4_23, zj f5_24, zj f6_25, zp f7_26, zp f8_27, zj f9_28, zj f10_29, zj f11_30, zj f12_31]) ∧ (∃ w_32 : List zE, Zc sc 64 [zp a0, zj 0, zj f6_25] w_15 none w_32 0 0 ∧ ((zrg r_17) ∧ ((0 ≤ r_17 → (∃ f0_36 : Nat, ∃ f1_37 : Nat, ∃ f2_38 : Int, ∃ f3_39 : Int, ∃ f4_40 : Int, ∃ f5_41 : Int, ∃ f6_42 : Int, ∃ f7_43 : Nat, ∃ f8_44 : Nat, ∃ f9_45 : Int, ∃ f10_46 : Int, ∃ f11_47 : Int, ∃ f12_48 : Int, w_32[a0]? = some (zob 2 [zp f0_36, zp f1_37, zj f2_38, zj f3_39, zj f4_40, zj f5_41, zj f6_42, zp f7_43, zp f8_44, zj f9_45, zj f10_46, zj f11_47, zj f12_48]) ∧ (∃ f0_50 : Nat, ∃ f1_51 : Nat, ∃ f2_52 : Int, w_32[f1_37]? = some (zob 3 [zp f0_50, zp f1_51, zj f2_52]) ∧ (∃ r_55 : Int, ∃ w_53 : List zE, Zc sc 24 [zp f1_37, zj r_17] w_32 (some (zj r_55)) w_53 0 0 ∧ (∃ f0_57 : Nat, ∃ f1_58 : Nat, ∃ f2_59 : Int, ∃ f3_60 : Int, ∃ f4_61 : Int, ∃ f5_62 : Int, ∃ f6_63 : Int, ∃ f7_64 : Nat, ∃ f8_65 : Nat, ∃ f9_66 : Int, ∃ f10_67 : Int, ∃ f11_68 : Int, ∃ f12_69 : Int, w_53[a0]? = some (zob 2 [zp f0_57, zp f1_58, zj f2_59, zj f3_60, zj f4_61, zj f5_62, zj f6_63, zp f7_64, zp f8_65, zj f9_66, zj f10_67, zj f11_68, zj f12_69]) ∧ (∃ f0_71 : Nat, ∃ f1_72 : Nat, ∃ f2_73 : Int, w_53[f1_58]? = some (zob 3 [zp f0_71, zp f1_72, zj f2_73]) ∧ (∃ r_76 : Int, ∃ w_74 : List zE, Zc sc 26 [zp f1_58, zj r_17] w_53 (some (zj r_76)) w_74 0 0 ∧ (∃ f0_78 : Nat, ∃ f1_79 : Nat, ∃ f2_80 : Int, ∃ f3_81 : Int, ∃ f4_82 : Int, ∃ f5_83 : Int, ∃ f6_84 : Int, ∃ f7_85 : Nat, ∃ f8_86 : Nat, ∃ f9_87 : Int, ∃ f10_88 : Int, ∃ f11_89 : Int, ∃ f12_90 : Int, w_74[a0]? = some (zob 2 [zp f0_78, zp f1_79, zj f2_80, zj f3_81, zj f4_82, zj f5_83, zj f6_84, zp f7_85, zp f8_86, zj f9_87, zj f10_88, zj f11_89, zj f12_90]) ∧ (∃ r_93 : Int, ∃ w_91 : List zE, Zc sc 66 [zp a0, zj r_76, zj x3] w_74 (some (zj r_93)) w_91 0 0 ∧ (∃ f0_95 : Nat, ∃ f1_96 : Nat, ∃ f2_97 : Int, ∃ f3_98 : Int, ∃ f4_99 : Int, ∃ f5_100 : Int, ∃ f6_101 : Int, ∃ f7_102 : Nat, ∃ f8_103 : Nat, ∃ f9_104 : Int, ∃ f10_105 : Int, ∃ f11_106 : Int, ∃ f12_107 : Int, w_91[a0]? = some (zob 2 [zp f0_95, zp f1_96, zj f2_97, zj f3_98, zj f4_99, zj f5_100, zj f6_101, zp f7_102, zp f8_103, zj f9_104, zj f10_105, zj f11_106, zj f12_107]) ∧ (∃ w_108 : List zE, Zc sc 64 [zp a0, zj 1, zj r_93] w_91 none w_108 0 0 ∧ (∃ f0_111 : Nat, ∃ f1_112 : Nat, ∃ f2_113 : Int, ∃ f3_114 : Int, ∃ f4_115 : Int, ∃ f5_116 : Int, ∃ f6_117 : Int, ∃ f7_118 : Nat, ∃ f8_119 : Nat, ∃ f9_120 : Int, ∃ f10_121 : Int, ∃ f11_122 : Int, ∃ f12_123 : Int, w_108[a0]? = some (zob 2 [zp f0_111, zp f1_112, zj f2_113, zj f3_114, zj f4_115, zj f5_116, zj f6_117, zp f7_118, zp f8_119, zj f9_120, zj f10_121, zj f11_122, zj f12_123]) ∧ (∃ f0_125 : Nat, ∃ f1_126 : Nat, ∃ f2_127 : Nat, ∃ f3_128 : Nat, ∃ f4_129 : Int, ∃ f5_130 : Int, w_108[f0_111]? = some (zob 0 [zp f0_125, zp f1_126, zp f2_127, zp f3_128, zj f4_129, zj f5_130]) ∧ (∃ w_131 : List zE, Zc sc 68 [zp f0_111, zj x1, zj r_55, zj x2, zj x3] w_108 none w_131 0 0 ∧ (∃ f0_134 : Nat, ∃ f1_135 : Nat, ∃ f2_136 : Int, ∃ f3_137 : Int, ∃ f4_138 : Int, ∃ f5_139 : Int, ∃ f6_140 : Int, ∃ f7_141 : Nat, ∃ f8_142 : Nat, ∃ f9_143 : Int, ∃ f10_144 : Int, ∃ f11_145 : Int, ∃ f12_146 : Int, w_131[a0]? = some (zob 2 [zp f0_134, zp f1_135, zj f2_136, zj f3_137, zj f4_138, zj f5_139, zj f6_140, zp f7_141, zp f8_142, zj f9_143, zj f10_144, zj f11_145, zj f12_146]) ∧ (∃ w_147 : List zE, Zc sc 69 [zp a0] w_131 none w_147 0 0 ∧ (∃ f0_150 : Nat, ∃ f1_151 : Nat, ∃ f2_152 : Int, ∃ f3_153 : Int, ∃ f4_154 : Int, ∃ f5_155 : Int, ∃ f6_156 : Int, ∃ f7_157 : Nat, ∃ f8_158 : Nat, ∃ f9_159 : Int, ∃ f10_160 : Int, ∃ f11_161 : Int, ∃ f12_162 : Int, w_147[a0]? = some (zob 2 [zp f0_150, zp f1_151, zj f2_152, zj f3_153, zj f4_154, zj f5_155, zj f6_156, zp f7_157, zp f8_158, zj f9_159, zj f10_160, zj f11_161, zj f12_162]) ∧ ((zrg f2_152 ∧ zrg 1) ∧ ((f2_152 ≠ 1 → (ov = some (zj 1) ∧ w' = w_147 ∧ c = 0 ∧ s = 0)) ∧ (¬ (f2_152 ≠ 1) → (∃ w_164 : List zE, Zc sc 81 [zp a0, zj (r_55 + x3)] w_147 none w_164 0 0 ∧ (ov = some (zj 1) ∧ w' = w_164 ∧ c = 0 ∧ s = 0)))))))))))))))))))))) ∧ (¬ (0 ≤ r_17) → (∃ f0_167 : Nat, ∃ f1_168 : Nat, ∃ f2_169 : Int, ∃ f3_170 : Int, ∃ f4_171 : Int, ∃ f5_172 : Int, ∃ f6_173 : Int, ∃ f7_174 : Nat, ∃ f8_175 : Nat, ∃ f9_176 : Int, ∃ f10_177 : Int, ∃ f11_178 : Int, ∃ f12_179 : Int, w_32[a0]? = some (zob 2 [zp f0_167, zp f1_168, zj f2_169, zj f3_170, zj f4_171, zj f5_172, zj f6_173, zp f7_174, zp f8_175, zj f9_176, zj f10_177, zj f11_178, zj f12_179]) ∧ (∃ w_180 : List zE, Zc sc 64 [zp a0, zj 4, zj 1] w_32 none w_180 0 0 ∧ (ov = some (zj 0) ∧ w' = w_180 ∧ c = 0 ∧ s = 0))))))))))) : Zr sc 63 0 [zp a0, zj x1, zj x2, zj x3, zmk, zmk] [] w ov w' c s := by
  refine Zr_st (q := (1, [zp a0, zj x1, zj x2, zj x3, zmk, zmk], [zp a0])) rfl rfl rfl ?_
  show Zr sc 63 1 [zp a0, zj x1, zj x2, zj x3, zmk, zmk] [zp a0] w ov w' c s
  refine Zr_st (q := (2, [zp a0, zj x1, zj x2, zj x3, zmk, zmk], [zj x3, zp a0])) rfl rfl rfl ?_
  show Zr sc 63 2 [zp a0, zj x1, zj x2, zj x3, zmk, zmk] [zj x3, zp a0] w ov w' c s
  obtain ⟨f0_2, f1_3, f2_4, f3_5, f4_6, f5_7, f6_8, f7_9, f8_10, f9_11, f10_12, f11_13, f12_14, hw_1, h⟩ := h
  obtain ⟨r_17, w_15, hk_16, h⟩ := h
  refine rn_cal0 (ins := .invokevirtual 127) (rest := []) rfl rfl rfl rfl (zinv_v (fs := _) hw_1 rfl rfl rfl rfl) rfl rfl hk_16 ?_
  show Zr sc 63 5 [zp a0, zj x1, zj x2, zj x3, zmk, zmk] [zj r_17] w_15 ov w' c s
  refine Zr_st (q := (7, [zp a0, zj x1, zj x2, zj x3, zj r_17, zmk], [])) rfl rfl rfl ?_
  show Zr sc 63 7 [zp a0, zj x1, zj x2, zj x3, zj r_17, zmk] [] w_15 ov w' c s
  refine Zr_st (q := (8, [zp a0, zj x1, zj x2, zj x3, zj r_17, zmk], [zp a0])) rfl rfl rfl ?_
  show Zr sc 63 8 [zp a0, zj x1, zj x2, zj x3, zj r_17, zmk] [zp a0] w_15 ov w' c s
  refine rl_ic rfl ?_
  show Zr sc 63 9 [zp a0, zj x1, zj x2, zj x3, zj r_17, zmk] [zj 0, zp a0] w_15 ov w' c s
  refine Zr_st (q := (10, [zp a0, zj x1, zj x2, zj x3, zj r_17, zmk], [zp a0, zj 0, zp a0])) rfl rfl rfl ?_
  show Zr sc 63 10 [zp a0, zj x1, zj x2, zj x3, zj r_17, zmk] [zp a0, zj 0, zp a0] w_15 ov w' c s
  obtain ⟨f0_19, f1_20, f2_21, f3_22, f4_23, f5_24, f6_25, f7_26, f8_27, f9_28, f10_29, f11_30, f12_31, hw_18, h⟩ := h
  refine rl_gf rfl hw_18 rfl rfl ?_
  show Zr sc 63 13 [zp a0, zj x1, zj x2, zj x3, zj r_17, zmk] [zj f6_25, zj 0, zp a0] w_15 ov w' c s
  obtain ⟨w_32, hk_33, h⟩ := h
  refine rn_cal0 (ins := .invokevirtual 169) (rest := []) rfl rfl rfl rfl (zinv_v (fs := _) hw_18 rfl rfl rfl rfl) rfl rfl hk_33 ?_
  show Zr sc 63 16 [zp a0, zj x1, zj x2, zj x3, zj r_17, zmk] [] w_32 ov w' c s
  refine Zr_st (q := (18, [zp a0, zj x1, zj x2, zj x3, zj r_17, zmk], [zj r_17])) rfl rfl rfl ?_
  show Zr sc 63 18 [zp a0, zj x1, zj x2, zj x3, zj r_17, zmk] [zj r_17] w_32 ov w' c s
  obtain ⟨hr_34, h⟩ := h
  refine Zr_b0 (p := 0 ≤ r_17) rfl rfl (zcmp_0 (cnd := .ge) hr_34) (fun hp => ?_) (fun hp => ?_)
  · replace h := h.1 hp
    show Zr sc 63 29 [zp a0, zj x1, zj x2, zj x3, zj r_17, zmk] [] w_32 ov w' c s
    refine Zr_st (q := (30, [zp a0, zj x1, zj x2, zj x3, zj r_17, zmk], [zp a0])) rfl rfl rfl ?_
    show Zr sc 63 30 [zp a0, zj x1, zj x2, zj x3, zj r_17, zmk] [zp a0] w_32 ov w' c s
    obtain ⟨f0_36, f1_37, f2_38, f3_39, f4_40, f5_41, f6_42, f7_43, f8_44, f9_45, f10_46, f11_47, f12_48, hw_35, h⟩ := h
    refine rl_gf rfl hw_35 rfl rfl ?_
    show Zr sc 63 33 [zp a0, zj x1, zj x2, zj x3, zj r_17, zmk] [zp f1_37] w_32 ov w' c s
    refine Zr_st (q := (35, [zp a0, zj x1, zj x2, zj x3, zj r_17, zmk], [zj r_17, zp f1_37])) rfl rfl rfl ?_
    show Zr sc 63 35 [zp a0, zj x1, zj x2, zj x3, zj r_17, zmk] [zj r_17, zp f1_37] w_32 ov w' c s
    obtain ⟨f0_50, f1_51, f2_52, hw_49, h⟩ := h
    obtain ⟨r_55, w_53, hk_54, h⟩ := h
    refine rn_cal0 (ins := .invokevirtual 130) (rest := []) rfl rfl rfl rfl (zinv_v (fs := _) hw_49 rfl rfl rfl rfl) rfl rfl hk_54 ?_
    show Zr sc 63 38 [zp a0, zj x1, zj x2, zj x3, zj r_17, zmk] [zj r_55] w_53 ov w' c s
    refine Zr_st (q := (40, [zp a0, zj x1, zj x2, zj x3, zj r_17, zj r_55], [])) rfl rfl rfl ?_
    show Zr sc 63 40 [zp a0, zj x1, zj x2, zj x3, zj r_17, zj r_55] [] w_53 ov w' c s
    refine Zr_st (q := (41, [zp a0, zj x1, zj x2, zj x3, zj r_17, zj r_55], [zp a0])) rfl rfl rfl ?_
    show Zr sc 63 41 [zp a0, zj x1, zj x2, zj x3, zj r_17, zj r_55] [zp a0] w_53 ov w' c s
    refine rl_ic rfl ?_
    show Zr sc 63 42 [zp a0, zj x1, zj x2, zj x3, zj r_17, zj r_55] [zj 1, zp a0] w_53 ov w' c s
    refine Zr_st (q := (43, [zp a0, zj x1, zj x2, zj x3, zj r_17, zj r_55], [zp a0, zj 1, zp a0])) rfl rfl rfl ?_
    show Zr sc 63 43 [zp a0, zj x1, zj x2, zj x3, zj r_17, zj r_55] [zp a0, zj 1, zp a0] w_53 ov w' c s
    refine Zr_st (q := (44, [zp a0, zj x1, zj x2, zj x3, zj r_17, zj r_55], [zp a0, zp a0, zj 1, zp a0])) rfl rfl rfl ?_
    show Zr sc 63 44 [zp a0, zj x1, zj x2, zj x3, zj r_17, zj r_55] [zp a0, zp a0, zj 1, zp a0] w_53 ov w' c s
    obtain ⟨f0_57, f1_58, f2_59, f3_60, f4_61, f5_62, f6_63, f7_64, f8_65, f9_66, f10_67, f11_68, f12_69, hw_56, h⟩ := h
    refine rl_gf rfl hw_56 rfl rfl ?_
    show Zr sc 63 47 [zp a0, zj x1, zj x2, zj x3, zj r_17, zj r_55] [zp f1_58, zp a0, zj 1, zp a0] w_53 ov w' c s
    refine Zr_st (q := (49, [zp a0, zj x1, zj x2, zj x3, zj r_17, zj r_55], [zj r_17, zp f1_58, zp a0, zj 1, zp a0])) rfl rfl rfl ?_
    show Zr sc 63 49 [zp a0, zj x1, zj x2, zj x3, zj r_17, zj r_55] [zj r_17, zp f1_58, zp a0, zj 1, zp a0] w_53 ov w' c s
    obtain ⟨f0_71, f1_72, f2_73, hw_70, h⟩ := h
    obtain ⟨r_76, w_74, hk_75, h⟩ := h
    refine rn_cal0 (ins := .invokevirtual 46) (rest := [zp a0, zj 1, zp a0]) rfl rfl rfl rfl (zinv_v (fs := _) hw_70 rfl rfl rfl rfl) rfl rfl hk_75 ?_
    show Zr sc 63 52 [zp a0, zj x1, zj x2, zj x3, zj r_17, zj r_55] [zj r_76, zp a0, zj 1, zp a0] w_74 ov w' c s
    refine Zr_st (q := (53, [zp a0, zj x1, zj x2, zj x3, zj r_17, zj r_55], [zj x3, zj r_76, zp a0, zj 1, zp a0])) rfl rfl rfl ?_
    show Zr sc 63 53 [zp a0, zj x1, zj x2, zj x3, zj r_17, zj r_55] [zj x3, zj r_76, zp a0, zj 1, zp a0] w_74 ov w' c s
    obtain ⟨f0_78, f1_79, f2_80, f3_81, f4_82, f5_83, f6_84, f7_85, f8_86, f9_87, f10_88, f11_89, f12_90, hw_77, h⟩ := h
    obtain ⟨r_93, w_91, hk_92, h⟩ := h
    refine rn_cal0 (ins := .invokevirtual 49) (rest := [zj 1, zp a0]) rfl rfl rfl rfl (zinv_v (fs := _) hw_77 rfl rfl rfl rfl) rfl rfl hk_92 ?_
    show Zr sc 63 56 [zp a0, zj x1, zj x2, zj x3, zj r_17, zj r_55] [zj r_93, zj 1, zp a0] w_91 ov w' c s
    obtain ⟨f0_95, f1_96, f2_97, f3_98, f4_99, f5_100, f6_101, f7_102, f8_103, f9_104, f10_105, f11_106, f12_107, hw_94, h⟩ := h
    obtain ⟨w_108, hk_109, h⟩ := h
    refine rn_cal0 (ins := .invokevirtual 169) (rest := []) rfl rfl rfl rfl (zinv_v (fs := _) hw_94 rfl rfl rfl rfl) rfl rfl hk_109 ?_
    show Zr sc 63 59 [zp a0, zj x1, zj x2, zj x3, zj r_17, zj r_55] [] w_108 ov w' c s
    refine Zr_st (q := (60, [zp a0, zj x1, zj x2, zj x3, zj r_17, zj r_55], [zp a0])) rfl rfl rfl ?_
    show Zr sc 63 60 [zp a0, zj x1, zj x2, zj x3, zj r_17, zj r_55] [zp a0] w_108 ov w' c s
    obtain ⟨f0_111, f1_112, f2_113, f3_114, f4_115, f5_116, f6_117, f7_118, f8_119, f9_120, f10_121, f11_122, f12_123, hw_110, h⟩ := h
    refine rl_gf rfl hw_110 rfl rfl ?_
    show Zr sc 63 63 [zp a0, zj x1, zj x2, zj x3, zj r_17, zj r_55] [zp f0_111] w_108 ov w' c s
    refine Zr_st (q := (64, [zp a0, zj x1, zj x2, zj x3, zj r_17, zj r_55], [zj x1, zp f0_111])) rfl rfl rfl ?_
    show Zr sc 63 64 [zp a0, zj x1, zj x2, zj x3, zj r_17, zj r_55] [zj x1, zp f0_111] w_108 ov w' c s
    refine Zr_st (q := (66, [zp a0, zj x1, zj x2, zj x3, zj r_17, zj r_55], [zj r_55, zj x1, zp f0_111])) rfl rfl rfl ?_
    show Zr sc 63 66 [zp a0, zj x1, zj x2, zj x3, zj r_17, zj r_55] [zj r_55, zj x1, zp f0_111] w_108 ov w' c s
    refine Zr_st (q := (67, [zp a0, zj x1, zj x2, zj x3, zj r_17, zj r_55], [zj x2, zj r_55, zj x1, zp f0_111])) rfl rfl rfl ?_
    show Zr sc 63 67 [zp a0, zj x1, zj x2, zj x3, zj r_17, zj r_55] [zj x2, zj r_55, zj x1, zp f0_111] w_108 ov w' c s
    refine Zr_st (q := (68, [zp a0, zj x1, zj x2, zj x3, zj r_17, zj r_55], [zj x3, zj x2, zj r_55, zj x1, zp f0_111])) rfl rfl rfl ?_
    show Zr sc 63 68 [zp a0, zj x1, zj x2, zj x3, zj r_17, zj r_55] [zj x3, zj x2, zj r_55, zj x1, zp f0_111] w_108 ov w' c s
    obtain ⟨f0_125, f1_126, f2_127, f3_128, f4_129, f5_130, hw_124, h⟩ := h
    obtain ⟨w_131, hk_132, h⟩ := h
    refine rn_cal0 (ins := .invokevirtual 144) (rest := []) rfl rfl rfl rfl (zinv_v (fs := _) hw_124 rfl rfl rfl rfl) rfl rfl hk_132 ?_
    show Zr sc 63 71 [zp a0, zj x1, zj x2, zj x3, zj r_17, zj r_55] [] w_131 ov w' c s
    refine Zr_st (q := (72, [zp a0, zj x1, zj x2, zj x3, zj r_17, zj r_55], [zp a0])) rfl rfl rfl ?_
    show Zr sc 63 72 [zp a0, zj x1, zj x2, zj x3, zj r_17, zj r_55] [zp a0] w_131 ov w' c s
    obtain ⟨f0_134, f1_135, f2_136, f3_137, f4_138, f5_139, f6_140, f7_141, f8_142, f9_143, f10_144, f11_145, f12_146, hw_133, h⟩ := h
    obtain ⟨w_147, hk_148, h⟩ := h
    refine rn_cal0 (ins := .invokevirtual 77) (rest := []) rfl rfl rfl rfl (zinv_v (fs := _) hw_133 rfl rfl rfl rfl) rfl rfl hk_148 ?_
    show Zr sc 63 75 [zp a0, zj x1, zj x2, zj x3, zj r_17, zj r_55] [] w_147 ov w' c s
    refine Zr_st (q := (76, [zp a0, zj x1, zj x2, zj x3, zj r_17, zj r_55], [zp a0])) rfl rfl rfl ?_
    show Zr sc 63 76 [zp a0, zj x1, zj x2, zj x3, zj r_17, zj r_55] [zp a0] w_147 ov w' c s
    obtain ⟨f0_150, f1_151, f2_152, f3_153, f4_154, f5_155, f6_156, f7_157, f8_158, f9_159, f10_160, f11_161, f12_162, hw_149, h⟩ := h
    refine rl_gf rfl hw_149 rfl rfl ?_
    show Zr sc 63 79 [zp a0, zj x1, zj x2, zj x3, zj r_17, zj r_55] [zj f2_152] w_147 ov w' c s
    refine rl_ic rfl ?_
    show Zr sc 63 80 [zp a0, zj x1, zj x2, zj x3, zj r_17, zj r_55] [zj 1, zj f2_152] w_147 ov w' c s
    obtain ⟨hr_163, h⟩ := h
    refine Zr_br (p := f2_152 ≠ 1) rfl rfl (zcmp_j (cnd := .ne) hr_163.1 hr_163.2) (fun hp => ?_) (fun hp => ?_)
    · replace h := h.1 hp
      show Zr sc 63 91 [zp a0, zj x1, zj x2, zj x3, zj r_17, zj r_55] [] w_147 ov w' c s
      refine rl_ic rfl ?_
      show Zr sc 63 92 [zp a0, zj x1, zj x2, zj x3, zj r_17, zj r_55] [zj 1] w_147 ov w' c s
      obtain ⟨h1, h2, h3, h4⟩ := h
      subst h1; subst h2; subst h3; subst h4
      exact Zr_ret (ins := .ireturn) rfl rfl
    · replace h := h.2 hp
      show Zr sc 63 83 [zp a0, zj x1, zj x2, zj x3, zj r_17, zj r_55] [] w_147 ov w' c s
      refine Zr_st (q := (84, [zp a0, zj x1, zj x2, zj x3, zj r_17, zj r_55], [zp a0])) rfl rfl rfl ?_
      show Zr sc 63 84 [zp a0, zj x1, zj x2, zj x3, zj r_17, zj r_55] [zp a0] w_147 ov w' c s
      refine Zr_st (q := (86, [zp a0, zj x1, zj x2, zj x3, zj r_17, zj r_55], [zj r_55, zp a0])) rfl rfl rfl ?_
      show Zr sc 63 86 [zp a0, zj x1, zj x2, zj x3, zj r_17, zj r_55] [zj r_55, zp a0] w_147 ov w' c s
      refine Zr_st (q := (87, [zp a0, zj x1, zj x2, zj x3, zj r_17, zj r_55], [zj x3, zj r_55, zp a0])) rfl rfl rfl ?_
      show Zr sc 63 87 [zp a0, zj x1, zj x2, zj x3, zj r_17, zj r_55] [zj x3, zj r_55, zp a0] w_147 ov w' c s
      refine rl_add rfl ?_
      show Zr sc 63 88 [zp a0, zj x1, zj x2, zj x3, zj r_17, zj r_55] [zj (r_55 + x3), zp a0] w_147 ov w' c s
      obtain ⟨w_164, hk_165, h⟩ := h
      refine rn_cal0 (ins := .invokevirtual 172) (rest := []) rfl rfl rfl rfl (zinv_v (fs := _) hw_149 rfl rfl rfl rfl) rfl rfl hk_165 ?_
      show Zr sc 63 91 [zp a0, zj x1, zj x2, zj x3, zj r_17, zj r_55] [] w_164 ov w' c s
      refine rl_ic rfl ?_
      show Zr sc 63 92 [zp a0, zj x1, zj x2, zj x3, zj r_17, zj r_55] [zj 1] w_164 ov w' c s
      obtain ⟨h1, h2, h3, h4⟩ := h
      subst h1; subst h2; subst h3; subst h4
      exact Zr_ret (ins := .ireturn) rfl rfl
  · replace h := h.2 hp
    show Zr sc 63 21 [zp a0, zj x1, zj x2, zj x3, zj r_17, zmk] [] w_32 ov w' c s
    refine Zr_st (q := (22, [zp a0, zj x1, zj x2, zj x3, zj r_17, zmk], [zp a0])) rfl rfl rfl ?_
    show Zr sc 63 22 [zp a0, zj x1, zj x2, zj x3, zj r_17, zmk] [zp a0] w_32 ov w' c s
    refine rl_ic rfl ?_
    show Zr sc 63 23 [zp a0, zj x1, zj x2, zj x3, zj r_17, zmk] [zj 4, zp a0] w_32 ov w' c s
    refine rl_ic rfl ?_
    show Zr sc 63 24 [zp a0, zj x1, zj x2, zj x3, zj r_17, zmk] [zj 1, zj 4, zp a0] w_32 ov w' c s
    obtain ⟨f0_167, f1_168, f2_169, f3_170, f4_171, f5_172, f6_173, f7_174, f8_175, f9_176, f10_177, f11_178, f12_179, hw_166, h⟩ := h
    obtain ⟨w_180, hk_181, h⟩ := h
    refine rn_cal0 (ins := .invokevirtual 169) (rest := []) rfl rfl rfl rfl (zinv_v (fs := _) hw_166 rfl rfl rfl rfl) rfl rfl hk_181 ?_
    show Zr sc 63 27 [zp a0, zj x1, zj x2, zj x3, zj r_17, zmk] [] w_180 ov w' c s
    refine rl_ic rfl ?_
    show Zr sc 63 28 [zp a0, zj x1, zj x2, zj x3, zj r_17, zmk] [zj 0] w_180 ov w' c s
    obtain ⟨h1, h2, h3, h4⟩ := h
    subst h1; subst h2; subst h3; subst h4
    exact Zr_ret (ins := .ireturn) rfl rfl

-- HeapwrightLab$Memory.settle(III)Z
set_option maxRecDepth 100000 in
theorem V63_0_4 {sc : List Value} {w w' : List zE} {ov : Option Value} {c s : Nat} {a0 : Nat} {x1 : Int} {x2 : Int} {x3 : Int} (h : (∃ f0_2 : Nat, ∃ f1_3 : Nat, ∃ f2_4 : Int, ∃ f3_5 : Int, ∃ f4_6 : Int, ∃ f5_7 : Int, ∃ f6_8 : Int, ∃ f7_9 : Nat, ∃ f8_10 : Nat, ∃ f9_11 : Int, ∃ f10_12 : Int, ∃ f11_13 : Int, ∃ f12_14 : Int, ∃ f13_15 : Nat, w[a0]? = some (zob 4 [zp f0_2, zp f1_3, zj f2_4, zj f3_5, zj f4_6, zj f5_7, zj f6_8, zp f7_9, zp f8_10, zj f9_11, zj f10_12, zj f11_13, zj f12_14, zp f13_15]) ∧ (∃ r_18 : Int, ∃ w_16 : List zE, Zc sc 49 [zp a0, zj x3] w (some (zj r_18)) w_16 0 0 ∧ (∃ f0_20 : Nat, ∃ f1_21 : Nat, ∃ f2_22 : Int, ∃ f3_23 : Int, ∃ f4_24 : Int, ∃ f5_25 : Int, ∃ f6_26 : Int, ∃ f7_27 : Nat, ∃ f8_28 : Nat, ∃ f9_29 : Int, ∃ f10_30 : Int, ∃ f11_31 : Int, ∃ f12_32 : Int, ∃ f13_33 : Nat, w_16[a0]? = some (zob 4 [zp f0_20, zp f1_21, zj f2_22, zj f3_23, zj f4_24, zj f5_25, zj f6_26, zp f7_27, zp f8_28, zj f9_29, zj f10_30, zj f11_31, zj f12_32, zp f13_33]) ∧ (∃ w_34 : List zE, Zc sc 64 [zp a0, zj 0, zj f6_26] w_16 none w_34 0 0 ∧ ((zrg r_18) ∧ ((0 ≤ r_18 → (∃ f0_38 : Nat, ∃ f1_39 : Nat, ∃ f2_40 : Int, ∃ f3_41 : Int, ∃ f4_42 : Int, ∃ f5_43 : Int, ∃ f6_44 : Int, ∃ f7_45 : Nat, ∃ f8_46 : Nat, ∃ f9_47 : Int, ∃ f10_48 : Int, ∃ f11_49 : Int, ∃ f12_50 : Int, ∃ f13_51 : Nat, w_34[a0]? = some (zob 4 [zp f0_38, zp f1_39, zj f2_40, zj f3_41, zj f4_42, zj f5_43, zj f6_44, zp f7_45, zp f8_46, zj f9_47, zj f10_48, zj f11_49, zj f12_50, zp f13_51]) ∧ (∃ f0_53 : Nat, ∃ f1_54 : Nat, ∃ f2_55 : Int, w_34[f1_39]? = some (zob 3 [zp f0_53, zp f1_54, zj f2_55]) ∧ (∃ r_58 : Int, ∃ w_56 : List zE, Zc sc 24 [zp f1_39, zj r_18] w_34 (some (zj r_58)) w_56 0 0 ∧ (∃ f0_60 : Nat, ∃ f1_61 : Nat, ∃ f2_62 : Int, ∃ f3_63 : Int, ∃ f4_64 : Int, ∃ f5_65 : Int, ∃ f6_66 : Int, ∃ f7_67 : Nat, ∃ f8_68 : Nat, ∃ f9_69 : Int, ∃ f10_70 : Int, ∃ f11_71 : Int, ∃ f12_72 : Int, ∃ f13_73 : Nat, w_56[a0]? = some (zob 4 [zp f0_60, zp f1_61, zj f2_62, zj f3_63, zj f4_64, zj f5_65, zj f6_66, zp f7_67, zp f8_68, zj f9_69, zj f10_70, zj f11_71, zj f12_72, zp f13_73]) ∧ (∃ f0_75 : Nat, ∃ f1_76 : Nat, ∃ f2_77 : Int, w_56[f1_61]? = some (zob 3 [zp f0_75, zp f1_76, zj f2_77]) ∧ (∃ r_80 : Int, ∃ w_78 : List zE, Zc sc 26 [zp f1_61, zj r_18] w_56 (some (zj r_80)) w_78 0 0 ∧ (∃ f0_82 : Nat, ∃ f1_83 : Nat, ∃ f2_84 : Int, ∃ f3_85 : Int, ∃ f4_86 : Int, ∃ f5_87 : Int, ∃ f6_88 : Int, ∃ f7_89 : Nat, ∃ f8_90 : Nat, ∃ f9_91 : Int, ∃ f10_92 : Int, ∃ f11_93 : Int, ∃ f12_94 : Int, ∃ f13_95 : Nat, w_78[a0]? = some (zob 4 [zp f0_82, zp f1_83, zj f2_84, zj f3_85, zj f4_86, zj f5_87, zj f6_88, zp f7_89, zp f8_90, zj f9_91, zj f10_92, zj f11_93, zj f12_94, zp f13_95]) ∧ (∃ r_98 : Int, ∃ w_96 : List zE, Zc sc 67 [zp a0, zj r_80, zj x3] w_78 (some (zj r_98)) w_96 0 0 ∧ (∃ f0_100 : Nat, ∃ f1_101 : Nat, ∃ f2_102 : Int, ∃ f3_103 : Int, ∃ f4_104 : Int, ∃ f5_105 : Int, ∃ f6_106 : Int, ∃ f7_107 : Nat, ∃ f8_108 : Nat, ∃ f9_109 : Int, ∃ f10_110 : Int, ∃ f11_111 : Int, ∃ f12_112 : Int, ∃ f13_113 : Nat, w_96[a0]? = some (zob 4 [zp f0_100, zp f1_101, zj f2_102, zj f3_103, zj f4_104, zj f5_105, zj f6_106, zp f7_107, zp f8_108, zj f9_109, zj f10_110, zj f11_111, zj f12_112, zp f13_113]) ∧ (∃ w_114 : List zE, Zc sc 64 [zp a0, zj 1, zj r_98] w_96 none w_114 0 0 ∧ (∃ f0_117 : Nat, ∃ f1_118 : Nat, ∃ f2_119 : Int, ∃ f3_120 : Int, ∃ f4_121 : Int, ∃ f5_122 : Int, ∃ f6_123 : Int, ∃ f7_124 : Nat, ∃ f8_125 : Nat, ∃ f9_126 : Int, ∃ f10_127 : Int, ∃ f11_128 : Int, ∃ f12_129 : Int, ∃ f13_130 : Nat, w_114[a0]? = some (zob 4 [zp f0_117, zp f1_118, zj f2_119, zj f3_120, zj f4_121, zj f5_122, zj f6_123, zp f7_124, zp f8_125, zj f9_126, zj f10_127, zj f11_128, zj f12_129, zp f13_130]) ∧ (∃ f0_132 : Nat, ∃ f1_133 : Nat, ∃ f2_134 : Nat, ∃ f3_135 : Nat, ∃ f4_136 : Int, ∃ f5_137 : Int, w_114[f0_117]? = some (zob 0 [zp f0_132, zp f1_133, zp f2_134, zp f3_135, zj f4_136, zj f5_137]) ∧ (∃ w_138 : List zE, Zc sc 68 [zp f0_117, zj x1, zj r_58, zj x2, zj x3] w_114 none w_138 0 0 ∧ (∃ f0_141 : Nat, ∃ f1_142 : Nat, ∃ f2_143 : Int, ∃ f3_144 : Int, ∃ f4_145 : Int, ∃ f5_146 : Int, ∃ f6_147 : Int, ∃ f7_148 : Nat, ∃ f8_149 : Nat, ∃ f9_150 : Int, ∃ f10_151 : Int, ∃ f11_152 : Int, ∃ f12_153 : Int, ∃ f13_154 : Nat, w_138[a0]? = some (zob 4 [zp f0_141, zp f1_142, zj f2_143, zj f3_144, zj f4_145, zj f5_146, zj f6_147, zp f7_148, zp f8_149, zj f9_150, zj f10_151, zj f11_152, zj f12_153, zp f13_154]) ∧ (∃ w_155 : List zE, Zc sc 69 [zp a0] w_138 none w_155 0 0 ∧ (∃ f0_158 : Nat, ∃ f1_159 : Nat, ∃ f2_160 : Int, ∃ f3_161 : Int, ∃ f4_162 : Int, ∃ f5_163 : Int, ∃ f6_164 : Int, ∃ f7_165 : Nat, ∃ f8_166 : Nat, ∃ f9_167 : Int, ∃ f10_168 : Int, ∃ f11_169 : Int, ∃ f12_170 : Int, ∃ f13_171 : Nat, w_155[a0]? = some (zob 4 [zp f0_158, zp f1_159, zj f2_160, zj f3_161, zj f4_162, zj f5_163, zj f6_164, zp f7_165, zp f8_166, zj f9_167, zj f10_168, zj f11_169, zj f12_170, zp f13_171]) ∧ ((zrg f2_160 ∧ zrg 1) ∧ ((f2_160 ≠ 1 → (ov = some (zj 1) ∧ w' = w_155 ∧ c = 0 ∧ s = 0)) ∧ (¬ (f2_160 ≠ 1) → (∃ w_173 : List zE, Zc sc 81 [zp a0, zj (r_58 + x3)] w_155 none w_173 0 0 ∧ (ov = some (zj 1) ∧ w' = w_173 ∧ c = 0 ∧ s = 0)))))))))))))))))))))) ∧ (¬ (0 ≤ r_18) → (∃ f0_176 : Nat, ∃ f1_177 : Nat, ∃ f2_178 : Int, ∃ f3_179 : Int, ∃ f4_180 : Int, ∃ f5_181 : Int, ∃ f6_182 : Int, ∃ f7_183 : Nat, ∃ f8_184 : Nat, ∃ f9_185 : Int, ∃ f10_186 : Int, ∃ f11_187 : Int, ∃ f12_188 : Int, ∃ f13_189 : Nat, w_34[a0]? = some (zob 4 [zp f0_176, zp f1_177, zj f2_178, zj f3_179, zj f4_180, zj f5_181, zj f6_182, zp f7_183, zp f8_184, zj f9_185, zj f10_186, zj f11_187, zj f12_188, zp f13_189]) ∧ (∃ w_190 : List zE, Zc sc 64 [zp a0, zj 4, zj 1] w_34 none w_190 0 0 ∧ (ov = some (zj 0) ∧ w' = w_190 ∧ c = 0 ∧ s = 0))))))))))) : Zr sc 63 0 [zp a0, zj x1, zj x2, zj x3, zmk, zmk] [] w ov w' c s := by
  refine Zr_st (q := (1, [zp a0, zj x1, zj x2, zj x3, zmk, zmk], [zp a0])) rfl rfl rfl ?_
  show Zr sc 63 1 [zp a0, zj x1, zj x2, zj x3, zmk, zmk] [zp a0] w ov w' c s
  refine Zr_st (q := (2, [zp a0, zj x1, zj x2, zj x3, zmk, zmk], [zj x3, zp a0])) rfl rfl rfl ?_
  show Zr sc 63 2 [zp a0, zj x1, zj x2, zj x3, zmk, zmk] [zj x3, zp a0] w ov w' c s
  obtain ⟨f0_2, f1_3, f2_4, f3_5, f4_6, f5_7, f6_8, f7_9, f8_10, f9_11, f10_12, f11_13, f12_14, f13_15, hw_1, h⟩ := h
  obtain ⟨r_18, w_16, hk_17, h⟩ := h
  refine rn_cal0 (ins := .invokevirtual 127) (rest := []) rfl rfl rfl rfl (zinv_v (fs := _) hw_1 rfl rfl rfl rfl) rfl rfl hk_17 ?_
  show Zr sc 63 5 [zp a0, zj x1, zj x2, zj x3, zmk, zmk] [zj r_18] w_16 ov w' c s
  refine Zr_st (q := (7, [zp a0, zj x1, zj x2, zj x3, zj r_18, zmk], [])) rfl rfl rfl ?_
  show Zr sc 63 7 [zp a0, zj x1, zj x2, zj x3, zj r_18, zmk] [] w_16 ov w' c s
  refine Zr_st (q := (8, [zp a0, zj x1, zj x2, zj x3, zj r_18, zmk], [zp a0])) rfl rfl rfl ?_
  show Zr sc 63 8 [zp a0, zj x1, zj x2, zj x3, zj r_18, zmk] [zp a0] w_16 ov w' c s
  refine rl_ic rfl ?_
  show Zr sc 63 9 [zp a0, zj x1, zj x2, zj x3, zj r_18, zmk] [zj 0, zp a0] w_16 ov w' c s
  refine Zr_st (q := (10, [zp a0, zj x1, zj x2, zj x3, zj r_18, zmk], [zp a0, zj 0, zp a0])) rfl rfl rfl ?_
  show Zr sc 63 10 [zp a0, zj x1, zj x2, zj x3, zj r_18, zmk] [zp a0, zj 0, zp a0] w_16 ov w' c s
  obtain ⟨f0_20, f1_21, f2_22, f3_23, f4_24, f5_25, f6_26, f7_27, f8_28, f9_29, f10_30, f11_31, f12_32, f13_33, hw_19, h⟩ := h
  refine rl_gf rfl hw_19 rfl rfl ?_
  show Zr sc 63 13 [zp a0, zj x1, zj x2, zj x3, zj r_18, zmk] [zj f6_26, zj 0, zp a0] w_16 ov w' c s
  obtain ⟨w_34, hk_35, h⟩ := h
  refine rn_cal0 (ins := .invokevirtual 169) (rest := []) rfl rfl rfl rfl (zinv_v (fs := _) hw_19 rfl rfl rfl rfl) rfl rfl hk_35 ?_
  show Zr sc 63 16 [zp a0, zj x1, zj x2, zj x3, zj r_18, zmk] [] w_34 ov w' c s
  refine Zr_st (q := (18, [zp a0, zj x1, zj x2, zj x3, zj r_18, zmk], [zj r_18])) rfl rfl rfl ?_
  show Zr sc 63 18 [zp a0, zj x1, zj x2, zj x3, zj r_18, zmk] [zj r_18] w_34 ov w' c s
  obtain ⟨hr_36, h⟩ := h
  refine Zr_b0 (p := 0 ≤ r_18) rfl rfl (zcmp_0 (cnd := .ge) hr_36) (fun hp => ?_) (fun hp => ?_)
  · replace h := h.1 hp
    show Zr sc 63 29 [zp a0, zj x1, zj x2, zj x3, zj r_18, zmk] [] w_34 ov w' c s
    refine Zr_st (q := (30, [zp a0, zj x1, zj x2, zj x3, zj r_18, zmk], [zp a0])) rfl rfl rfl ?_
    show Zr sc 63 30 [zp a0, zj x1, zj x2, zj x3, zj r_18, zmk] [zp a0] w_34 ov w' c s
    obtain ⟨f0_38, f1_39, f2_40, f3_41, f4_42, f5_43, f6_44, f7_45, f8_46, f9_47, f10_48, f11_49, f12_50, f13_51, hw_37, h⟩ := h
    refine rl_gf rfl hw_37 rfl rfl ?_
    show Zr sc 63 33 [zp a0, zj x1, zj x2, zj x3, zj r_18, zmk] [zp f1_39] w_34 ov w' c s
    refine Zr_st (q := (35, [zp a0, zj x1, zj x2, zj x3, zj r_18, zmk], [zj r_18, zp f1_39])) rfl rfl rfl ?_
    show Zr sc 63 35 [zp a0, zj x1, zj x2, zj x3, zj r_18, zmk] [zj r_18, zp f1_39] w_34 ov w' c s
    obtain ⟨f0_53, f1_54, f2_55, hw_52, h⟩ := h
    obtain ⟨r_58, w_56, hk_57, h⟩ := h
    refine rn_cal0 (ins := .invokevirtual 130) (rest := []) rfl rfl rfl rfl (zinv_v (fs := _) hw_52 rfl rfl rfl rfl) rfl rfl hk_57 ?_
    show Zr sc 63 38 [zp a0, zj x1, zj x2, zj x3, zj r_18, zmk] [zj r_58] w_56 ov w' c s
    refine Zr_st (q := (40, [zp a0, zj x1, zj x2, zj x3, zj r_18, zj r_58], [])) rfl rfl rfl ?_
    show Zr sc 63 40 [zp a0, zj x1, zj x2, zj x3, zj r_18, zj r_58] [] w_56 ov w' c s
    refine Zr_st (q := (41, [zp a0, zj x1, zj x2, zj x3, zj r_18, zj r_58], [zp a0])) rfl rfl rfl ?_
    show Zr sc 63 41 [zp a0, zj x1, zj x2, zj x3, zj r_18, zj r_58] [zp a0] w_56 ov w' c s
    refine rl_ic rfl ?_
    show Zr sc 63 42 [zp a0, zj x1, zj x2, zj x3, zj r_18, zj r_58] [zj 1, zp a0] w_56 ov w' c s
    refine Zr_st (q := (43, [zp a0, zj x1, zj x2, zj x3, zj r_18, zj r_58], [zp a0, zj 1, zp a0])) rfl rfl rfl ?_
    show Zr sc 63 43 [zp a0, zj x1, zj x2, zj x3, zj r_18, zj r_58] [zp a0, zj 1, zp a0] w_56 ov w' c s
    refine Zr_st (q := (44, [zp a0, zj x1, zj x2, zj x3, zj r_18, zj r_58], [zp a0, zp a0, zj 1, zp a0])) rfl rfl rfl ?_
    show Zr sc 63 44 [zp a0, zj x1, zj x2, zj x3, zj r_18, zj r_58] [zp a0, zp a0, zj 1, zp a0] w_56 ov w' c s
    obtain ⟨f0_60, f1_61, f2_62, f3_63, f4_64, f5_65, f6_66, f7_67, f8_68, f9_69, f10_70, f11_71, f12_72, f13_73, hw_59, h⟩ := h
    refine rl_gf rfl hw_59 rfl rfl ?_
    show Zr sc 63 47 [zp a0, zj x1, zj x2, zj x3, zj r_18, zj r_58] [zp f1_61, zp a0, zj 1, zp a0] w_56 ov w' c s
    refine Zr_st (q := (49, [zp a0, zj x1, zj x2, zj x3, zj r_18, zj r_58], [zj r_18, zp f1_61, zp a0, zj 1, zp a0])) rfl rfl rfl ?_
    show Zr sc 63 49 [zp a0, zj x1, zj x2, zj x3, zj r_18, zj r_58] [zj r_18, zp f1_61, zp a0, zj 1, zp a0] w_56 ov w' c s
    obtain ⟨f0_75, f1_76, f2_77, hw_74, h⟩ := h
    obtain ⟨r_80, w_78, hk_79, h⟩ := h
    refine rn_cal0 (ins := .invokevirtual 46) (rest := [zp a0, zj 1, zp a0]) rfl rfl rfl rfl (zinv_v (fs := _) hw_74 rfl rfl rfl rfl) rfl rfl hk_79 ?_
    show Zr sc 63 52 [zp a0, zj x1, zj x2, zj x3, zj r_18, zj r_58] [zj r_80, zp a0, zj 1, zp a0] w_78 ov w' c s
    refine Zr_st (q := (53, [zp a0, zj x1, zj x2, zj x3, zj r_18, zj r_58], [zj x3, zj r_80, zp a0, zj 1, zp a0])) rfl rfl rfl ?_
    show Zr sc 63 53 [zp a0, zj x1, zj x2, zj x3, zj r_18, zj r_58] [zj x3, zj r_80, zp a0, zj 1, zp a0] w_78 ov w' c s
    obtain ⟨f0_82, f1_83, f2_84, f3_85, f4_86, f5_87, f6_88, f7_89, f8_90, f9_91, f10_92, f11_93, f12_94, f13_95, hw_81, h⟩ := h
    obtain ⟨r_98, w_96, hk_97, h⟩ := h
    refine rn_cal0 (ins := .invokevirtual 49) (rest := [zj 1, zp a0]) rfl rfl rfl rfl (zinv_v (fs := _) hw_81 rfl rfl rfl rfl) rfl rfl hk_97 ?_
    show Zr sc 63 56 [zp a0, zj x1, zj x2, zj x3, zj r_18, zj r_58] [zj r_98, zj 1, zp a0] w_96 ov w' c s
    obtain ⟨f0_100, f1_101, f2_102, f3_103, f4_104, f5_105, f6_106, f7_107, f8_108, f9_109, f10_110, f11_111, f12_112, f13_113, hw_99, h⟩ := h
    obtain ⟨w_114, hk_115, h⟩ := h
    refine rn_cal0 (ins := .invokevirtual 169) (rest := []) rfl rfl rfl rfl (zinv_v (fs := _) hw_99 rfl rfl rfl rfl) rfl rfl hk_115 ?_
    show Zr sc 63 59 [zp a0, zj x1, zj x2, zj x3, zj r_18, zj r_58] [] w_114 ov w' c s
    refine Zr_st (q := (60, [zp a0, zj x1, zj x2, zj x3, zj r_18, zj r_58], [zp a0])) rfl rfl rfl ?_
    show Zr sc 63 60 [zp a0, zj x1, zj x2, zj x3, zj r_18, zj r_58] [zp a0] w_114 ov w' c s
    obtain ⟨f0_117, f1_118, f2_119, f3_120, f4_121, f5_122, f6_123, f7_124, f8_125, f9_126, f10_127, f11_128, f12_129, f13_130, hw_116, h⟩ := h
    refine rl_gf rfl hw_116 rfl rfl ?_
    show Zr sc 63 63 [zp a0, zj x1, zj x2, zj x3, zj r_18, zj r_58] [zp f0_117] w_114 ov w' c s
    refine Zr_st (q := (64, [zp a0, zj x1, zj x2, zj x3, zj r_18, zj r_58], [zj x1, zp f0_117])) rfl rfl rfl ?_
    show Zr sc 63 64 [zp a0, zj x1, zj x2, zj x3, zj r_18, zj r_58] [zj x1, zp f0_117] w_114 ov w' c s
    refine Zr_st (q := (66, [zp a0, zj x1, zj x2, zj x3, zj r_18, zj r_58], [zj r_58, zj x1, zp f0_117])) rfl rfl rfl ?_
    show Zr sc 63 66 [zp a0, zj x1, zj x2, zj x3, zj r_18, zj r_58] [zj r_58, zj x1, zp f0_117] w_114 ov w' c s
    refine Zr_st (q := (67, [zp a0, zj x1, zj x2, zj x3, zj r_18, zj r_58], [zj x2, zj r_58, zj x1, zp f0_117])) rfl rfl rfl ?_
    show Zr sc 63 67 [zp a0, zj x1, zj x2, zj x3, zj r_18, zj r_58] [zj x2, zj r_58, zj x1, zp f0_117] w_114 ov w' c s
    refine Zr_st (q := (68, [zp a0, zj x1, zj x2, zj x3, zj r_18, zj r_58], [zj x3, zj x2, zj r_58, zj x1, zp f0_117])) rfl rfl rfl ?_
    show Zr sc 63 68 [zp a0, zj x1, zj x2, zj x3, zj r_18, zj r_58] [zj x3, zj x2, zj r_58, zj x1, zp f0_117] w_114 ov w' c s
    obtain ⟨f0_132, f1_133, f2_134, f3_135, f4_136, f5_137, hw_131, h⟩ := h
    obtain ⟨w_138, hk_139, h⟩ := h
    refine rn_cal0 (ins := .invokevirtual 144) (rest := []) rfl rfl rfl rfl (zinv_v (fs := _) hw_131 rfl rfl rfl rfl) rfl rfl hk_139 ?_
    show Zr sc 63 71 [zp a0, zj x1, zj x2, zj x3, zj r_18, zj r_58] [] w_138 ov w' c s
    refine Zr_st (q := (72, [zp a0, zj x1, zj x2, zj x3, zj r_18, zj r_58], [zp a0])) rfl rfl rfl ?_
    show Zr sc 63 72 [zp a0, zj x1, zj x2, zj x3, zj r_18, zj r_58] [zp a0] w_138 ov w' c s
    obtain ⟨f0_141, f1_142, f2_143, f3_144, f4_145, f5_146, f6_147, f7_148, f8_149, f9_150, f10_151, f11_152, f12_153, f13_154, hw_140, h⟩ := h
    obtain ⟨w_155, hk_156, h⟩ := h
    refine rn_cal0 (ins := .invokevirtual 77) (rest := []) rfl rfl rfl rfl (zinv_v (fs := _) hw_140 rfl rfl rfl rfl) rfl rfl hk_156 ?_
    show Zr sc 63 75 [zp a0, zj x1, zj x2, zj x3, zj r_18, zj r_58] [] w_155 ov w' c s
    refine Zr_st (q := (76, [zp a0, zj x1, zj x2, zj x3, zj r_18, zj r_58], [zp a0])) rfl rfl rfl ?_
    show Zr sc 63 76 [zp a0, zj x1, zj x2, zj x3, zj r_18, zj r_58] [zp a0] w_155 ov w' c s
    obtain ⟨f0_158, f1_159, f2_160, f3_161, f4_162, f5_163, f6_164, f7_165, f8_166, f9_167, f10_168, f11_169, f12_170, f13_171, hw_157, h⟩ := h
    refine rl_gf rfl hw_157 rfl rfl ?_
    show Zr sc 63 79 [zp a0, zj x1, zj x2, zj x3, zj r_18, zj r_58] [zj f2_160] w_155 ov w' c s
    refine rl_ic rfl ?_
    show Zr sc 63 80 [zp a0, zj x1, zj x2, zj x3, zj r_18, zj r_58] [zj 1, zj f2_160] w_155 ov w' c s
    obtain ⟨hr_172, h⟩ := h
    refine Zr_br (p := f2_160 ≠ 1) rfl rfl (zcmp_j (cnd := .ne) hr_172.1 hr_172.2) (fun hp => ?_) (fun hp => ?_)
    · replace h := h.1 hp
      show Zr sc 63 91 [zp a0, zj x1, zj x2, zj x3, zj r_18, zj r_58] [] w_155 ov w' c s
      refine rl_ic rfl ?_
      show Zr sc 63 92 [zp a0, zj x1, zj x2, zj x3, zj r_18, zj r_58] [zj 1] w_155 ov w' c s
      obtain ⟨h1, h2, h3, h4⟩ := h
      subst h1; subst h2; subst h3; subst h4
      exact Zr_ret (ins := .ireturn) rfl rfl
    · replace h := h.2 hp
      show Zr sc 63 83 [zp a0, zj x1, zj x2, zj x3, zj r_18, zj r_58] [] w_155 ov w' c s
      refine Zr_st (q := (84, [zp a0, zj x1, zj x2, zj x3, zj r_18, zj r_58], [zp a0])) rfl rfl rfl ?_
      show Zr sc 63 84 [zp a0, zj x1, zj x2, zj x3, zj r_18, zj r_58] [zp a0] w_155 ov w' c s
      refine Zr_st (q := (86, [zp a0, zj x1, zj x2, zj x3, zj r_18, zj r_58], [zj r_58, zp a0])) rfl rfl rfl ?_
      show Zr sc 63 86 [zp a0, zj x1, zj x2, zj x3, zj r_18, zj r_58] [zj r_58, zp a0] w_155 ov w' c s
      refine Zr_st (q := (87, [zp a0, zj x1, zj x2, zj x3, zj r_18, zj r_58], [zj x3, zj r_58, zp a0])) rfl rfl rfl ?_
      show Zr sc 63 87 [zp a0, zj x1, zj x2, zj x3, zj r_18, zj r_58] [zj x3, zj r_58, zp a0] w_155 ov w' c s
      refine rl_add rfl ?_
      show Zr sc 63 88 [zp a0, zj x1, zj x2, zj x3, zj r_18, zj r_58] [zj (r_58 + x3), zp a0] w_155 ov w' c s
      obtain ⟨w_173, hk_174, h⟩ := h
      refine rn_cal0 (ins := .invokevirtual 172) (rest := []) rfl rfl rfl rfl (zinv_v (fs := _) hw_157 rfl rfl rfl rfl) rfl rfl hk_174 ?_
      show Zr sc 63 91 [zp a0, zj x1, zj x2, zj x3, zj r_18, zj r_58] [] w_173 ov w' c s
      refine rl_ic rfl ?_
      show Zr sc 63 92 [zp a0, zj x1, zj x2, zj x3, zj r_18, zj r_58] [zj 1] w_173 ov w' c s
      obtain ⟨h1, h2, h3, h4⟩ := h
      subst h1; subst h2; subst h3; subst h4
      exact Zr_ret (ins := .ireturn) rfl rfl
  · replace h := h.2 hp
    show Zr sc 63 21 [zp a0, zj x1, zj x2, zj x3, zj r_18, zmk] [] w_34 ov w' c s
    refine Zr_st (q := (22, [zp a0, zj x1, zj x2, zj x3, zj r_18, zmk], [zp a0])) rfl rfl rfl ?_
    show Zr sc 63 22 [zp a0, zj x1, zj x2, zj x3, zj r_18, zmk] [zp a0] w_34 ov w' c s
    refine rl_ic rfl ?_
    show Zr sc 63 23 [zp a0, zj x1, zj x2, zj x3, zj r_18, zmk] [zj 4, zp a0] w_34 ov w' c s
    refine rl_ic rfl ?_
    show Zr sc 63 24 [zp a0, zj x1, zj x2, zj x3, zj r_18, zmk] [zj 1, zj 4, zp a0] w_34 ov w' c s
    obtain ⟨f0_176, f1_177, f2_178, f3_179, f4_180, f5_181, f6_182, f7_183, f8_184, f9_185, f10_186, f11_187, f12_188, f13_189, hw_175, h⟩ := h
    obtain ⟨w_190, hk_191, h⟩ := h
    refine rn_cal0 (ins := .invokevirtual 169) (rest := []) rfl rfl rfl rfl (zinv_v (fs := _) hw_175 rfl rfl rfl rfl) rfl rfl hk_191 ?_
    show Zr sc 63 27 [zp a0, zj x1, zj x2, zj x3, zj r_18, zmk] [] w_190 ov w' c s
    refine rl_ic rfl ?_
    show Zr sc 63 28 [zp a0, zj x1, zj x2, zj x3, zj r_18, zmk] [zj 0] w_190 ov w' c s
    obtain ⟨h1, h2, h3, h4⟩ := h
    subst h1; subst h2; subst h3; subst h4
    exact Zr_ret (ins := .ireturn) rfl rfl

-- HeapwrightLab$Memory.count(II)V
set_option maxRecDepth 100000 in
theorem V64_0_1 {sc : List Value} {w w' : List zE} {ov : Option Value} {c s : Nat} {a0 : Nat} {x1 : Int} {x2 : Int} (h : ((zrg x1) ∧ ((x1 < 0 → (ov = none ∧ w' = w ∧ c = 0 ∧ s = 0)) ∧ (¬ (x1 < 0) → ((zrg x1 ∧ zrg 5) ∧ ((5 ≤ x1 → (ov = none ∧ w' = w ∧ c = 0 ∧ s = 0)) ∧ (¬ (5 ≤ x1) → (∃ f0_4 : Nat, ∃ f1_5 : Nat, ∃ f2_6 : Int, ∃ f3_7 : Int, ∃ f4_8 : Int, ∃ f5_9 : Int, ∃ f6_10 : Int, ∃ f7_11 : Nat, ∃ f8_12 : Nat, ∃ f9_13 : Int, ∃ f10_14 : Int, ∃ f11_15 : Int, ∃ f12_16 : Int, w[a0]? = some (zob 1 [zp f0_4, zp f1_5, zj f2_6, zj f3_7, zj f4_8, zj f5_9, zj f6_10, zp f7_11, zp f8_12, zj f9_13, zj f10_14, zj f11_15, zj f12_16]) ∧ (∃ l_19 : List Int, w[f7_11]? = some (za l_19) ∧ ((0 ≤ x1 ∧ x1 < (l_19.length : Int) ∧ x1 ≤ 2147483647) ∧ ((0 ≤ x1 ∧ x1 < (l_19.length : Int) ∧ x1 ≤ 2147483647) ∧ (ov = none ∧ w' = (w.set f7_11 (za (zsi l_19 x1 ((zgi l_19 x1) + x2)))) ∧ c = 0 ∧ s = 0)))))))))))) : Zr sc 64 0 [zp a0, zj x1, zj x2] [] w ov w' c s := by
  refine Zr_st (q := (1, [zp a0, zj x1, zj x2], [zj x1])) rfl rfl rfl ?_
  show Zr sc 64 1 [zp a0, zj x1, zj x2] [zj x1] w ov w' c s
  obtain ⟨hr_1, h⟩ := h
  refine Zr_b0 (p := x1 < 0) rfl rfl (zcmp_0 (cnd := .lt) hr_1) (fun hp => ?_) (fun hp => ?_)
  · replace h := h.1 hp
    show Zr sc 64 19 [zp a0, zj x1, zj x2] [] w ov w' c s
    obtain ⟨h1, h2, h3, h4⟩ := h
    subst h1; subst h2; subst h3; subst h4
    exact Zr_ret (ins := .return_) rfl rfl
  · replace h := h.2 hp
    show Zr sc 64 4 [zp a0, zj x1, zj x2] [] w ov w' c s
    refine Zr_st (q := (5, [zp a0, zj x1, zj x2], [zj x1])) rfl rfl rfl ?_
    show Zr sc 64 5 [zp a0, zj x1, zj x2] [zj x1] w ov w' c s
    refine rl_ic rfl ?_
    show Zr sc 64 6 [zp a0, zj x1, zj x2] [zj 5, zj x1] w ov w' c s
    obtain ⟨hr_2, h⟩ := h
    refine Zr_br (p := 5 ≤ x1) rfl rfl (zcmp_j (cnd := .ge) hr_2.1 hr_2.2) (fun hp => ?_) (fun hp => ?_)
    · replace h := h.1 hp
      show Zr sc 64 19 [zp a0, zj x1, zj x2] [] w ov w' c s
      obtain ⟨h1, h2, h3, h4⟩ := h
      subst h1; subst h2; subst h3; subst h4
      exact Zr_ret (ins := .return_) rfl rfl
    · replace h := h.2 hp
      show Zr sc 64 9 [zp a0, zj x1, zj x2] [] w ov w' c s
      refine Zr_st (q := (10, [zp a0, zj x1, zj x2], [zp a0])) rfl rfl rfl ?_
      show Zr sc 64 10 [zp a0, zj x1, zj x2] [zp a0] w ov w' c s
      obtain ⟨f0_4, f1_5, f2_6, f3_7, f4_8, f5_9, f6_10, f7_11, f8_12, f9_13, f10_14, f11_15, f12_16, hw_3, h⟩ := h
      refine rl_gf rfl hw_3 rfl rfl ?_
      show Zr sc 64 13 [zp a0, zj x1, zj x2] [zp f7_11] w ov w' c s
      refine Zr_st (q := (14, [zp a0, zj x1, zj x2], [zj x1, zp f7_11])) rfl rfl rfl ?_
      show Zr sc 64 14 [zp a0, zj x1, zj x2] [zj x1, zp f7_11] w ov w' c s
      refine Zr_st (q := (15, [zp a0, zj x1, zj x2], [zj x1, zp f7_11, zj x1, zp f7_11])) rfl rfl rfl ?_
      show Zr sc 64 15 [zp a0, zj x1, zj x2] [zj x1, zp f7_11, zj x1, zp f7_11] w ov w' c s
      obtain ⟨l_19, hw_18, h⟩ := h
      obtain ⟨hi_17, h⟩ := h
      refine rl_ia rfl hw_18 hi_17.1 hi_17.2.1 hi_17.2.2 ?_
      show Zr sc 64 16 [zp a0, zj x1, zj x2] [zj (zgi l_19 x1), zj x1, zp f7_11] w ov w' c s
      refine Zr_st (q := (17, [zp a0, zj x1, zj x2], [zj x2, zj (zgi l_19 x1), zj x1, zp f7_11])) rfl rfl rfl ?_
      show Zr sc 64 17 [zp a0, zj x1, zj x2] [zj x2, zj (zgi l_19 x1), zj x1, zp f7_11] w ov w' c s
      refine rl_add rfl ?_
      show Zr sc 64 18 [zp a0, zj x1, zj x2] [zj ((zgi l_19 x1) + x2), zj x1, zp f7_11] w ov w' c s
      obtain ⟨hi_20, h⟩ := h
      refine rl_is rfl hw_18 hi_20.1 hi_20.2.1 hi_20.2.2 ?_
      show Zr sc 64 19 [zp a0, zj x1, zj x2] [] (w.set f7_11 (za (zsi l_19 x1 ((zgi l_19 x1) + x2)))) ov w' c s
      obtain ⟨h1, h2, h3, h4⟩ := h
      subst h1; subst h2; subst h3; subst h4
      exact Zr_ret (ins := .return_) rfl rfl

-- HeapwrightLab$Memory.count(II)V
set_option maxRecDepth 100000 in
theorem V64_0_2 {sc : List Value} {w w' : List zE} {ov : Option Value} {c s : Nat} {a0 : Nat} {x1 : Int} {x2 : Int} (h : ((zrg x1) ∧ ((x1 < 0 → (ov = none ∧ w' = w ∧ c = 0 ∧ s = 0)) ∧ (¬ (x1 < 0) → ((zrg x1 ∧ zrg 5) ∧ ((5 ≤ x1 → (ov = none ∧ w' = w ∧ c = 0 ∧ s = 0)) ∧ (¬ (5 ≤ x1) → (∃ f0_4 : Nat, ∃ f1_5 : Nat, ∃ f2_6 : Int, ∃ f3_7 : Int, ∃ f4_8 : Int, ∃ f5_9 : Int, ∃ f6_10 : Int, ∃ f7_11 : Nat, ∃ f8_12 : Nat, ∃ f9_13 : Int, ∃ f10_14 : Int, ∃ f11_15 : Int, ∃ f12_16 : Int, w[a0]? = some (zob 2 [zp f0_4, zp f1_5, zj f2_6, zj f3_7, zj f4_8, zj f5_9, zj f6_10, zp f7_11, zp f8_12, zj f9_13, zj f10_14, zj f11_15, zj f12_16]) ∧ (∃ l_19 : List Int, w[f7_11]? = some (za l_19) ∧ ((0 ≤ x1 ∧ x1 < (l_19.length : Int) ∧ x1 ≤ 2147483647) ∧ ((0 ≤ x1 ∧ x1 < (l_19.length : Int) ∧ x1 ≤ 2147483647) ∧ (ov = none ∧ w' = (w.set f7_11 (za (zsi l_19 x1 ((zgi l_19 x1) + x2)))) ∧ c = 0 ∧ s = 0)))))))))))) : Zr sc 64 0 [zp a0, zj x1, zj x2] [] w ov w' c s := by
  refine Zr_st (q := (1, [zp a0, zj x1, zj x2], [zj x1])) rfl rfl rfl ?_
  show Zr sc 64 1 [zp a0, zj x1, zj x2] [zj x1] w ov w' c s
  obtain ⟨hr_1, h⟩ := h
  refine Zr_b0 (p := x1 < 0) rfl rfl (zcmp_0 (cnd := .lt) hr_1) (fun hp => ?_) (fun hp => ?_)
  · replace h := h.1 hp
    show Zr sc 64 19 [zp a0, zj x1, zj x2] [] w ov w' c s
    obtain ⟨h1, h2, h3, h4⟩ := h
    subst h1; subst h2; subst h3; subst h4
    exact Zr_ret (ins := .return_) rfl rfl
  · replace h := h.2 hp
    show Zr sc 64 4 [zp a0, zj x1, zj x2] [] w ov w' c s
    refine Zr_st (q := (5, [zp a0, zj x1, zj x2], [zj x1])) rfl rfl rfl ?_
    show Zr sc 64 5 [zp a0, zj x1, zj x2] [zj x1] w ov w' c s
    refine rl_ic rfl ?_
    show Zr sc 64 6 [zp a0, zj x1, zj x2] [zj 5, zj x1] w ov w' c s
    obtain ⟨hr_2, h⟩ := h
    refine Zr_br (p := 5 ≤ x1) rfl rfl (zcmp_j (cnd := .ge) hr_2.1 hr_2.2) (fun hp => ?_) (fun hp => ?_)
    · replace h := h.1 hp
      show Zr sc 64 19 [zp a0, zj x1, zj x2] [] w ov w' c s
      obtain ⟨h1, h2, h3, h4⟩ := h
      subst h1; subst h2; subst h3; subst h4
      exact Zr_ret (ins := .return_) rfl rfl
    · replace h := h.2 hp
      show Zr sc 64 9 [zp a0, zj x1, zj x2] [] w ov w' c s
      refine Zr_st (q := (10, [zp a0, zj x1, zj x2], [zp a0])) rfl rfl rfl ?_
      show Zr sc 64 10 [zp a0, zj x1, zj x2] [zp a0] w ov w' c s
      obtain ⟨f0_4, f1_5, f2_6, f3_7, f4_8, f5_9, f6_10, f7_11, f8_12, f9_13, f10_14, f11_15, f12_16, hw_3, h⟩ := h
      refine rl_gf rfl hw_3 rfl rfl ?_
      show Zr sc 64 13 [zp a0, zj x1, zj x2] [zp f7_11] w ov w' c s
      refine Zr_st (q := (14, [zp a0, zj x1, zj x2], [zj x1, zp f7_11])) rfl rfl rfl ?_
      show Zr sc 64 14 [zp a0, zj x1, zj x2] [zj x1, zp f7_11] w ov w' c s
      refine Zr_st (q := (15, [zp a0, zj x1, zj x2], [zj x1, zp f7_11, zj x1, zp f7_11])) rfl rfl rfl ?_
      show Zr sc 64 15 [zp a0, zj x1, zj x2] [zj x1, zp f7_11, zj x1, zp f7_11] w ov w' c s
      obtain ⟨l_19, hw_18, h⟩ := h
      obtain ⟨hi_17, h⟩ := h
      refine rl_ia rfl hw_18 hi_17.1 hi_17.2.1 hi_17.2.2 ?_
      show Zr sc 64 16 [zp a0, zj x1, zj x2] [zj (zgi l_19 x1), zj x1, zp f7_11] w ov w' c s
      refine Zr_st (q := (17, [zp a0, zj x1, zj x2], [zj x2, zj (zgi l_19 x1), zj x1, zp f7_11])) rfl rfl rfl ?_
      show Zr sc 64 17 [zp a0, zj x1, zj x2] [zj x2, zj (zgi l_19 x1), zj x1, zp f7_11] w ov w' c s
      refine rl_add rfl ?_
      show Zr sc 64 18 [zp a0, zj x1, zj x2] [zj ((zgi l_19 x1) + x2), zj x1, zp f7_11] w ov w' c s
      obtain ⟨hi_20, h⟩ := h
      refine rl_is rfl hw_18 hi_20.1 hi_20.2.1 hi_20.2.2 ?_
      show Zr sc 64 19 [zp a0, zj x1, zj x2] [] (w.set f7_11 (za (zsi l_19 x1 ((zgi l_19 x1) + x2)))) ov w' c s
      obtain ⟨h1, h2, h3, h4⟩ := h
      subst h1; subst h2; subst h3; subst h4
      exact Zr_ret (ins := .return_) rfl rfl

-- HeapwrightLab$Memory.count(II)V
set_option maxRecDepth 100000 in
theorem V64_0_4 {sc : List Value} {w w' : List zE} {ov : Option Value} {c s : Nat} {a0 : Nat} {x1 : Int} {x2 : Int} (h : ((zrg x1) ∧ ((x1 < 0 → (ov = none ∧ w' = w ∧ c = 0 ∧ s = 0)) ∧ (¬ (x1 < 0) → ((zrg x1 ∧ zrg 5) ∧ ((5 ≤ x1 → (ov = none ∧ w' = w ∧ c = 0 ∧ s = 0)) ∧ (¬ (5 ≤ x1) → (∃ f0_4 : Nat, ∃ f1_5 : Nat, ∃ f2_6 : Int, ∃ f3_7 : Int, ∃ f4_8 : Int, ∃ f5_9 : Int, ∃ f6_10 : Int, ∃ f7_11 : Nat, ∃ f8_12 : Nat, ∃ f9_13 : Int, ∃ f10_14 : Int, ∃ f11_15 : Int, ∃ f12_16 : Int, ∃ f13_17 : Nat, w[a0]? = some (zob 4 [zp f0_4, zp f1_5, zj f2_6, zj f3_7, zj f4_8, zj f5_9, zj f6_10, zp f7_11, zp f8_12, zj f9_13, zj f10_14, zj f11_15, zj f12_16, zp f13_17]) ∧ (∃ l_20 : List Int, w[f7_11]? = some (za l_20) ∧ ((0 ≤ x1 ∧ x1 < (l_20.length : Int) ∧ x1 ≤ 2147483647) ∧ ((0 ≤ x1 ∧ x1 < (l_20.length : Int) ∧ x1 ≤ 2147483647) ∧ (ov = none ∧ w' = (w.set f7_11 (za (zsi l_20 x1 ((zgi l_20 x1) + x2)))) ∧ c = 0 ∧ s = 0)))))))))))) : Zr sc 64 0 [zp a0, zj x1, zj x2] [] w ov w' c s := by
  refine Zr_st (q := (1, [zp a0, zj x1, zj x2], [zj x1])) rfl rfl rfl ?_
  show Zr sc 64 1 [zp a0, zj x1, zj x2] [zj x1] w ov w' c s
  obtain ⟨hr_1, h⟩ := h
  refine Zr_b0 (p := x1 < 0) rfl rfl (zcmp_0 (cnd := .lt) hr_1) (fun hp => ?_) (fun hp => ?_)
  · replace h := h.1 hp
    show Zr sc 64 19 [zp a0, zj x1, zj x2] [] w ov w' c s
    obtain ⟨h1, h2, h3, h4⟩ := h
    subst h1; subst h2; subst h3; subst h4
    exact Zr_ret (ins := .return_) rfl rfl
  · replace h := h.2 hp
    show Zr sc 64 4 [zp a0, zj x1, zj x2] [] w ov w' c s
    refine Zr_st (q := (5, [zp a0, zj x1, zj x2], [zj x1])) rfl rfl rfl ?_
    show Zr sc 64 5 [zp a0, zj x1, zj x2] [zj x1] w ov w' c s
    refine rl_ic rfl ?_
    show Zr sc 64 6 [zp a0, zj x1, zj x2] [zj 5, zj x1] w ov w' c s
    obtain ⟨hr_2, h⟩ := h
    refine Zr_br (p := 5 ≤ x1) rfl rfl (zcmp_j (cnd := .ge) hr_2.1 hr_2.2) (fun hp => ?_) (fun hp => ?_)
    · replace h := h.1 hp
      show Zr sc 64 19 [zp a0, zj x1, zj x2] [] w ov w' c s
      obtain ⟨h1, h2, h3, h4⟩ := h
      subst h1; subst h2; subst h3; subst h4
      exact Zr_ret (ins := .return_) rfl rfl
    · replace h := h.2 hp
      show Zr sc 64 9 [zp a0, zj x1, zj x2] [] w ov w' c s
      refine Zr_st (q := (10, [zp a0, zj x1, zj x2], [zp a0])) rfl rfl rfl ?_
      show Zr sc 64 10 [zp a0, zj x1, zj x2] [zp a0] w ov w' c s
      obtain ⟨f0_4, f1_5, f2_6, f3_7, f4_8, f5_9, f6_10, f7_11, f8_12, f9_13, f10_14, f11_15, f12_16, f13_17, hw_3, h⟩ := h
      refine rl_gf rfl hw_3 rfl rfl ?_
      show Zr sc 64 13 [zp a0, zj x1, zj x2] [zp f7_11] w ov w' c s
      refine Zr_st (q := (14, [zp a0, zj x1, zj x2], [zj x1, zp f7_11])) rfl rfl rfl ?_
      show Zr sc 64 14 [zp a0, zj x1, zj x2] [zj x1, zp f7_11] w ov w' c s
      refine Zr_st (q := (15, [zp a0, zj x1, zj x2], [zj x1, zp f7_11, zj x1, zp f7_11])) rfl rfl rfl ?_
      show Zr sc 64 15 [zp a0, zj x1, zj x2] [zj x1, zp f7_11, zj x1, zp f7_11] w ov w' c s
      obtain ⟨l_20, hw_19, h⟩ := h
      obtain ⟨hi_18, h⟩ := h
      refine rl_ia rfl hw_19 hi_18.1 hi_18.2.1 hi_18.2.2 ?_
      show Zr sc 64 16 [zp a0, zj x1, zj x2] [zj (zgi l_20 x1), zj x1, zp f7_11] w ov w' c s
      refine Zr_st (q := (17, [zp a0, zj x1, zj x2], [zj x2, zj (zgi l_20 x1), zj x1, zp f7_11])) rfl rfl rfl ?_
      show Zr sc 64 17 [zp a0, zj x1, zj x2] [zj x2, zj (zgi l_20 x1), zj x1, zp f7_11] w ov w' c s
      refine rl_add rfl ?_
      show Zr sc 64 18 [zp a0, zj x1, zj x2] [zj ((zgi l_20 x1) + x2), zj x1, zp f7_11] w ov w' c s
      obtain ⟨hi_21, h⟩ := h
      refine rl_is rfl hw_19 hi_21.1 hi_21.2.1 hi_21.2.2 ?_
      show Zr sc 64 19 [zp a0, zj x1, zj x2] [] (w.set f7_11 (za (zsi l_20 x1 ((zgi l_20 x1) + x2)))) ov w' c s
      obtain ⟨h1, h2, h3, h4⟩ := h
      subst h1; subst h2; subst h3; subst h4
      exact Zr_ret (ins := .return_) rfl rfl

-- HeapwrightLab$Buddies.splits(II)I
set_option maxRecDepth 100000 in
theorem V65_0 {sc : List Value} {w w' : List zE} {ov : Option Value} {c s : Nat} {a0 : Nat} {x1 : Int} {x2 : Int} (h : (((0 : Int) ≤ x1 ∧ x1 ≤ (2147483647 : Int) ∧ (0 : Int) < 2 ∧ 2 ≤ (2147483647 : Int)) ∧ Zr sc 65 7 [zp a0, zj x1, zj x2, zj 0, zj (x1 / 2)] [] w ov w' c s)) : Zr sc 65 0 [zp a0, zj x1, zj x2, zmk, zmk] [] w ov w' c s := by
  refine rl_ic rfl ?_
  show Zr sc 65 1 [zp a0, zj x1, zj x2, zmk, zmk] [zj 0] w ov w' c s
  refine Zr_st (q := (2, [zp a0, zj x1, zj x2, zj 0, zmk], [])) rfl rfl rfl ?_
  show Zr sc 65 2 [zp a0, zj x1, zj x2, zj 0, zmk] [] w ov w' c s
  refine Zr_st (q := (3, [zp a0, zj x1, zj x2, zj 0, zmk], [zj x1])) rfl rfl rfl ?_
  show Zr sc 65 3 [zp a0, zj x1, zj x2, zj 0, zmk] [zj x1] w ov w' c s
  refine rl_ic rfl ?_
  show Zr sc 65 4 [zp a0, zj x1, zj x2, zj 0, zmk] [zj 2, zj x1] w ov w' c s
  obtain ⟨hd_1, h⟩ := h
  refine rl_div rfl hd_1.1 hd_1.2.1 hd_1.2.2.1 hd_1.2.2.2 ?_
  show Zr sc 65 5 [zp a0, zj x1, zj x2, zj 0, zmk] [zj (x1 / 2)] w ov w' c s
  refine Zr_st (q := (7, [zp a0, zj x1, zj x2, zj 0, zj (x1 / 2)], [])) rfl rfl rfl ?_
  show Zr sc 65 7 [zp a0, zj x1, zj x2, zj 0, zj (x1 / 2)] [] w ov w' c s
  exact h
set_option maxRecDepth 100000 in
theorem V65_7 {sc : List Value} {w w' : List zE} {ov : Option Value} {c s : Nat} {a0 : Nat} {x1 : Int} {x2 : Int} {x3 : Int} {x4 : Int} (h : ((zrg x4) ∧ ((x4 ≤ 0 → (ov = some (zj x3) ∧ w' = w ∧ c = 0 ∧ s = 0)) ∧ (¬ (x4 ≤ 0) → ((zrg x4 ∧ zrg x2) ∧ ((x4 < x2 → (ov = some (zj x3) ∧ w' = w ∧ c = 0 ∧ s = 0)) ∧ (¬ (x4 < x2) → (((0 : Int) ≤ x4 ∧ x4 ≤ (2147483647 : Int) ∧ (0 : Int) < 2 ∧ 2 ≤ (2147483647 : Int)) ∧ Zr sc 65 7 [zp a0, zj x1, zj x2, zj (x3 + 1), zj (x4 / 2)] [] w ov w' c s)))))))) : Zr sc 65 7 [zp a0, zj x1, zj x2, zj x3, zj x4] [] w ov w' c s := by
  refine Zr_st (q := (9, [zp a0, zj x1, zj x2, zj x3, zj x4], [zj x4])) rfl rfl rfl ?_
  show Zr sc 65 9 [zp a0, zj x1, zj x2, zj x3, zj x4] [zj x4] w ov w' c s
  obtain ⟨hr_1, h⟩ := h
  refine Zr_b0 (p := x4 ≤ 0) rfl rfl (zcmp_0 (cnd := .le) hr_1) (fun hp => ?_) (fun hp => ?_)
  · replace h := h.1 hp
    show Zr sc 65 30 [zp a0, zj x1, zj x2, zj x3, zj x4] [] w ov w' c s
    refine Zr_st (q := (31, [zp a0, zj x1, zj x2, zj x3, zj x4], [zj x3])) rfl rfl rfl ?_
    show Zr sc 65 31 [zp a0, zj x1, zj x2, zj x3, zj x4] [zj x3] w ov w' c s
    obtain ⟨h1, h2, h3, h4⟩ := h
    subst h1; subst h2; subst h3; subst h4
    exact Zr_ret (ins := .ireturn) rfl rfl
  · replace h := h.2 hp
    show Zr sc 65 12 [zp a0, zj x1, zj x2, zj x3, zj x4] [] w ov w' c s
    refine Zr_st (q := (14, [zp a0, zj x1, zj x2, zj x3, zj x4], [zj x4])) rfl rfl rfl ?_
    show Zr sc 65 14 [zp a0, zj x1, zj x2, zj x3, zj x4] [zj x4] w ov w' c s
    refine Zr_st (q := (15, [zp a0, zj x1, zj x2, zj x3, zj x4], [zj x2, zj x4])) rfl rfl rfl ?_
    show Zr sc 65 15 [zp a0, zj x1, zj x2, zj x3, zj x4] [zj x2, zj x4] w ov w' c s
    obtain ⟨hr_2, h⟩ := h
    refine Zr_br (p := x4 < x2) rfl rfl (zcmp_j (cnd := .lt) hr_2.1 hr_2.2) (fun hp => ?_) (fun hp => ?_)
    · replace h := h.1 hp
      show Zr sc 65 30 [zp a0, zj x1, zj x2, zj x3, zj x4] [] w ov w' c s
      refine Zr_st (q := (31, [zp a0, zj x1, zj x2, zj x3, zj x4], [zj x3])) rfl rfl rfl ?_
      show Zr sc 65 31 [zp a0, zj x1, zj x2, zj x3, zj x4] [zj x3] w ov w' c s
      obtain ⟨h1, h2, h3, h4⟩ := h
      subst h1; subst h2; subst h3; subst h4
      exact Zr_ret (ins := .ireturn) rfl rfl
    · replace h := h.2 hp
      show Zr sc 65 18 [zp a0, zj x1, zj x2, zj x3, zj x4] [] w ov w' c s
      refine rl_inc rfl rfl rfl rfl ?_
      show Zr sc 65 21 [zp a0, zj x1, zj x2, zj (x3 + 1), zj x4] [] w ov w' c s
      refine Zr_st (q := (23, [zp a0, zj x1, zj x2, zj (x3 + 1), zj x4], [zj x4])) rfl rfl rfl ?_
      show Zr sc 65 23 [zp a0, zj x1, zj x2, zj (x3 + 1), zj x4] [zj x4] w ov w' c s
      refine rl_ic rfl ?_
      show Zr sc 65 24 [zp a0, zj x1, zj x2, zj (x3 + 1), zj x4] [zj 2, zj x4] w ov w' c s
      obtain ⟨hd_3, h⟩ := h
      refine rl_div rfl hd_3.1 hd_3.2.1 hd_3.2.2.1 hd_3.2.2.2 ?_
      show Zr sc 65 25 [zp a0, zj x1, zj x2, zj (x3 + 1), zj x4] [zj (x4 / 2)] w ov w' c s
      refine Zr_st (q := (27, [zp a0, zj x1, zj x2, zj (x3 + 1), zj (x4 / 2)], [])) rfl rfl rfl ?_
      show Zr sc 65 27 [zp a0, zj x1, zj x2, zj (x3 + 1), zj (x4 / 2)] [] w ov w' c s
      refine Zr_st (q := (7, [zp a0, zj x1, zj x2, zj (x3 + 1), zj (x4 / 2)], [])) rfl rfl rfl ?_
      show Zr sc 65 7 [zp a0, zj x1, zj x2, zj (x3 + 1), zj (x4 / 2)] [] w ov w' c s
      exact h

-- HeapwrightLab$Fits.splits(II)I
set_option maxRecDepth 100000 in
theorem V66_0 {sc : List Value} {w w' : List zE} {ov : Option Value} {c s : Nat} {a0 : Nat} {x1 : Int} {x2 : Int} (h : ((zrg x1 ∧ zrg x2) ∧ ((x1 ≤ x2 → (ov = some (zj 0) ∧ w' = w ∧ c = 0 ∧ s = 0)) ∧ (¬ (x1 ≤ x2) → (ov = some (zj 1) ∧ w' = w ∧ c = 0 ∧ s = 0))))) : Zr sc 66 0 [zp a0, zj x1, zj x2] [] w ov w' c s := by
  refine Zr_st (q := (1, [zp a0, zj x1, zj x2], [zj x1])) rfl rfl rfl ?_
  show Zr sc 66 1 [zp a0, zj x1, zj x2] [zj x1] w ov w' c s
  refine Zr_st (q := (2, [zp a0, zj x1, zj x2], [zj x2, zj x1])) rfl rfl rfl ?_
  show Zr sc 66 2 [zp a0, zj x1, zj x2] [zj x2, zj x1] w ov w' c s
  obtain ⟨hr_1, h⟩ := h
  refine Zr_br (p := x1 ≤ x2) rfl rfl (zcmp_j (cnd := .le) hr_1.1 hr_1.2) (fun hp => ?_) (fun hp => ?_)
  · replace h := h.1 hp
    show Zr sc 66 9 [zp a0, zj x1, zj x2] [] w ov w' c s
    refine rl_ic rfl ?_
    show Zr sc 66 10 [zp a0, zj x1, zj x2] [zj 0] w ov w' c s
    obtain ⟨h1, h2, h3, h4⟩ := h
    subst h1; subst h2; subst h3; subst h4
    exact Zr_ret (ins := .ireturn) rfl rfl
  · replace h := h.2 hp
    show Zr sc 66 5 [zp a0, zj x1, zj x2] [] w ov w' c s
    refine rl_ic rfl ?_
    show Zr sc 66 6 [zp a0, zj x1, zj x2] [zj 1] w ov w' c s
    refine Zr_st (q := (10, [zp a0, zj x1, zj x2], [zj 1])) rfl rfl rfl ?_
    show Zr sc 66 10 [zp a0, zj x1, zj x2] [zj 1] w ov w' c s
    obtain ⟨h1, h2, h3, h4⟩ := h
    subst h1; subst h2; subst h3; subst h4
    exact Zr_ret (ins := .ireturn) rfl rfl

-- HeapwrightLab$Slabs.splits(II)I
set_option maxRecDepth 100000 in
theorem V67_0 {sc : List Value} {w w' : List zE} {ov : Option Value} {c s : Nat} {a0 : Nat} {x1 : Int} {x2 : Int} (h : ((zrg x2 ∧ zrg 128) ∧ ((128 ≤ x2 → (ov = some (zj 0) ∧ w' = w ∧ c = 0 ∧ s = 0)) ∧ (¬ (128 ≤ x2) → ((zrg x1 ∧ zrg 128) ∧ ((x1 < 128 → (ov = some (zj 0) ∧ w' = w ∧ c = 0 ∧ s = 0)) ∧ (¬ (x1 < 128) → (ov = some (zj 1) ∧ w' = w ∧ c = 0 ∧ s = 0)))))))) : Zr sc 67 0 [zp a0, zj x1, zj x2] [] w ov w' c s := by
  refine Zr_st (q := (1, [zp a0, zj x1, zj x2], [zj x2])) rfl rfl rfl ?_
  show Zr sc 67 1 [zp a0, zj x1, zj x2] [zj x2] w ov w' c s
  refine rl_si rfl (by decide) ?_
  show Zr sc 67 4 [zp a0, zj x1, zj x2] [zj 128, zj x2] w ov w' c s
  obtain ⟨hr_1, h⟩ := h
  refine Zr_br (p := 128 ≤ x2) rfl rfl (zcmp_j (cnd := .ge) hr_1.1 hr_1.2) (fun hp => ?_) (fun hp => ?_)
  · replace h := h.1 hp
    show Zr sc 67 18 [zp a0, zj x1, zj x2] [] w ov w' c s
    refine rl_ic rfl ?_
    show Zr sc 67 19 [zp a0, zj x1, zj x2] [zj 0] w ov w' c s
    obtain ⟨h1, h2, h3, h4⟩ := h
    subst h1; subst h2; subst h3; subst h4
    exact Zr_ret (ins := .ireturn) rfl rfl
  · replace h := h.2 hp
    show Zr sc 67 7 [zp a0, zj x1, zj x2] [] w ov w' c s
    refine Zr_st (q := (8, [zp a0, zj x1, zj x2], [zj x1])) rfl rfl rfl ?_
    show Zr sc 67 8 [zp a0, zj x1, zj x2] [zj x1] w ov w' c s
    refine rl_si rfl (by decide) ?_
    show Zr sc 67 11 [zp a0, zj x1, zj x2] [zj 128, zj x1] w ov w' c s
    obtain ⟨hr_2, h⟩ := h
    refine Zr_br (p := x1 < 128) rfl rfl (zcmp_j (cnd := .lt) hr_2.1 hr_2.2) (fun hp => ?_) (fun hp => ?_)
    · replace h := h.1 hp
      show Zr sc 67 18 [zp a0, zj x1, zj x2] [] w ov w' c s
      refine rl_ic rfl ?_
      show Zr sc 67 19 [zp a0, zj x1, zj x2] [zj 0] w ov w' c s
      obtain ⟨h1, h2, h3, h4⟩ := h
      subst h1; subst h2; subst h3; subst h4
      exact Zr_ret (ins := .ireturn) rfl rfl
    · replace h := h.2 hp
      show Zr sc 67 14 [zp a0, zj x1, zj x2] [] w ov w' c s
      refine rl_ic rfl ?_
      show Zr sc 67 15 [zp a0, zj x1, zj x2] [zj 1] w ov w' c s
      refine Zr_st (q := (19, [zp a0, zj x1, zj x2], [zj 1])) rfl rfl rfl ?_
      show Zr sc 67 19 [zp a0, zj x1, zj x2] [zj 1] w ov w' c s
      obtain ⟨h1, h2, h3, h4⟩ := h
      subst h1; subst h2; subst h3; subst h4
      exact Zr_ret (ins := .ireturn) rfl rfl

