/-! ===== regions of the methods of Blocks ===== -/
-- HeapwrightLab$Blocks.has(I)Z
theorem V7_0 {sc : List Value} {w w' : List zE} {ov : Option Value} {c s : Nat} {a0 : Nat} {x1 : Int} (h : ((zrg x1) ∧ ((x1 < 0 → (ov = some (zj 0) ∧ w' = w ∧ c = 0 ∧ s = 0)) ∧ (¬ (x1 < 0) → (∃ f0_3 : Nat, ∃ f1_4 : Nat, ∃ f2_5 : Nat, ∃ f3_6 : Nat, ∃ f4_7 : Int, ∃ f5_8 : Int, w[a0]? = some (zob 0 [zp f0_3, zp f1_4, zp f2_5, zp f3_6, zj f4_7, zj f5_8]) ∧ (∃ l_10 : List Int, w[f2_5]? = some (za l_10) ∧ ((zrg x1 ∧ zrg (l_10.length : Int)) ∧ (((l_10.length : Int) ≤ x1 → (ov = some (zj 0) ∧ w' = w ∧ c = 0 ∧ s = 0)) ∧ (¬ ((l_10.length : Int) ≤ x1) → ((0 ≤ x1 ∧ x1 < (l_10.length : Int) ∧ x1 ≤ 2147483647) ∧ ((zrg (zgi l_10 x1)) ∧ (((zgi l_10 x1) ≤ 0 → (ov = some (zj 0) ∧ w' = w ∧ c = 0 ∧ s = 0)) ∧ (¬ ((zgi l_10 x1) ≤ 0) → (ov = some (zj 1) ∧ w' = w ∧ c = 0 ∧ s = 0)))))))))))))) : Zr sc 7 0 [zp a0, zj x1] [] w ov w' c s := by
  refine Zr_st (q := (1, [zp a0, zj x1], [zj x1])) rfl rfl rfl ?_
  show Zr sc 7 1 [zp a0, zj x1] [zj x1] w ov w' c s
  obtain ⟨hr_1, h⟩ := h
  refine Zr_b0 (p := x1 < 0) rfl rfl (zcmp_0 (cnd := .lt) hr_1) (fun hp => ?_) (fun hp => ?_)
  · replace h := h.1 hp
    show Zr sc 7 26 [zp a0, zj x1] [] w ov w' c s
    refine rl_ic rfl ?_
    show Zr sc 7 27 [zp a0, zj x1] [zj 0] w ov w' c s
    obtain ⟨h1, h2, h3, h4⟩ := h
    subst h1; subst h2; subst h3; subst h4
    exact Zr_ret (ins := .ireturn) rfl rfl
  · replace h := h.2 hp
    show Zr sc 7 4 [zp a0, zj x1] [] w ov w' c s
    refine Zr_st (q := (5, [zp a0, zj x1], [zj x1])) rfl rfl rfl ?_
    show Zr sc 7 5 [zp a0, zj x1] [zj x1] w ov w' c s
    refine Zr_st (q := (6, [zp a0, zj x1], [zp a0, zj x1])) rfl rfl rfl ?_
    show Zr sc 7 6 [zp a0, zj x1] [zp a0, zj x1] w ov w' c s
    obtain ⟨f0_3, f1_4, f2_5, f3_6, f4_7, f5_8, hw_2, h⟩ := h
    refine rl_gf rfl hw_2 rfl rfl ?_
    show Zr sc 7 9 [zp a0, zj x1] [zp f2_5, zj x1] w ov w' c s
    obtain ⟨l_10, hw_9, h⟩ := h
    refine rl_al rfl hw_9 ?_
    show Zr sc 7 10 [zp a0, zj x1] [zj (l_10.length : Int), zj x1] w ov w' c s
    obtain ⟨hr_11, h⟩ := h
    refine Zr_br (p := (l_10.length : Int) ≤ x1) rfl rfl (zcmp_j (cnd := .ge) hr_11.1 hr_11.2) (fun hp => ?_) (fun hp => ?_)
    · replace h := h.1 hp
      show Zr sc 7 26 [zp a0, zj x1] [] w ov w' c s
      refine rl_ic rfl ?_
      show Zr sc 7 27 [zp a0, zj x1] [zj 0] w ov w' c s
      obtain ⟨h1, h2, h3, h4⟩ := h
      subst h1; subst h2; subst h3; subst h4
      exact Zr_ret (ins := .ireturn) rfl rfl
    · replace h := h.2 hp
      show Zr sc 7 13 [zp a0, zj x1] [] w ov w' c s
      refine Zr_st (q := (14, [zp a0, zj x1], [zp a0])) rfl rfl rfl ?_
      show Zr sc 7 14 [zp a0, zj x1] [zp a0] w ov w' c s
      refine rl_gf rfl hw_2 rfl rfl ?_
      show Zr sc 7 17 [zp a0, zj x1] [zp f2_5] w ov w' c s
      refine Zr_st (q := (18, [zp a0, zj x1], [zj x1, zp f2_5])) rfl rfl rfl ?_
      show Zr sc 7 18 [zp a0, zj x1] [zj x1, zp f2_5] w ov w' c s
      obtain ⟨hi_12, h⟩ := h
      refine rl_ia rfl hw_9 hi_12.1 hi_12.2.1 hi_12.2.2 ?_
      show Zr sc 7 19 [zp a0, zj x1] [zj (zgi l_10 x1)] w ov w' c s
      obtain ⟨hr_13, h⟩ := h
      refine Zr_b0 (p := (zgi l_10 x1) ≤ 0) rfl rfl (zcmp_0 (cnd := .le) hr_13) (fun hp => ?_) (fun hp => ?_)
      · replace h := h.1 hp
        show Zr sc 7 26 [zp a0, zj x1] [] w ov w' c s
        refine rl_ic rfl ?_
        show Zr sc 7 27 [zp a0, zj x1] [zj 0] w ov w' c s
        obtain ⟨h1, h2, h3, h4⟩ := h
        subst h1; subst h2; subst h3; subst h4
        exact Zr_ret (ins := .ireturn) rfl rfl
      · replace h := h.2 hp
        show Zr sc 7 22 [zp a0, zj x1] [] w ov w' c s
        refine rl_ic rfl ?_
        show Zr sc 7 23 [zp a0, zj x1] [zj 1] w ov w' c s
        refine Zr_st (q := (27, [zp a0, zj x1], [zj 1])) rfl rfl rfl ?_
        show Zr sc 7 27 [zp a0, zj x1] [zj 1] w ov w' c s
        obtain ⟨h1, h2, h3, h4⟩ := h
        subst h1; subst h2; subst h3; subst h4
        exact Zr_ret (ins := .ireturn) rfl rfl

-- HeapwrightLab$Blocks.placeOf(I)I
theorem V9_0 {sc : List Value} {w w' : List zE} {ov : Option Value} {c s : Nat} {a0 : Nat} {x1 : Int} (h : (∃ f0_2 : Nat, ∃ f1_3 : Nat, ∃ f2_4 : Nat, ∃ f3_5 : Nat, ∃ f4_6 : Int, ∃ f5_7 : Int, w[a0]? = some (zob 0 [zp f0_2, zp f1_3, zp f2_4, zp f3_5, zj f4_6, zj f5_7]) ∧ (∃ r_10 : Int, ∃ w_8 : List zE, Zc sc 7 [zp a0, zj x1] w (some (zj r_10)) w_8 0 0 ∧ ((zrg r_10) ∧ ((r_10 = 0 → (ov = some (zj (-1)) ∧ w' = w_8 ∧ c = 0 ∧ s = 0)) ∧ (¬ (r_10 = 0) → (∃ f0_13 : Nat, ∃ f1_14 : Nat, ∃ f2_15 : Nat, ∃ f3_16 : Nat, ∃ f4_17 : Int, ∃ f5_18 : Int, w_8[a0]? = some (zob 0 [zp f0_13, zp f1_14, zp f2_15, zp f3_16, zj f4_17, zj f5_18]) ∧ (∃ l_21 : List Int, w_8[f0_13]? = some (za l_21) ∧ ((0 ≤ x1 ∧ x1 < (l_21.length : Int) ∧ x1 ≤ 2147483647) ∧ (ov = some (zj (zgi l_21 x1)) ∧ w' = w_8 ∧ c = 0 ∧ s = 0)))))))))) : Zr sc 9 0 [zp a0, zj x1] [] w ov w' c s := by
  refine Zr_st (q := (1, [zp a0, zj x1], [zp a0])) rfl rfl rfl ?_
  show Zr sc 9 1 [zp a0, zj x1] [zp a0] w ov w' c s
  refine Zr_st (q := (2, [zp a0, zj x1], [zj x1, zp a0])) rfl rfl rfl ?_
  show Zr sc 9 2 [zp a0, zj x1] [zj x1, zp a0] w ov w' c s
  obtain ⟨f0_2, f1_3, f2_4, f3_5, f4_6, f5_7, hw_1, h⟩ := h
  obtain ⟨r_10, w_8, hk_9, h⟩ := h
  refine rn_cal0 (ins := .invokevirtual 37) (rest := []) rfl rfl rfl rfl (zinv_v (fs := _) hw_1 rfl rfl rfl rfl) rfl rfl hk_9 ?_
  show Zr sc 9 5 [zp a0, zj x1] [zj r_10] w_8 ov w' c s
  obtain ⟨hr_11, h⟩ := h
  refine Zr_b0 (p := r_10 = 0) rfl rfl (zcmp_0 (cnd := .eq) hr_11) (fun hp => ?_) (fun hp => ?_)
  · replace h := h.1 hp
    show Zr sc 9 17 [zp a0, zj x1] [] w_8 ov w' c s
    refine rl_ic rfl ?_
    show Zr sc 9 18 [zp a0, zj x1] [zj (-1)] w_8 ov w' c s
    obtain ⟨h1, h2, h3, h4⟩ := h
    subst h1; subst h2; subst h3; subst h4
    exact Zr_ret (ins := .ireturn) rfl rfl
  · replace h := h.2 hp
    show Zr sc 9 8 [zp a0, zj x1] [] w_8 ov w' c s
    refine Zr_st (q := (9, [zp a0, zj x1], [zp a0])) rfl rfl rfl ?_
    show Zr sc 9 9 [zp a0, zj x1] [zp a0] w_8 ov w' c s
    obtain ⟨f0_13, f1_14, f2_15, f3_16, f4_17, f5_18, hw_12, h⟩ := h
    refine rl_gf rfl hw_12 rfl rfl ?_
    show Zr sc 9 12 [zp a0, zj x1] [zp f0_13] w_8 ov w' c s
    refine Zr_st (q := (13, [zp a0, zj x1], [zj x1, zp f0_13])) rfl rfl rfl ?_
    show Zr sc 9 13 [zp a0, zj x1] [zj x1, zp f0_13] w_8 ov w' c s
    obtain ⟨l_21, hw_20, h⟩ := h
    obtain ⟨hi_19, h⟩ := h
    refine rl_ia rfl hw_20 hi_19.1 hi_19.2.1 hi_19.2.2 ?_
    show Zr sc 9 14 [zp a0, zj x1] [zj (zgi l_21 x1)] w_8 ov w' c s
    refine Zr_st (q := (18, [zp a0, zj x1], [zj (zgi l_21 x1)])) rfl rfl rfl ?_
    show Zr sc 9 18 [zp a0, zj x1] [zj (zgi l_21 x1)] w_8 ov w' c s
    obtain ⟨h1, h2, h3, h4⟩ := h
    subst h1; subst h2; subst h3; subst h4
    exact Zr_ret (ins := .ireturn) rfl rfl

-- HeapwrightLab$Blocks.sizeOf(I)I
theorem V11_0 {sc : List Value} {w w' : List zE} {ov : Option Value} {c s : Nat} {a0 : Nat} {x1 : Int} (h : (∃ f0_2 : Nat, ∃ f1_3 : Nat, ∃ f2_4 : Nat, ∃ f3_5 : Nat, ∃ f4_6 : Int, ∃ f5_7 : Int, w[a0]? = some (zob 0 [zp f0_2, zp f1_3, zp f2_4, zp f3_5, zj f4_6, zj f5_7]) ∧ (∃ r_10 : Int, ∃ w_8 : List zE, Zc sc 7 [zp a0, zj x1] w (some (zj r_10)) w_8 0 0 ∧ ((zrg r_10) ∧ ((r_10 = 0 → (ov = some (zj (-1)) ∧ w' = w_8 ∧ c = 0 ∧ s = 0)) ∧ (¬ (r_10 = 0) → (∃ f0_13 : Nat, ∃ f1_14 : Nat, ∃ f2_15 : Nat, ∃ f3_16 : Nat, ∃ f4_17 : Int, ∃ f5_18 : Int, w_8[a0]? = some (zob 0 [zp f0_13, zp f1_14, zp f2_15, zp f3_16, zj f4_17, zj f5_18]) ∧ (∃ l_21 : List Int, w_8[f1_14]? = some (za l_21) ∧ ((0 ≤ x1 ∧ x1 < (l_21.length : Int) ∧ x1 ≤ 2147483647) ∧ (ov = some (zj (zgi l_21 x1)) ∧ w' = w_8 ∧ c = 0 ∧ s = 0)))))))))) : Zr sc 11 0 [zp a0, zj x1] [] w ov w' c s := by
  refine Zr_st (q := (1, [zp a0, zj x1], [zp a0])) rfl rfl rfl ?_
  show Zr sc 11 1 [zp a0, zj x1] [zp a0] w ov w' c s
  refine Zr_st (q := (2, [zp a0, zj x1], [zj x1, zp a0])) rfl rfl rfl ?_
  show Zr sc 11 2 [zp a0, zj x1] [zj x1, zp a0] w ov w' c s
  obtain ⟨f0_2, f1_3, f2_4, f3_5, f4_6, f5_7, hw_1, h⟩ := h
  obtain ⟨r_10, w_8, hk_9, h⟩ := h
  refine rn_cal0 (ins := .invokevirtual 37) (rest := []) rfl rfl rfl rfl (zinv_v (fs := _) hw_1 rfl rfl rfl rfl) rfl rfl hk_9 ?_
  show Zr sc 11 5 [zp a0, zj x1] [zj r_10] w_8 ov w' c s
  obtain ⟨hr_11, h⟩ := h
  refine Zr_b0 (p := r_10 = 0) rfl rfl (zcmp_0 (cnd := .eq) hr_11) (fun hp => ?_) (fun hp => ?_)
  · replace h := h.1 hp
    show Zr sc 11 17 [zp a0, zj x1] [] w_8 ov w' c s
    refine rl_ic rfl ?_
    show Zr sc 11 18 [zp a0, zj x1] [zj (-1)] w_8 ov w' c s
    obtain ⟨h1, h2, h3, h4⟩ := h
    subst h1; subst h2; subst h3; subst h4
    exact Zr_ret (ins := .ireturn) rfl rfl
  · replace h := h.2 hp
    show Zr sc 11 8 [zp a0, zj x1] [] w_8 ov w' c s
    refine Zr_st (q := (9, [zp a0, zj x1], [zp a0])) rfl rfl rfl ?_
    show Zr sc 11 9 [zp a0, zj x1] [zp a0] w_8 ov w' c s
    obtain ⟨f0_13, f1_14, f2_15, f3_16, f4_17, f5_18, hw_12, h⟩ := h
    refine rl_gf rfl hw_12 rfl rfl ?_
    show Zr sc 11 12 [zp a0, zj x1] [zp f1_14] w_8 ov w' c s
    refine Zr_st (q := (13, [zp a0, zj x1], [zj x1, zp f1_14])) rfl rfl rfl ?_
    show Zr sc 11 13 [zp a0, zj x1] [zj x1, zp f1_14] w_8 ov w' c s
    obtain ⟨l_21, hw_20, h⟩ := h
    obtain ⟨hi_19, h⟩ := h
    refine rl_ia rfl hw_20 hi_19.1 hi_19.2.1 hi_19.2.2 ?_
    show Zr sc 11 14 [zp a0, zj x1] [zj (zgi l_21 x1)] w_8 ov w' c s
    refine Zr_st (q := (18, [zp a0, zj x1], [zj (zgi l_21 x1)])) rfl rfl rfl ?_
    show Zr sc 11 18 [zp a0, zj x1] [zj (zgi l_21 x1)] w_8 ov w' c s
    obtain ⟨h1, h2, h3, h4⟩ := h
    subst h1; subst h2; subst h3; subst h4
    exact Zr_ret (ins := .ireturn) rfl rfl

-- HeapwrightLab$Blocks.roomOf(I)I
theorem V13_0 {sc : List Value} {w w' : List zE} {ov : Option Value} {c s : Nat} {a0 : Nat} {x1 : Int} (h : (∃ f0_2 : Nat, ∃ f1_3 : Nat, ∃ f2_4 : Nat, ∃ f3_5 : Nat, ∃ f4_6 : Int, ∃ f5_7 : Int, w[a0]? = some (zob 0 [zp f0_2, zp f1_3, zp f2_4, zp f3_5, zj f4_6, zj f5_7]) ∧ (∃ r_10 : Int, ∃ w_8 : List zE, Zc sc 7 [zp a0, zj x1] w (some (zj r_10)) w_8 0 0 ∧ ((zrg r_10) ∧ ((r_10 = 0 → (ov = some (zj (-1)) ∧ w' = w_8 ∧ c = 0 ∧ s = 0)) ∧ (¬ (r_10 = 0) → (∃ f0_13 : Nat, ∃ f1_14 : Nat, ∃ f2_15 : Nat, ∃ f3_16 : Nat, ∃ f4_17 : Int, ∃ f5_18 : Int, w_8[a0]? = some (zob 0 [zp f0_13, zp f1_14, zp f2_15, zp f3_16, zj f4_17, zj f5_18]) ∧ (∃ l_21 : List Int, w_8[f2_15]? = some (za l_21) ∧ ((0 ≤ x1 ∧ x1 < (l_21.length : Int) ∧ x1 ≤ 2147483647) ∧ (ov = some (zj (zgi l_21 x1)) ∧ w' = w_8 ∧ c = 0 ∧ s = 0)))))))))) : Zr sc 13 0 [zp a0, zj x1] [] w ov w' c s := by
  refine Zr_st (q := (1, [zp a0, zj x1], [zp a0])) rfl rfl rfl ?_
  show Zr sc 13 1 [zp a0, zj x1] [zp a0] w ov w' c s
  refine Zr_st (q := (2, [zp a0, zj x1], [zj x1, zp a0])) rfl rfl rfl ?_
  show Zr sc 13 2 [zp a0, zj x1] [zj x1, zp a0] w ov w' c s
  obtain ⟨f0_2, f1_3, f2_4, f3_5, f4_6, f5_7, hw_1, h⟩ := h
  obtain ⟨r_10, w_8, hk_9, h⟩ := h
  refine rn_cal0 (ins := .invokevirtual 37) (rest := []) rfl rfl rfl rfl (zinv_v (fs := _) hw_1 rfl rfl rfl rfl) rfl rfl hk_9 ?_
  show Zr sc 13 5 [zp a0, zj x1] [zj r_10] w_8 ov w' c s
  obtain ⟨hr_11, h⟩ := h
  refine Zr_b0 (p := r_10 = 0) rfl rfl (zcmp_0 (cnd := .eq) hr_11) (fun hp => ?_) (fun hp => ?_)
  · replace h := h.1 hp
    show Zr sc 13 17 [zp a0, zj x1] [] w_8 ov w' c s
    refine rl_ic rfl ?_
    show Zr sc 13 18 [zp a0, zj x1] [zj (-1)] w_8 ov w' c s
    obtain ⟨h1, h2, h3, h4⟩ := h
    subst h1; subst h2; subst h3; subst h4
    exact Zr_ret (ins := .ireturn) rfl rfl
  · replace h := h.2 hp
    show Zr sc 13 8 [zp a0, zj x1] [] w_8 ov w' c s
    refine Zr_st (q := (9, [zp a0, zj x1], [zp a0])) rfl rfl rfl ?_
    show Zr sc 13 9 [zp a0, zj x1] [zp a0] w_8 ov w' c s
    obtain ⟨f0_13, f1_14, f2_15, f3_16, f4_17, f5_18, hw_12, h⟩ := h
    refine rl_gf rfl hw_12 rfl rfl ?_
    show Zr sc 13 12 [zp a0, zj x1] [zp f2_15] w_8 ov w' c s
    refine Zr_st (q := (13, [zp a0, zj x1], [zj x1, zp f2_15])) rfl rfl rfl ?_
    show Zr sc 13 13 [zp a0, zj x1] [zj x1, zp f2_15] w_8 ov w' c s
    obtain ⟨l_21, hw_20, h⟩ := h
    obtain ⟨hi_19, h⟩ := h
    refine rl_ia rfl hw_20 hi_19.1 hi_19.2.1 hi_19.2.2 ?_
    show Zr sc 13 14 [zp a0, zj x1] [zj (zgi l_21 x1)] w_8 ov w' c s
    refine Zr_st (q := (18, [zp a0, zj x1], [zj (zgi l_21 x1)])) rfl rfl rfl ?_
    show Zr sc 13 18 [zp a0, zj x1] [zj (zgi l_21 x1)] w_8 ov w' c s
    obtain ⟨h1, h2, h3, h4⟩ := h
    subst h1; subst h2; subst h3; subst h4
    exact Zr_ret (ins := .ireturn) rfl rfl

-- HeapwrightLab$Blocks.endOf(I)I
theorem V16_0 {sc : List Value} {w w' : List zE} {ov : Option Value} {c s : Nat} {a0 : Nat} {x1 : Int} (h : (∃ f0_2 : Nat, ∃ f1_3 : Nat, ∃ f2_4 : Nat, ∃ f3_5 : Nat, ∃ f4_6 : Int, ∃ f5_7 : Int, w[a0]? = some (zob 0 [zp f0_2, zp f1_3, zp f2_4, zp f3_5, zj f4_6, zj f5_7]) ∧ (∃ r_10 : Int, ∃ w_8 : List zE, Zc sc 7 [zp a0, zj x1] w (some (zj r_10)) w_8 0 0 ∧ ((zrg r_10) ∧ ((r_10 = 0 → (ov = some (zj (-1)) ∧ w' = w_8 ∧ c = 0 ∧ s = 0)) ∧ (¬ (r_10 = 0) → (∃ f0_13 : Nat, ∃ f1_14 : Nat, ∃ f2_15 : Nat, ∃ f3_16 : Nat, ∃ f4_17 : Int, ∃ f5_18 : Int, w_8[a0]? = some (zob 0 [zp f0_13, zp f1_14, zp f2_15, zp f3_16, zj f4_17, zj f5_18]) ∧ (∃ l_21 : List Int, w_8[f0_13]? = some (za l_21) ∧ ((0 ≤ x1 ∧ x1 < (l_21.length : Int) ∧ x1 ≤ 2147483647) ∧ (∃ l_24 : List Int, w_8[f2_15]? = some (za l_24) ∧ ((0 ≤ x1 ∧ x1 < (l_24.length : Int) ∧ x1 ≤ 2147483647) ∧ (ov = some (zj ((zgi l_21 x1) + (zgi l_24 x1))) ∧ w' = w_8 ∧ c = 0 ∧ s = 0)))))))))))) : Zr sc 16 0 [zp a0, zj x1] [] w ov w' c s := by
  refine Zr_st (q := (1, [zp a0, zj x1], [zp a0])) rfl rfl rfl ?_
  show Zr sc 16 1 [zp a0, zj x1] [zp a0] w ov w' c s
  refine Zr_st (q := (2, [zp a0, zj x1], [zj x1, zp a0])) rfl rfl rfl ?_
  show Zr sc 16 2 [zp a0, zj x1] [zj x1, zp a0] w ov w' c s
  obtain ⟨f0_2, f1_3, f2_4, f3_5, f4_6, f5_7, hw_1, h⟩ := h
  obtain ⟨r_10, w_8, hk_9, h⟩ := h
  refine rn_cal0 (ins := .invokevirtual 37) (rest := []) rfl rfl rfl rfl (zinv_v (fs := _) hw_1 rfl rfl rfl rfl) rfl rfl hk_9 ?_
  show Zr sc 16 5 [zp a0, zj x1] [zj r_10] w_8 ov w' c s
  obtain ⟨hr_11, h⟩ := h
  refine Zr_b0 (p := r_10 = 0) rfl rfl (zcmp_0 (cnd := .eq) hr_11) (fun hp => ?_) (fun hp => ?_)
  · replace h := h.1 hp
    show Zr sc 16 24 [zp a0, zj x1] [] w_8 ov w' c s
    refine rl_ic rfl ?_
    show Zr sc 16 25 [zp a0, zj x1] [zj (-1)] w_8 ov w' c s
    obtain ⟨h1, h2, h3, h4⟩ := h
    subst h1; subst h2; subst h3; subst h4
    exact Zr_ret (ins := .ireturn) rfl rfl
  · replace h := h.2 hp
    show Zr sc 16 8 [zp a0, zj x1] [] w_8 ov w' c s
    refine Zr_st (q := (9, [zp a0, zj x1], [zp a0])) rfl rfl rfl ?_
    show Zr sc 16 9 [zp a0, zj x1] [zp a0] w_8 ov w' c s
    obtain ⟨f0_13, f1_14, f2_15, f3_16, f4_17, f5_18, hw_12, h⟩ := h
    refine rl_gf rfl hw_12 rfl rfl ?_
    show Zr sc 16 12 [zp a0, zj x1] [zp f0_13] w_8 ov w' c s
    refine Zr_st (q := (13, [zp a0, zj x1], [zj x1, zp f0_13])) rfl rfl rfl ?_
    show Zr sc 16 13 [zp a0, zj x1] [zj x1, zp f0_13] w_8 ov w' c s
    obtain ⟨l_21, hw_20, h⟩ := h
    obtain ⟨hi_19, h⟩ := h
    refine rl_ia rfl hw_20 hi_19.1 hi_19.2.1 hi_19.2.2 ?_
    show Zr sc 16 14 [zp a0, zj x1] [zj (zgi l_21 x1)] w_8 ov w' c s
    refine Zr_st (q := (15, [zp a0, zj x1], [zp a0, zj (zgi l_21 x1)])) rfl rfl rfl ?_
    show Zr sc 16 15 [zp a0, zj x1] [zp a0, zj (zgi l_21 x1)] w_8 ov w' c s
    refine rl_gf rfl hw_12 rfl rfl ?_
    show Zr sc 16 18 [zp a0, zj x1] [zp f2_15, zj (zgi l_21 x1)] w_8 ov w' c s
    refine Zr_st (q := (19, [zp a0, zj x1], [zj x1, zp f2_15, zj (zgi l_21 x1)])) rfl rfl rfl ?_
    show Zr sc 16 19 [zp a0, zj x1] [zj x1, zp f2_15, zj (zgi l_21 x1)] w_8 ov w' c s
    obtain ⟨l_24, hw_23, h⟩ := h
    obtain ⟨hi_22, h⟩ := h
    refine rl_ia rfl hw_23 hi_22.1 hi_22.2.1 hi_22.2.2 ?_
    show Zr sc 16 20 [zp a0, zj x1] [zj (zgi l_24 x1), zj (zgi l_21 x1)] w_8 ov w' c s
    refine rl_add rfl ?_
    show Zr sc 16 21 [zp a0, zj x1] [zj ((zgi l_21 x1) + (zgi l_24 x1))] w_8 ov w' c s
    refine Zr_st (q := (25, [zp a0, zj x1], [zj ((zgi l_21 x1) + (zgi l_24 x1))])) rfl rfl rfl ?_
    show Zr sc 16 25 [zp a0, zj x1] [zj ((zgi l_21 x1) + (zgi l_24 x1))] w_8 ov w' c s
    obtain ⟨h1, h2, h3, h4⟩ := h
    subst h1; subst h2; subst h3; subst h4
    exact Zr_ret (ins := .ireturn) rfl rfl

-- HeapwrightLab$Blocks.indexOf(I)I
theorem V85_0 {sc : List Value} {w w' : List zE} {ov : Option Value} {c s : Nat} {a0 : Nat} {x1 : Int} (h : Zr sc 85 2 [zp a0, zj x1, zj 0] [] w ov w' c s) : Zr sc 85 0 [zp a0, zj x1, zmk] [] w ov w' c s := by
  refine rl_ic rfl ?_
  show Zr sc 85 1 [zp a0, zj x1, zmk] [zj 0] w ov w' c s
  refine Zr_st (q := (2, [zp a0, zj x1, zj 0], [])) rfl rfl rfl ?_
  show Zr sc 85 2 [zp a0, zj x1, zj 0] [] w ov w' c s
  exact h
theorem V85_2 {sc : List Value} {w w' : List zE} {ov : Option Value} {c s : Nat} {a0 : Nat} {x1 : Int} {x2 : Int} (h : (∃ f0_2 : Nat, ∃ f1_3 : Nat, ∃ f2_4 : Nat, ∃ f3_5 : Nat, ∃ f4_6 : Int, ∃ f5_7 : Int, w[a0]? = some (zob 0 [zp f0_2, zp f1_3, zp f2_4, zp f3_5, zj f4_6, zj f5_7]) ∧ ((zrg x2 ∧ zrg (f4_6 - 1)) ∧ (((f4_6 - 1) ≤ x2 → ((zrg f4_6) ∧ ((f4_6 ≤ 0 → (ov = some (zj 0) ∧ w' = w ∧ c = 0 ∧ s = 0)) ∧ (¬ (f4_6 ≤ 0) → (ov = some (zj (f4_6 - 1)) ∧ w' = w ∧ c = 0 ∧ s = 0))))) ∧ (¬ ((f4_6 - 1) ≤ x2) → (∃ l_12 : List Int, w[f3_5]? = some (za l_12) ∧ ((0 ≤ x2 ∧ x2 < (l_12.length : Int) ∧ x2 ≤ 2147483647) ∧ ((zrg (zgi l_12 x2) ∧ zrg x1) ∧ (((zgi l_12 x2) ≠ x1 → Zr sc 85 2 [zp a0, zj x1, zj (x2 + 1)] [] w ov w' c s) ∧ (¬ ((zgi l_12 x2) ≠ x1) → (ov = some (zj x2) ∧ w' = w ∧ c = 0 ∧ s = 0))))))))))) : Zr sc 85 2 [zp a0, zj x1, zj x2] [] w ov w' c s := by
  refine Zr_st (q := (3, [zp a0, zj x1, zj x2], [zj x2])) rfl rfl rfl ?_
  show Zr sc 85 3 [zp a0, zj x1, zj x2] [zj x2] w ov w' c s
  refine Zr_st (q := (4, [zp a0, zj x1, zj x2], [zp a0, zj x2])) rfl rfl rfl ?_
  show Zr sc 85 4 [zp a0, zj x1, zj x2] [zp a0, zj x2] w ov w' c s
  obtain ⟨f0_2, f1_3, f2_4, f3_5, f4_6, f5_7, hw_1, h⟩ := h
  refine rl_gf rfl hw_1 rfl rfl ?_
  show Zr sc 85 7 [zp a0, zj x1, zj x2] [zj f4_6, zj x2] w ov w' c s
  refine rl_ic rfl ?_
  show Zr sc 85 8 [zp a0, zj x1, zj x2] [zj 1, zj f4_6, zj x2] w ov w' c s
  refine rl_sub rfl ?_
  show Zr sc 85 9 [zp a0, zj x1, zj x2] [zj (f4_6 - 1), zj x2] w ov w' c s
  obtain ⟨hr_8, h⟩ := h
  refine Zr_br (p := (f4_6 - 1) ≤ x2) rfl rfl (zcmp_j (cnd := .ge) hr_8.1 hr_8.2) (fun hp => ?_) (fun hp => ?_)
  · replace h := h.1 hp
    show Zr sc 85 30 [zp a0, zj x1, zj x2] [] w ov w' c s
    refine Zr_st (q := (31, [zp a0, zj x1, zj x2], [zp a0])) rfl rfl rfl ?_
    show Zr sc 85 31 [zp a0, zj x1, zj x2] [zp a0] w ov w' c s
    refine rl_gf rfl hw_1 rfl rfl ?_
    show Zr sc 85 34 [zp a0, zj x1, zj x2] [zj f4_6] w ov w' c s
    obtain ⟨hr_9, h⟩ := h
    refine Zr_b0 (p := f4_6 ≤ 0) rfl rfl (zcmp_0 (cnd := .le) hr_9) (fun hp => ?_) (fun hp => ?_)
    · replace h := h.1 hp
      show Zr sc 85 46 [zp a0, zj x1, zj x2] [] w ov w' c s
      refine rl_ic rfl ?_
      show Zr sc 85 47 [zp a0, zj x1, zj x2] [zj 0] w ov w' c s
      obtain ⟨h1, h2, h3, h4⟩ := h
      subst h1; subst h2; subst h3; subst h4
      exact Zr_ret (ins := .ireturn) rfl rfl
    · replace h := h.2 hp
      show Zr sc 85 37 [zp a0, zj x1, zj x2] [] w ov w' c s
      refine Zr_st (q := (38, [zp a0, zj x1, zj x2], [zp a0])) rfl rfl rfl ?_
      show Zr sc 85 38 [zp a0, zj x1, zj x2] [zp a0] w ov w' c s
      refine rl_gf rfl hw_1 rfl rfl ?_
      show Zr sc 85 41 [zp a0, zj x1, zj x2] [zj f4_6] w ov w' c s
      refine rl_ic rfl ?_
      show Zr sc 85 42 [zp a0, zj x1, zj x2] [zj 1, zj f4_6] w ov w' c s
      refine rl_sub rfl ?_
      show Zr sc 85 43 [zp a0, zj x1, zj x2] [zj (f4_6 - 1)] w ov w' c s
      refine Zr_st (q := (47, [zp a0, zj x1, zj x2], [zj (f4_6 - 1)])) rfl rfl rfl ?_
      show Zr sc 85 47 [zp a0, zj x1, zj x2] [zj (f4_6 - 1)] w ov w' c s
      obtain ⟨h1, h2, h3, h4⟩ := h
      subst h1; subst h2; subst h3; subst h4
      exact Zr_ret (ins := .ireturn) rfl rfl
  · replace h := h.2 hp
    show Zr sc 85 12 [zp a0, zj x1, zj x2] [] w ov w' c s
    refine Zr_st (q := (13, [zp a0, zj x1, zj x2], [zp a0])) rfl rfl rfl ?_
    show Zr sc 85 13 [zp a0, zj x1, zj x2] [zp a0] w ov w' c s
    refine rl_gf rfl hw_1 rfl rfl ?_
    show Zr sc 85 16 [zp a0, zj x1, zj x2] [zp f3_5] w ov w' c s
    refine Zr_st (q := (17, [zp a0, zj x1, zj x2], [zj x2, zp f3_5])) rfl rfl rfl ?_
    show Zr sc 85 17 [zp a0, zj x1, zj x2] [zj x2, zp f3_5] w ov w' c s
    obtain ⟨l_12, hw_11, h⟩ := h
    obtain ⟨hi_10, h⟩ := h
    refine rl_ia rfl hw_11 hi_10.1 hi_10.2.1 hi_10.2.2 ?_
    show Zr sc 85 18 [zp a0, zj x1, zj x2] [zj (zgi l_12 x2)] w ov w' c s
    refine Zr_st (q := (19, [zp a0, zj x1, zj x2], [zj x1, zj (zgi l_12 x2)])) rfl rfl rfl ?_
    show Zr sc 85 19 [zp a0, zj x1, zj x2] [zj x1, zj (zgi l_12 x2)] w ov w' c s
    obtain ⟨hr_13, h⟩ := h
    refine Zr_br (p := (zgi l_12 x2) ≠ x1) rfl rfl (zcmp_j (cnd := .ne) hr_13.1 hr_13.2) (fun hp => ?_) (fun hp => ?_)
    · replace h := h.1 hp
      show Zr sc 85 24 [zp a0, zj x1, zj x2] [] w ov w' c s
      refine rl_inc rfl rfl rfl rfl ?_
      show Zr sc 85 27 [zp a0, zj x1, zj (x2 + 1)] [] w ov w' c s
      refine Zr_st (q := (2, [zp a0, zj x1, zj (x2 + 1)], [])) rfl rfl rfl ?_
      show Zr sc 85 2 [zp a0, zj x1, zj (x2 + 1)] [] w ov w' c s
      exact h
    · replace h := h.2 hp
      show Zr sc 85 22 [zp a0, zj x1, zj x2] [] w ov w' c s
      refine Zr_st (q := (23, [zp a0, zj x1, zj x2], [zj x2])) rfl rfl rfl ?_
      show Zr sc 85 23 [zp a0, zj x1, zj x2] [zj x2] w ov w' c s
      obtain ⟨h1, h2, h3, h4⟩ := h
      subst h1; subst h2; subst h3; subst h4
      exact Zr_ret (ins := .ireturn) rfl rfl

-- HeapwrightLab$Blocks.remove(I)V
theorem V84_0 {sc : List Value} {w w' : List zE} {ov : Option Value} {c s : Nat} {a0 : Nat} {x1 : Int} (h : (∃ f0_2 : Nat, ∃ f1_3 : Nat, ∃ f2_4 : Nat, ∃ f3_5 : Nat, ∃ f4_6 : Int, ∃ f5_7 : Int, w[a0]? = some (zob 0 [zp f0_2, zp f1_3, zp f2_4, zp f3_5, zj f4_6, zj f5_7]) ∧ (∃ r_10 : Int, ∃ w_8 : List zE, Zc sc 7 [zp a0, zj x1] w (some (zj r_10)) w_8 0 0 ∧ ((zrg r_10) ∧ ((r_10 ≠ 0 → (∃ f0_13 : Nat, ∃ f1_14 : Nat, ∃ f2_15 : Nat, ∃ f3_16 : Nat, ∃ f4_17 : Int, ∃ f5_18 : Int, w_8[a0]? = some (zob 0 [zp f0_13, zp f1_14, zp f2_15, zp f3_16, zj f4_17, zj f5_18]) ∧ (∃ r_21 : Int, ∃ w_19 : List zE, Zc sc 85 [zp a0, zj x1] w_8 (some (zj r_21)) w_19 0 0 ∧ Zr sc 84 15 [zp a0, zj x1, zj r_21] [] w_19 ov w' c s))) ∧ (¬ (r_10 ≠ 0) → (ov = none ∧ w' = w_8 ∧ c = 0 ∧ s = 0))))))) : Zr sc 84 0 [zp a0, zj x1, zmk] [] w ov w' c s := by
  refine Zr_st (q := (1, [zp a0, zj x1, zmk], [zp a0])) rfl rfl rfl ?_
  show Zr sc 84 1 [zp a0, zj x1, zmk] [zp a0] w ov w' c s
  refine Zr_st (q := (2, [zp a0, zj x1, zmk], [zj x1, zp a0])) rfl rfl rfl ?_
  show Zr sc 84 2 [zp a0, zj x1, zmk] [zj x1, zp a0] w ov w' c s
  obtain ⟨f0_2, f1_3, f2_4, f3_5, f4_6, f5_7, hw_1, h⟩ := h
  obtain ⟨r_10, w_8, hk_9, h⟩ := h
  refine rn_cal0 (ins := .invokevirtual 37) (rest := []) rfl rfl rfl rfl (zinv_v (fs := _) hw_1 rfl rfl rfl rfl) rfl rfl hk_9 ?_
  show Zr sc 84 5 [zp a0, zj x1, zmk] [zj r_10] w_8 ov w' c s
  obtain ⟨hr_11, h⟩ := h
  refine Zr_b0 (p := r_10 ≠ 0) rfl rfl (zcmp_0 (cnd := .ne) hr_11) (fun hp => ?_) (fun hp => ?_)
  · replace h := h.1 hp
    show Zr sc 84 9 [zp a0, zj x1, zmk] [] w_8 ov w' c s
    refine Zr_st (q := (10, [zp a0, zj x1, zmk], [zp a0])) rfl rfl rfl ?_
    show Zr sc 84 10 [zp a0, zj x1, zmk] [zp a0] w_8 ov w' c s
    refine Zr_st (q := (11, [zp a0, zj x1, zmk], [zj x1, zp a0])) rfl rfl rfl ?_
    show Zr sc 84 11 [zp a0, zj x1, zmk] [zj x1, zp a0] w_8 ov w' c s
    obtain ⟨f0_13, f1_14, f2_15, f3_16, f4_17, f5_18, hw_12, h⟩ := h
    obtain ⟨r_21, w_19, hk_20, h⟩ := h
    refine rn_cal0 (ins := .invokevirtual 51) (rest := []) rfl rfl rfl rfl (zinv_v (fs := _) hw_12 rfl rfl rfl rfl) rfl rfl hk_20 ?_
    show Zr sc 84 14 [zp a0, zj x1, zmk] [zj r_21] w_19 ov w' c s
    refine Zr_st (q := (15, [zp a0, zj x1, zj r_21], [])) rfl rfl rfl ?_
    show Zr sc 84 15 [zp a0, zj x1, zj r_21] [] w_19 ov w' c s
    exact h
  · replace h := h.2 hp
    show Zr sc 84 8 [zp a0, zj x1, zmk] [] w_8 ov w' c s
    obtain ⟨h1, h2, h3, h4⟩ := h
    subst h1; subst h2; subst h3; subst h4
    exact Zr_ret (ins := .return_) rfl rfl
theorem V84_15 {sc : List Value} {w w' : List zE} {ov : Option Value} {c s : Nat} {a0 : Nat} {x1 : Int} {x2 : Int} (h : (∃ f0_2 : Nat, ∃ f1_3 : Nat, ∃ f2_4 : Nat, ∃ f3_5 : Nat, ∃ f4_6 : Int, ∃ f5_7 : Int, w[a0]? = some (zob 0 [zp f0_2, zp f1_3, zp f2_4, zp f3_5, zj f4_6, zj f5_7]) ∧ ((zrg x2 ∧ zrg (f4_6 - 1)) ∧ (((f4_6 - 1) ≤ x2 → ((a0 ≠ f2_4) ∧ (∃ l_12 : List Int, w[f2_4]? = some (za l_12) ∧ ((0 ≤ x1 ∧ x1 < (l_12.length : Int) ∧ x1 ≤ 2147483647) ∧ ((0 ≤ x1 ∧ x1 < (l_12.length : Int) ∧ x1 ≤ 2147483647) ∧ (ov = none ∧ w' = (((w.set a0 (zob 0 [zp f0_2, zp f1_3, zp f2_4, zp f3_5, zj (f4_6 - 1), zj f5_7])).set a0 (zob 0 [zp f0_2, zp f1_3, zp f2_4, zp f3_5, zj (f4_6 - 1), zj (f5_7 - (zgi l_12 x1))])).set f2_4 (za (zsi l_12 x1 0))) ∧ c = 0 ∧ s = 0)))))) ∧ (¬ ((f4_6 - 1) ≤ x2) → (∃ l_16 : List Int, w[f3_5]? = some (za l_16) ∧ ((0 ≤ (x2 + 1) ∧ (x2 + 1) < (l_16.length : Int) ∧ (x2 + 1) ≤ 2147483647) ∧ ((0 ≤ x2 ∧ x2 < (l_16.length : Int) ∧ x2 ≤ 2147483647) ∧ Zr sc 84 15 [zp a0, zj x1, zj (x2 + 1)] [] (w.set f3_5 (za (zsi l_16 x2 (zgi l_16 (x2 + 1))))) ov w' c s)))))))) : Zr sc 84 15 [zp a0, zj x1, zj x2] [] w ov w' c s := by
  refine Zr_st (q := (16, [zp a0, zj x1, zj x2], [zj x2])) rfl rfl rfl ?_
  show Zr sc 84 16 [zp a0, zj x1, zj x2] [zj x2] w ov w' c s
  refine Zr_st (q := (17, [zp a0, zj x1, zj x2], [zp a0, zj x2])) rfl rfl rfl ?_
  show Zr sc 84 17 [zp a0, zj x1, zj x2] [zp a0, zj x2] w ov w' c s
  obtain ⟨f0_2, f1_3, f2_4, f3_5, f4_6, f5_7, hw_1, h⟩ := h
  refine rl_gf rfl hw_1 rfl rfl ?_
  show Zr sc 84 20 [zp a0, zj x1, zj x2] [zj f4_6, zj x2] w ov w' c s
  refine rl_ic rfl ?_
  show Zr sc 84 21 [zp a0, zj x1, zj x2] [zj 1, zj f4_6, zj x2] w ov w' c s
  refine rl_sub rfl ?_
  show Zr sc 84 22 [zp a0, zj x1, zj x2] [zj (f4_6 - 1), zj x2] w ov w' c s
  obtain ⟨hr_8, h⟩ := h
  refine Zr_br (p := (f4_6 - 1) ≤ x2) rfl rfl (zcmp_j (cnd := .ge) hr_8.1 hr_8.2) (fun hp => ?_) (fun hp => ?_)
  · replace h := h.1 hp
    show Zr sc 84 45 [zp a0, zj x1, zj x2] [] w ov w' c s
    refine Zr_st (q := (46, [zp a0, zj x1, zj x2], [zp a0])) rfl rfl rfl ?_
    show Zr sc 84 46 [zp a0, zj x1, zj x2] [zp a0] w ov w' c s
    refine Zr_st (q := (47, [zp a0, zj x1, zj x2], [zp a0, zp a0])) rfl rfl rfl ?_
    show Zr sc 84 47 [zp a0, zj x1, zj x2] [zp a0, zp a0] w ov w' c s
    refine rl_gf rfl hw_1 rfl rfl ?_
    show Zr sc 84 50 [zp a0, zj x1, zj x2] [zj f4_6, zp a0] w ov w' c s
    refine rl_ic rfl ?_
    show Zr sc 84 51 [zp a0, zj x1, zj x2] [zj 1, zj f4_6, zp a0] w ov w' c s
    refine rl_sub rfl ?_
    show Zr sc 84 52 [zp a0, zj x1, zj x2] [zj (f4_6 - 1), zp a0] w ov w' c s
    refine rl_pf rfl hw_1 rfl rfl rfl ?_
    show Zr sc 84 55 [zp a0, zj x1, zj x2] [] (w.set a0 (zob 0 [zp f0_2, zp f1_3, zp f2_4, zp f3_5, zj (f4_6 - 1), zj f5_7])) ov w' c s
    refine Zr_st (q := (56, [zp a0, zj x1, zj x2], [zp a0])) rfl rfl rfl ?_
    show Zr sc 84 56 [zp a0, zj x1, zj x2] [zp a0] (w.set a0 (zob 0 [zp f0_2, zp f1_3, zp f2_4, zp f3_5, zj (f4_6 - 1), zj f5_7])) ov w' c s
    refine Zr_st (q := (57, [zp a0, zj x1, zj x2], [zp a0, zp a0])) rfl rfl rfl ?_
    show Zr sc 84 57 [zp a0, zj x1, zj x2] [zp a0, zp a0] (w.set a0 (zob 0 [zp f0_2, zp f1_3, zp f2_4, zp f3_5, zj (f4_6 - 1), zj f5_7])) ov w' c s
    refine rl_gf rfl (zw_s hw_1) rfl rfl ?_
    show Zr sc 84 60 [zp a0, zj x1, zj x2] [zj f5_7, zp a0] (w.set a0 (zob 0 [zp f0_2, zp f1_3, zp f2_4, zp f3_5, zj (f4_6 - 1), zj f5_7])) ov w' c s
    refine Zr_st (q := (61, [zp a0, zj x1, zj x2], [zp a0, zj f5_7, zp a0])) rfl rfl rfl ?_
    show Zr sc 84 61 [zp a0, zj x1, zj x2] [zp a0, zj f5_7, zp a0] (w.set a0 (zob 0 [zp f0_2, zp f1_3, zp f2_4, zp f3_5, zj (f4_6 - 1), zj f5_7])) ov w' c s
    refine rl_gf rfl (zw_s hw_1) rfl rfl ?_
    show Zr sc 84 64 [zp a0, zj x1, zj x2] [zp f2_4, zj f5_7, zp a0] (w.set a0 (zob 0 [zp f0_2, zp f1_3, zp f2_4, zp f3_5, zj (f4_6 - 1), zj f5_7])) ov w' c s
    refine Zr_st (q := (65, [zp a0, zj x1, zj x2], [zj x1, zp f2_4, zj f5_7, zp a0])) rfl rfl rfl ?_
    show Zr sc 84 65 [zp a0, zj x1, zj x2] [zj x1, zp f2_4, zj f5_7, zp a0] (w.set a0 (zob 0 [zp f0_2, zp f1_3, zp f2_4, zp f3_5, zj (f4_6 - 1), zj f5_7])) ov w' c s
    obtain ⟨hn_10, h⟩ := h
    obtain ⟨l_12, hw_11, h⟩ := h
    obtain ⟨hi_9, h⟩ := h
    refine rl_ia rfl (zw_o hn_10 hw_11) hi_9.1 hi_9.2.1 hi_9.2.2 ?_
    show Zr sc 84 66 [zp a0, zj x1, zj x2] [zj (zgi l_12 x1), zj f5_7, zp a0] (w.set a0 (zob 0 [zp f0_2, zp f1_3, zp f2_4, zp f3_5, zj (f4_6 - 1), zj f5_7])) ov w' c s
    refine rl_sub rfl ?_
    show Zr sc 84 67 [zp a0, zj x1, zj x2] [zj (f5_7 - (zgi l_12 x1)), zp a0] (w.set a0 (zob 0 [zp f0_2, zp f1_3, zp f2_4, zp f3_5, zj (f4_6 - 1), zj f5_7])) ov w' c s
    refine rl_pf rfl (zw_s hw_1) rfl rfl rfl ?_
    show Zr sc 84 70 [zp a0, zj x1, zj x2] [] ((w.set a0 (zob 0 [zp f0_2, zp f1_3, zp f2_4, zp f3_5, zj (f4_6 - 1), zj f5_7])).set a0 (zob 0 [zp f0_2, zp f1_3, zp f2_4, zp f3_5, zj (f4_6 - 1), zj (f5_7 - (zgi l_12 x1))])) ov w' c s
    refine Zr_st (q := (71, [zp a0, zj x1, zj x2], [zp a0])) rfl rfl rfl ?_
    show Zr sc 84 71 [zp a0, zj x1, zj x2] [zp a0] ((w.set a0 (zob 0 [zp f0_2, zp f1_3, zp f2_4, zp f3_5, zj (f4_6 - 1), zj f5_7])).set a0 (zob 0 [zp f0_2, zp f1_3, zp f2_4, zp f3_5, zj (f4_6 - 1), zj (f5_7 - (zgi l_12 x1))])) ov w' c s
    refine rl_gf rfl (zw_s (zw_s hw_1)) rfl rfl ?_
    show Zr sc 84 74 [zp a0, zj x1, zj x2] [zp f2_4] ((w.set a0 (zob 0 [zp f0_2, zp f1_3, zp f2_4, zp f3_5, zj (f4_6 - 1), zj f5_7])).set a0 (zob 0 [zp f0_2, zp f1_3, zp f2_4, zp f3_5, zj (f4_6 - 1), zj (f5_7 - (zgi l_12 x1))])) ov w' c s
    refine Zr_st (q := (75, [zp a0, zj x1, zj x2], [zj x1, zp f2_4])) rfl rfl rfl ?_
    show Zr sc 84 75 [zp a0, zj x1, zj x2] [zj x1, zp f2_4] ((w.set a0 (zob 0 [zp f0_2, zp f1_3, zp f2_4, zp f3_5, zj (f4_6 - 1), zj f5_7])).set a0 (zob 0 [zp f0_2, zp f1_3, zp f2_4, zp f3_5, zj (f4_6 - 1), zj (f5_7 - (zgi l_12 x1))])) ov w' c s
    refine rl_ic rfl ?_
    show Zr sc 84 76 [zp a0, zj x1, zj x2] [zj 0, zj x1, zp f2_4] ((w.set a0 (zob 0 [zp f0_2, zp f1_3, zp f2_4, zp f3_5, zj (f4_6 - 1), zj f5_7])).set a0 (zob 0 [zp f0_2, zp f1_3, zp f2_4, zp f3_5, zj (f4_6 - 1), zj (f5_7 - (zgi l_12 x1))])) ov w' c s
    obtain ⟨hi_13, h⟩ := h
    refine rl_is rfl (zw_o hn_10 (zw_o hn_10 hw_11)) hi_13.1 hi_13.2.1 hi_13.2.2 ?_
    show Zr sc 84 77 [zp a0, zj x1, zj x2] [] (((w.set a0 (zob 0 [zp f0_2, zp f1_3, zp f2_4, zp f3_5, zj (f4_6 - 1), zj f5_7])).set a0 (zob 0 [zp f0_2, zp f1_3, zp f2_4, zp f3_5, zj (f4_6 - 1), zj (f5_7 - (zgi l_12 x1))])).set f2_4 (za (zsi l_12 x1 0))) ov w' c s
    obtain ⟨h1, h2, h3, h4⟩ := h
    subst h1; subst h2; subst h3; subst h4
    exact Zr_ret (ins := .return_) rfl rfl
  · replace h := h.2 hp
    show Zr sc 84 25 [zp a0, zj x1, zj x2] [] w ov w' c s
    refine Zr_st (q := (26, [zp a0, zj x1, zj x2], [zp a0])) rfl rfl rfl ?_
    show Zr sc 84 26 [zp a0, zj x1, zj x2] [zp a0] w ov w' c s
    refine rl_gf rfl hw_1 rfl rfl ?_
    show Zr sc 84 29 [zp a0, zj x1, zj x2] [zp f3_5] w ov w' c s
    refine Zr_st (q := (30, [zp a0, zj x1, zj x2], [zj x2, zp f3_5])) rfl rfl rfl ?_
    show Zr sc 84 30 [zp a0, zj x1, zj x2] [zj x2, zp f3_5] w ov w' c s
    refine Zr_st (q := (31, [zp a0, zj x1, zj x2], [zp a0, zj x2, zp f3_5])) rfl rfl rfl ?_
    show Zr sc 84 31 [zp a0, zj x1, zj x2] [zp a0, zj x2, zp f3_5] w ov w' c s
    refine rl_gf rfl hw_1 rfl rfl ?_
    show Zr sc 84 34 [zp a0, zj x1, zj x2] [zp f3_5, zj x2, zp f3_5] w ov w' c s
    refine Zr_st (q := (35, [zp a0, zj x1, zj x2], [zj x2, zp f3_5, zj x2, zp f3_5])) rfl rfl rfl ?_
    show Zr sc 84 35 [zp a0, zj x1, zj x2] [zj x2, zp f3_5, zj x2, zp f3_5] w ov w' c s
    refine rl_ic rfl ?_
    show Zr sc 84 36 [zp a0, zj x1, zj x2] [zj 1, zj x2, zp f3_5, zj x2, zp f3_5] w ov w' c s
    refine rl_add rfl ?_
    show Zr sc 84 37 [zp a0, zj x1, zj x2] [zj (x2 + 1), zp f3_5, zj x2, zp f3_5] w ov w' c s
    obtain ⟨l_16, hw_15, h⟩ := h
    obtain ⟨hi_14, h⟩ := h
    refine rl_ia rfl hw_15 hi_14.1 hi_14.2.1 hi_14.2.2 ?_
    show Zr sc 84 38 [zp a0, zj x1, zj x2] [zj (zgi l_16 (x2 + 1)), zj x2, zp f3_5] w ov w' c s
    obtain ⟨hi_17, h⟩ := h
    refine rl_is rfl hw_15 hi_17.1 hi_17.2.1 hi_17.2.2 ?_
    show Zr sc 84 39 [zp a0, zj x1, zj x2] [] (w.set f3_5 (za (zsi l_16 x2 (zgi l_16 (x2 + 1))))) ov w' c s
    refine rl_inc rfl rfl rfl rfl ?_
    show Zr sc 84 42 [zp a0, zj x1, zj (x2 + 1)] [] (w.set f3_5 (za (zsi l_16 x2 (zgi l_16 (x2 + 1))))) ov w' c s
    refine Zr_st (q := (15, [zp a0, zj x1, zj (x2 + 1)], [])) rfl rfl rfl ?_
    show Zr sc 84 15 [zp a0, zj x1, zj (x2 + 1)] [] (w.set f3_5 (za (zsi l_16 x2 (zgi l_16 (x2 + 1))))) ov w' c s
    exact h

-- HeapwrightLab$Blocks.put(IIII)V
theorem V68_0 {sc : List Value} {w w' : List zE} {ov : Option Value} {c s : Nat} {a0 : Nat} {x1 : Int} {x2 : Int} {x3 : Int} {x4 : Int} (h : ((zrg x1) ∧ ((x1 < 0 → (ov = none ∧ w' = w ∧ c = 0 ∧ s = 0)) ∧ (¬ (x1 < 0) → (∃ f0_3 : Nat, ∃ f1_4 : Nat, ∃ f2_5 : Nat, ∃ f3_6 : Nat, ∃ f4_7 : Int, ∃ f5_8 : Int, w[a0]? = some (zob 0 [zp f0_3, zp f1_4, zp f2_5, zp f3_6, zj f4_7, zj f5_8]) ∧ (∃ l_10 : List Int, w[f2_5]? = some (za l_10) ∧ ((zrg x1 ∧ zrg (l_10.length : Int)) ∧ (((l_10.length : Int) ≤ x1 → (ov = none ∧ w' = w ∧ c = 0 ∧ s = 0)) ∧ (¬ ((l_10.length : Int) ≤ x1) → (∃ r_14 : Int, ∃ w_12 : List zE, Zc sc 7 [zp a0, zj x1] w (some (zj r_14)) w_12 0 0 ∧ ((zrg r_14) ∧ ((r_14 ≠ 0 → (ov = none ∧ w' = w_12 ∧ c = 0 ∧ s = 0)) ∧ (¬ (r_14 ≠ 0) → (∃ f0_17 : Nat, ∃ f1_18 : Nat, ∃ f2_19 : Nat, ∃ f3_20 : Nat, ∃ f4_21 : Int, ∃ f5_22 : Int, w_12[a0]? = some (zob 0 [zp f0_17, zp f1_18, zp f2_19, zp f3_20, zj f4_21, zj f5_22]) ∧ (∃ l_24 : List Int, w_12[f3_20]? = some (za l_24) ∧ ((zrg f4_21 ∧ zrg (l_24.length : Int)) ∧ ((f4_21 < (l_24.length : Int) → Zr sc 68 40 [zp a0, zj x1, zj x2, zj x3, zj x4, zj f4_21] [] w_12 ov w' c s) ∧ (¬ (f4_21 < (l_24.length : Int)) → (ov = none ∧ w' = w_12 ∧ c = 0 ∧ s = 0))))))))))))))))))) : Zr sc 68 0 [zp a0, zj x1, zj x2, zj x3, zj x4, zmk] [] w ov w' c s := by
  refine Zr_st (q := (1, [zp a0, zj x1, zj x2, zj x3, zj x4, zmk], [zj x1])) rfl rfl rfl ?_
  show Zr sc 68 1 [zp a0, zj x1, zj x2, zj x3, zj x4, zmk] [zj x1] w ov w' c s
  obtain ⟨hr_1, h⟩ := h
  refine Zr_b0 (p := x1 < 0) rfl rfl (zcmp_0 (cnd := .lt) hr_1) (fun hp => ?_) (fun hp => ?_)
  · replace h := h.1 hp
    show Zr sc 68 33 [zp a0, zj x1, zj x2, zj x3, zj x4, zmk] [] w ov w' c s
    obtain ⟨h1, h2, h3, h4⟩ := h
    subst h1; subst h2; subst h3; subst h4
    exact Zr_ret (ins := .return_) rfl rfl
  · replace h := h.2 hp
    show Zr sc 68 4 [zp a0, zj x1, zj x2, zj x3, zj x4, zmk] [] w ov w' c s
    refine Zr_st (q := (5, [zp a0, zj x1, zj x2, zj x3, zj x4, zmk], [zj x1])) rfl rfl rfl ?_
    show Zr sc 68 5 [zp a0, zj x1, zj x2, zj x3, zj x4, zmk] [zj x1] w ov w' c s
    refine Zr_st (q := (6, [zp a0, zj x1, zj x2, zj x3, zj x4, zmk], [zp a0, zj x1])) rfl rfl rfl ?_
    show Zr sc 68 6 [zp a0, zj x1, zj x2, zj x3, zj x4, zmk] [zp a0, zj x1] w ov w' c s
    obtain ⟨f0_3, f1_4, f2_5, f3_6, f4_7, f5_8, hw_2, h⟩ := h
    refine rl_gf rfl hw_2 rfl rfl ?_
    show Zr sc 68 9 [zp a0, zj x1, zj x2, zj x3, zj x4, zmk] [zp f2_5, zj x1] w ov w' c s
    obtain ⟨l_10, hw_9, h⟩ := h
    refine rl_al rfl hw_9 ?_
    show Zr sc 68 10 [zp a0, zj x1, zj x2, zj x3, zj x4, zmk] [zj (l_10.length : Int), zj x1] w ov w' c s
    obtain ⟨hr_11, h⟩ := h
    refine Zr_br (p := (l_10.length : Int) ≤ x1) rfl rfl (zcmp_j (cnd := .ge) hr_11.1 hr_11.2) (fun hp => ?_) (fun hp => ?_)
    · replace h := h.1 hp
      show Zr sc 68 33 [zp a0, zj x1, zj x2, zj x3, zj x4, zmk] [] w ov w' c s
      obtain ⟨h1, h2, h3, h4⟩ := h
      subst h1; subst h2; subst h3; subst h4
      exact Zr_ret (ins := .return_) rfl rfl
    · replace h := h.2 hp
      show Zr sc 68 13 [zp a0, zj x1, zj x2, zj x3, zj x4, zmk] [] w ov w' c s
      refine Zr_st (q := (14, [zp a0, zj x1, zj x2, zj x3, zj x4, zmk], [zp a0])) rfl rfl rfl ?_
      show Zr sc 68 14 [zp a0, zj x1, zj x2, zj x3, zj x4, zmk] [zp a0] w ov w' c s
      refine Zr_st (q := (15, [zp a0, zj x1, zj x2, zj x3, zj x4, zmk], [zj x1, zp a0])) rfl rfl rfl ?_
      show Zr sc 68 15 [zp a0, zj x1, zj x2, zj x3, zj x4, zmk] [zj x1, zp a0] w ov w' c s
      obtain ⟨r_14, w_12, hk_13, h⟩ := h
      refine rn_cal0 (ins := .invokevirtual 37) (rest := []) rfl rfl rfl rfl (zinv_v (fs := _) hw_2 rfl rfl rfl rfl) rfl rfl hk_13 ?_
      show Zr sc 68 18 [zp a0, zj x1, zj x2, zj x3, zj x4, zmk] [zj r_14] w_12 ov w' c s
      obtain ⟨hr_15, h⟩ := h
      refine Zr_b0 (p := r_14 ≠ 0) rfl rfl (zcmp_0 (cnd := .ne) hr_15) (fun hp => ?_) (fun hp => ?_)
      · replace h := h.1 hp
        show Zr sc 68 33 [zp a0, zj x1, zj x2, zj x3, zj x4, zmk] [] w_12 ov w' c s
        obtain ⟨h1, h2, h3, h4⟩ := h
        subst h1; subst h2; subst h3; subst h4
        exact Zr_ret (ins := .return_) rfl rfl
      · replace h := h.2 hp
        show Zr sc 68 21 [zp a0, zj x1, zj x2, zj x3, zj x4, zmk] [] w_12 ov w' c s
        refine Zr_st (q := (22, [zp a0, zj x1, zj x2, zj x3, zj x4, zmk], [zp a0])) rfl rfl rfl ?_
        show Zr sc 68 22 [zp a0, zj x1, zj x2, zj x3, zj x4, zmk] [zp a0] w_12 ov w' c s
        obtain ⟨f0_17, f1_18, f2_19, f3_20, f4_21, f5_22, hw_16, h⟩ := h
        refine rl_gf rfl hw_16 rfl rfl ?_
        show Zr sc 68 25 [zp a0, zj x1, zj x2, zj x3, zj x4, zmk] [zj f4_21] w_12 ov w' c s
        refine Zr_st (q := (26, [zp a0, zj x1, zj x2, zj x3, zj x4, zmk], [zp a0, zj f4_21])) rfl rfl rfl ?_
        show Zr sc 68 26 [zp a0, zj x1, zj x2, zj x3, zj x4, zmk] [zp a0, zj f4_21] w_12 ov w' c s
        refine rl_gf rfl hw_16 rfl rfl ?_
        show Zr sc 68 29 [zp a0, zj x1, zj x2, zj x3, zj x4, zmk] [zp f3_20, zj f4_21] w_12 ov w' c s
        obtain ⟨l_24, hw_23, h⟩ := h
        refine rl_al rfl hw_23 ?_
        show Zr sc 68 30 [zp a0, zj x1, zj x2, zj x3, zj x4, zmk] [zj (l_24.length : Int), zj f4_21] w_12 ov w' c s
        obtain ⟨hr_25, h⟩ := h
        refine Zr_br (p := f4_21 < (l_24.length : Int)) rfl rfl (zcmp_j (cnd := .lt) hr_25.1 hr_25.2) (fun hp => ?_) (fun hp => ?_)
        · replace h := h.1 hp
          show Zr sc 68 34 [zp a0, zj x1, zj x2, zj x3, zj x4, zmk] [] w_12 ov w' c s
          refine Zr_st (q := (35, [zp a0, zj x1, zj x2, zj x3, zj x4, zmk], [zp a0])) rfl rfl rfl ?_
          show Zr sc 68 35 [zp a0, zj x1, zj x2, zj x3, zj x4, zmk] [zp a0] w_12 ov w' c s
          refine rl_gf rfl hw_16 rfl rfl ?_
          show Zr sc 68 38 [zp a0, zj x1, zj x2, zj x3, zj x4, zmk] [zj f4_21] w_12 ov w' c s
          refine Zr_st (q := (40, [zp a0, zj x1, zj x2, zj x3, zj x4, zj f4_21], [])) rfl rfl rfl ?_
          show Zr sc 68 40 [zp a0, zj x1, zj x2, zj x3, zj x4, zj f4_21] [] w_12 ov w' c s
          exact h
        · replace h := h.2 hp
          show Zr sc 68 33 [zp a0, zj x1, zj x2, zj x3, zj x4, zmk] [] w_12 ov w' c s
          obtain ⟨h1, h2, h3, h4⟩ := h
          subst h1; subst h2; subst h3; subst h4
          exact Zr_ret (ins := .return_) rfl rfl
theorem V68_40 {sc : List Value} {w w' : List zE} {ov : Option Value} {c s : Nat} {a0 : Nat} {x1 : Int} {x2 : Int} {x3 : Int} {x4 : Int} {x5 : Int} (h : ((zrg x5) ∧ ((x5 ≤ 0 → (∃ f0_3 : Nat, ∃ f1_4 : Nat, ∃ f2_5 : Nat, ∃ f3_6 : Nat, ∃ f4_7 : Int, ∃ f5_8 : Int, w[a0]? = some (zob 0 [zp f0_3, zp f1_4, zp f2_5, zp f3_6, zj f4_7, zj f5_8]) ∧ (∃ l_11 : List Int, w[f3_6]? = some (za l_11) ∧ ((0 ≤ x5 ∧ x5 < (l_11.length : Int) ∧ x5 ≤ 2147483647) ∧ ((f3_6 ≠ a0) ∧ ((a0 ≠ f0_3) ∧ ((f3_6 ≠ f0_3) ∧ (∃ l_17 : List Int, w[f0_3]? = some (za l_17) ∧ ((0 ≤ x1 ∧ x1 < (l_17.length : Int) ∧ x1 ≤ 2147483647) ∧ ((f0_3 ≠ a0) ∧ ((f0_3 ≠ f1_4) ∧ ((a0 ≠ f1_4) ∧ ((f3_6 ≠ f1_4) ∧ (∃ l_24 : List Int, w[f1_4]? = some (za l_24) ∧ ((0 ≤ x1 ∧ x1 < (l_24.length : Int) ∧ x1 ≤ 2147483647) ∧ ((f1_4 ≠ a0) ∧ ((f1_4 ≠ f2_5) ∧ ((f0_3 ≠ f2_5) ∧ ((a0 ≠ f2_5) ∧ ((f3_6 ≠ f2_5) ∧ (∃ l_32 : List Int, w[f2_5]? = some (za l_32) ∧ ((0 ≤ x1 ∧ x1 < (l_32.length : Int) ∧ x1 ≤ 2147483647) ∧ ((f2_5 ≠ a0) ∧ (ov = none ∧ w' = ((((((w.set f3_6 (za (zsi l_11 x5 x1))).set a0 (zob 0 [zp f0_3, zp f1_4, zp f2_5, zp f3_6, zj (f4_7 + 1), zj f5_8])).set f0_3 (za (zsi l_17 x1 x2))).set f1_4 (za (zsi l_24 x1 x3))).set f2_5 (za (zsi l_32 x1 x4))).set a0 (zob 0 [zp f0_3, zp f1_4, zp f2_5, zp f3_6, zj (f4_7 + 1), zj (f5_8 + x4)])) ∧ c = 0 ∧ s = 0)))))))))))))))))))))))) ∧ (¬ (x5 ≤ 0) → (∃ f0_35 : Nat, ∃ f1_36 : Nat, ∃ f2_37 : Nat, ∃ f3_38 : Nat, ∃ f4_39 : Int, ∃ f5_40 : Int, w[a0]? = some (zob 0 [zp f0_35, zp f1_36, zp f2_37, zp f3_38, zj f4_39, zj f5_40]) ∧ (∃ l_43 : List Int, w[f3_38]? = some (za l_43) ∧ ((0 ≤ (x5 - 1) ∧ (x5 - 1) < (l_43.length : Int) ∧ (x5 - 1) ≤ 2147483647) ∧ (∃ r_46 : Int, ∃ w_44 : List zE, Zc sc 9 [zp a0, zj (zgi l_43 (x5 - 1))] w (some (zj r_46)) w_44 0 0 ∧ ((zrg r_46 ∧ zrg x2) ∧ ((r_46 ≤ x2 → (∃ f0_49 : Nat, ∃ f1_50 : Nat, ∃ f2_51 : Nat, ∃ f3_52 : Nat, ∃ f4_53 : Int, ∃ f5_54 : Int, w_44[a0]? = some (zob 0 [zp f0_49, zp f1_50, zp f2_51, zp f3_52, zj f4_53, zj f5_54]) ∧ (∃ l_57 : List Int, w_44[f3_52]? = some (za l_57) ∧ ((0 ≤ x5 ∧ x5 < (l_57.length : Int) ∧ x5 ≤ 2147483647) ∧ ((f3_52 ≠ a0) ∧ ((a0 ≠ f0_49) ∧ ((f3_52 ≠ f0_49) ∧ (∃ l_63 : List Int, w_44[f0_49]? = some (za l_63) ∧ ((0 ≤ x1 ∧ x1 < (l_63.length : Int) ∧ x1 ≤ 2147483647) ∧ ((f0_49 ≠ a0) ∧ ((f0_49 ≠ f1_50) ∧ ((a0 ≠ f1_50) ∧ ((f3_52 ≠ f1_50) ∧ (∃ l_70 : List Int, w_44[f1_50]? = some (za l_70) ∧ ((0 ≤ x1 ∧ x1 < (l_70.length : Int) ∧ x1 ≤ 2147483647) ∧ ((f1_50 ≠ a0) ∧ ((f1_50 ≠ f2_51) ∧ ((f0_49 ≠ f2_51) ∧ ((a0 ≠ f2_51) ∧ ((f3_52 ≠ f2_51) ∧ (∃ l_78 : List Int, w_44[f2_51]? = some (za l_78) ∧ ((0 ≤ x1 ∧ x1 < (l_78.length : Int) ∧ x1 ≤ 2147483647) ∧ ((f2_51 ≠ a0) ∧ (ov = none ∧ w' = ((((((w_44.set f3_52 (za (zsi l_57 x5 x1))).set a0 (zob 0 [zp f0_49, zp f1_50, zp f2_51, zp f3_52, zj (f4_53 + 1), zj f5_54])).set f0_49 (za (zsi l_63 x1 x2))).set f1_50 (za (zsi l_70 x1 x3))).set f2_51 (za (zsi l_78 x1 x4))).set a0 (zob 0 [zp f0_49, zp f1_50, zp f2_51, zp f3_52, zj (f4_53 + 1), zj (f5_54 + x4)])) ∧ c = 0 ∧ s = 0)))))))))))))))))))))))) ∧ (¬ (r_46 ≤ x2) → (∃ f0_81 : Nat, ∃ f1_82 : Nat, ∃ f2_83 : Nat, ∃ f3_84 : Nat, ∃ f4_85 : Int, ∃ f5_86 : Int, w_44[a0]? = some (zob 0 [zp f0_81, zp f1_82, zp f2_83, zp f3_84, zj f4_85, zj f5_86]) ∧ (∃ l_89 : List Int, w_44[f3_84]? = some (za l_89) ∧ ((0 ≤ (x5 - 1) ∧ (x5 - 1) < (l_89.length : Int) ∧ (x5 - 1) ≤ 2147483647) ∧ ((0 ≤ x5 ∧ x5 < (l_89.length : Int) ∧ x5 ≤ 2147483647) ∧ Zr sc 68 40 [zp a0, zj x1, zj x2, zj x3, zj x4, zj (x5 + (-1))] [] (w_44.set f3_84 (za (zsi l_89 x5 (zgi l_89 (x5 - 1))))) ov w' c s))))))))))))))) : Zr sc 68 40 [zp a0, zj x1, zj x2, zj x3, zj x4, zj x5] [] w ov w' c s := by
  refine Zr_st (q := (42, [zp a0, zj x1, zj x2, zj x3, zj x4, zj x5], [zj x5])) rfl rfl rfl ?_
  show Zr sc 68 42 [zp a0, zj x1, zj x2, zj x3, zj x4, zj x5] [zj x5] w ov w' c s
  obtain ⟨hr_1, h⟩ := h
  refine Zr_b0 (p := x5 ≤ 0) rfl rfl (zcmp_0 (cnd := .le) hr_1) (fun hp => ?_) (fun hp => ?_)
  · replace h := h.1 hp
    show Zr sc 68 84 [zp a0, zj x1, zj x2, zj x3, zj x4, zj x5] [] w ov w' c s
    refine Zr_st (q := (85, [zp a0, zj x1, zj x2, zj x3, zj x4, zj x5], [zp a0])) rfl rfl rfl ?_
    show Zr sc 68 85 [zp a0, zj x1, zj x2, zj x3, zj x4, zj x5] [zp a0] w ov w' c s
    obtain ⟨f0_3, f1_4, f2_5, f3_6, f4_7, f5_8, hw_2, h⟩ := h
    refine rl_gf rfl hw_2 rfl rfl ?_
    show Zr sc 68 88 [zp a0, zj x1, zj x2, zj x3, zj x4, zj x5] [zp f3_6] w ov w' c s
    refine Zr_st (q := (90, [zp a0, zj x1, zj x2, zj x3, zj x4, zj x5], [zj x5, zp f3_6])) rfl rfl rfl ?_
    show Zr sc 68 90 [zp a0, zj x1, zj x2, zj x3, zj x4, zj x5] [zj x5, zp f3_6] w ov w' c s
    refine Zr_st (q := (91, [zp a0, zj x1, zj x2, zj x3, zj x4, zj x5], [zj x1, zj x5, zp f3_6])) rfl rfl rfl ?_
    show Zr sc 68 91 [zp a0, zj x1, zj x2, zj x3, zj x4, zj x5] [zj x1, zj x5, zp f3_6] w ov w' c s
    obtain ⟨l_11, hw_10, h⟩ := h
    obtain ⟨hi_9, h⟩ := h
    refine rl_is rfl hw_10 hi_9.1 hi_9.2.1 hi_9.2.2 ?_
    show Zr sc 68 92 [zp a0, zj x1, zj x2, zj x3, zj x4, zj x5] [] (w.set f3_6 (za (zsi l_11 x5 x1))) ov w' c s
    refine Zr_st (q := (93, [zp a0, zj x1, zj x2, zj x3, zj x4, zj x5], [zp a0])) rfl rfl rfl ?_
    show Zr sc 68 93 [zp a0, zj x1, zj x2, zj x3, zj x4, zj x5] [zp a0] (w.set f3_6 (za (zsi l_11 x5 x1))) ov w' c s
    refine Zr_st (q := (94, [zp a0, zj x1, zj x2, zj x3, zj x4, zj x5], [zp a0, zp a0])) rfl rfl rfl ?_
    show Zr sc 68 94 [zp a0, zj x1, zj x2, zj x3, zj x4, zj x5] [zp a0, zp a0] (w.set f3_6 (za (zsi l_11 x5 x1))) ov w' c s
    obtain ⟨hn_12, h⟩ := h
    refine rl_gf rfl (zw_o hn_12 hw_2) rfl rfl ?_
    show Zr sc 68 97 [zp a0, zj x1, zj x2, zj x3, zj x4, zj x5] [zj f4_7, zp a0] (w.set f3_6 (za (zsi l_11 x5 x1))) ov w' c s
    refine rl_ic rfl ?_
    show Zr sc 68 98 [zp a0, zj x1, zj x2, zj x3, zj x4, zj x5] [zj 1, zj f4_7, zp a0] (w.set f3_6 (za (zsi l_11 x5 x1))) ov w' c s
    refine rl_add rfl ?_
    show Zr sc 68 99 [zp a0, zj x1, zj x2, zj x3, zj x4, zj x5] [zj (f4_7 + 1), zp a0] (w.set f3_6 (za (zsi l_11 x5 x1))) ov w' c s
    refine rl_pf rfl (zw_o hn_12 hw_2) rfl rfl rfl ?_
    show Zr sc 68 102 [zp a0, zj x1, zj x2, zj x3, zj x4, zj x5] [] ((w.set f3_6 (za (zsi l_11 x5 x1))).set a0 (zob 0 [zp f0_3, zp f1_4, zp f2_5, zp f3_6, zj (f4_7 + 1), zj f5_8])) ov w' c s
    refine Zr_st (q := (103, [zp a0, zj x1, zj x2, zj x3, zj x4, zj x5], [zp a0])) rfl rfl rfl ?_
    show Zr sc 68 103 [zp a0, zj x1, zj x2, zj x3, zj x4, zj x5] [zp a0] ((w.set f3_6 (za (zsi l_11 x5 x1))).set a0 (zob 0 [zp f0_3, zp f1_4, zp f2_5, zp f3_6, zj (f4_7 + 1), zj f5_8])) ov w' c s
    refine rl_gf rfl (zw_s (zw_o hn_12 hw_2)) rfl rfl ?_
    show Zr sc 68 106 [zp a0, zj x1, zj x2, zj x3, zj x4, zj x5] [zp f0_3] ((w.set f3_6 (za (zsi l_11 x5 x1))).set a0 (zob 0 [zp f0_3, zp f1_4, zp f2_5, zp f3_6, zj (f4_7 + 1), zj f5_8])) ov w' c s
    refine Zr_st (q := (107, [zp a0, zj x1, zj x2, zj x3, zj x4, zj x5], [zj x1, zp f0_3])) rfl rfl rfl ?_
    show Zr sc 68 107 [zp a0, zj x1, zj x2, zj x3, zj x4, zj x5] [zj x1, zp f0_3] ((w.set f3_6 (za (zsi l_11 x5 x1))).set a0 (zob 0 [zp f0_3, zp f1_4, zp f2_5, zp f3_6, zj (f4_7 + 1), zj f5_8])) ov w' c s
    refine Zr_st (q := (108, [zp a0, zj x1, zj x2, zj x3, zj x4, zj x5], [zj x2, zj x1, zp f0_3])) rfl rfl rfl ?_
    show Zr sc 68 108 [zp a0, zj x1, zj x2, zj x3, zj x4, zj x5] [zj x2, zj x1, zp f0_3] ((w.set f3_6 (za (zsi l_11 x5 x1))).set a0 (zob 0 [zp f0_3, zp f1_4, zp f2_5, zp f3_6, zj (f4_7 + 1), zj f5_8])) ov w' c s
    obtain ⟨hn_14, h⟩ := h
    obtain ⟨hn_15, h⟩ := h
    obtain ⟨l_17, hw_16, h⟩ := h
    obtain ⟨hi_13, h⟩ := h
    refine rl_is rfl (zw_o hn_14 (zw_o hn_15 hw_16)) hi_13.1 hi_13.2.1 hi_13.2.2 ?_
    show Zr sc 68 109 [zp a0, zj x1, zj x2, zj x3, zj x4, zj x5] [] (((w.set f3_6 (za (zsi l_11 x5 x1))).set a0 (zob 0 [zp f0_3, zp f1_4, zp f2_5, zp f3_6, zj (f4_7 + 1), zj f5_8])).set f0_3 (za (zsi l_17 x1 x2))) ov w' c s
    refine Zr_st (q := (110, [zp a0, zj x1, zj x2, zj x3, zj x4, zj x5], [zp a0])) rfl rfl rfl ?_
    show Zr sc 68 110 [zp a0, zj x1, zj x2, zj x3, zj x4, zj x5] [zp a0] (((w.set f3_6 (za (zsi l_11 x5 x1))).set a0 (zob 0 [zp f0_3, zp f1_4, zp f2_5, zp f3_6, zj (f4_7 + 1), zj f5_8])).set f0_3 (za (zsi l_17 x1 x2))) ov w' c s
    obtain ⟨hn_18, h⟩ := h
    refine rl_gf rfl (zw_o hn_18 (zw_s (zw_o hn_12 hw_2))) rfl rfl ?_
    show Zr sc 68 113 [zp a0, zj x1, zj x2, zj x3, zj x4, zj x5] [zp f1_4] (((w.set f3_6 (za (zsi l_11 x5 x1))).set a0 (zob 0 [zp f0_3, zp f1_4, zp f2_5, zp f3_6, zj (f4_7 + 1), zj f5_8])).set f0_3 (za (zsi l_17 x1 x2))) ov w' c s
    refine Zr_st (q := (114, [zp a0, zj x1, zj x2, zj x3, zj x4, zj x5], [zj x1, zp f1_4])) rfl rfl rfl ?_
    show Zr sc 68 114 [zp a0, zj x1, zj x2, zj x3, zj x4, zj x5] [zj x1, zp f1_4] (((w.set f3_6 (za (zsi l_11 x5 x1))).set a0 (zob 0 [zp f0_3, zp f1_4, zp f2_5, zp f3_6, zj (f4_7 + 1), zj f5_8])).set f0_3 (za (zsi l_17 x1 x2))) ov w' c s
    refine Zr_st (q := (115, [zp a0, zj x1, zj x2, zj x3, zj x4, zj x5], [zj x3, zj x1, zp f1_4])) rfl rfl rfl ?_
    show Zr sc 68 115 [zp a0, zj x1, zj x2, zj x3, zj x4, zj x5] [zj x3, zj x1, zp f1_4] (((w.set f3_6 (za (zsi l_11 x5 x1))).set a0 (zob 0 [zp f0_3, zp f1_4, zp f2_5, zp f3_6, zj (f4_7 + 1), zj f5_8])).set f0_3 (za (zsi l_17 x1 x2))) ov w' c s
    obtain ⟨hn_20, h⟩ := h
    obtain ⟨hn_21, h⟩ := h
    obtain ⟨hn_22, h⟩ := h
    obtain ⟨l_24, hw_23, h⟩ := h
    obtain ⟨hi_19, h⟩ := h
    refine rl_is rfl (zw_o hn_20 (zw_o hn_21 (zw_o hn_22 hw_23))) hi_19.1 hi_19.2.1 hi_19.2.2 ?_
    show Zr sc 68 116 [zp a0, zj x1, zj x2, zj x3, zj x4, zj x5] [] ((((w.set f3_6 (za (zsi l_11 x5 x1))).set a0 (zob 0 [zp f0_3, zp f1_4, zp f2_5, zp f3_6, zj (f4_7 + 1), zj f5_8])).set f0_3 (za (zsi l_17 x1 x2))).set f1_4 (za (zsi l_24 x1 x3))) ov w' c s
    refine Zr_st (q := (117, [zp a0, zj x1, zj x2, zj x3, zj x4, zj x5], [zp a0])) rfl rfl rfl ?_
    show Zr sc 68 117 [zp a0, zj x1, zj x2, zj x3, zj x4, zj x5] [zp a0] ((((w.set f3_6 (za (zsi l_11 x5 x1))).set a0 (zob 0 [zp f0_3, zp f1_4, zp f2_5, zp f3_6, zj (f4_7 + 1), zj f5_8])).set f0_3 (za (zsi l_17 x1 x2))).set f1_4 (za (zsi l_24 x1 x3))) ov w' c s
    obtain ⟨hn_25, h⟩ := h
    refine rl_gf rfl (zw_o hn_25 (zw_o hn_18 (zw_s (zw_o hn_12 hw_2)))) rfl rfl ?_
    show Zr sc 68 120 [zp a0, zj x1, zj x2, zj x3, zj x4, zj x5] [zp f2_5] ((((w.set f3_6 (za (zsi l_11 x5 x1))).set a0 (zob 0 [zp f0_3, zp f1_4, zp f2_5, zp f3_6, zj (f4_7 + 1), zj f5_8])).set f0_3 (za (zsi l_17 x1 x2))).set f1_4 (za (zsi l_24 x1 x3))) ov w' c s
    refine Zr_st (q := (121, [zp a0, zj x1, zj x2, zj x3, zj x4, zj x5], [zj x1, zp f2_5])) rfl rfl rfl ?_
    show Zr sc 68 121 [zp a0, zj x1, zj x2, zj x3, zj x4, zj x5] [zj x1, zp f2_5] ((((w.set f3_6 (za (zsi l_11 x5 x1))).set a0 (zob 0 [zp f0_3, zp f1_4, zp f2_5, zp f3_6, zj (f4_7 + 1), zj f5_8])).set f0_3 (za (zsi l_17 x1 x2))).set f1_4 (za (zsi l_24 x1 x3))) ov w' c s
    refine Zr_st (q := (123, [zp a0, zj x1, zj x2, zj x3, zj x4, zj x5], [zj x4, zj x1, zp f2_5])) rfl rfl rfl ?_
    show Zr sc 68 123 [zp a0, zj x1, zj x2, zj x3, zj x4, zj x5] [zj x4, zj x1, zp f2_5] ((((w.set f3_6 (za (zsi l_11 x5 x1))).set a0 (zob 0 [zp f0_3, zp f1_4, zp f2_5, zp f3_6, zj (f4_7 + 1), zj f5_8])).set f0_3 (za (zsi l_17 x1 x2))).set f1_4 (za (zsi l_24 x1 x3))) ov w' c s
    obtain ⟨hn_27, h⟩ := h
    obtain ⟨hn_28, h⟩ := h
    obtain ⟨hn_29, h⟩ := h
    obtain ⟨hn_30, h⟩ := h
    obtain ⟨l_32, hw_31, h⟩ := h
    obtain ⟨hi_26, h⟩ := h
    refine rl_is rfl (zw_o hn_27 (zw_o hn_28 (zw_o hn_29 (zw_o hn_30 hw_31)))) hi_26.1 hi_26.2.1 hi_26.2.2 ?_
    show Zr sc 68 124 [zp a0, zj x1, zj x2, zj x3, zj x4, zj x5] [] (((((w.set f3_6 (za (zsi l_11 x5 x1))).set a0 (zob 0 [zp f0_3, zp f1_4, zp f2_5, zp f3_6, zj (f4_7 + 1), zj f5_8])).set f0_3 (za (zsi l_17 x1 x2))).set f1_4 (za (zsi l_24 x1 x3))).set f2_5 (za (zsi l_32 x1 x4))) ov w' c s
    refine Zr_st (q := (125, [zp a0, zj x1, zj x2, zj x3, zj x4, zj x5], [zp a0])) rfl rfl rfl ?_
    show Zr sc 68 125 [zp a0, zj x1, zj x2, zj x3, zj x4, zj x5] [zp a0] (((((w.set f3_6 (za (zsi l_11 x5 x1))).set a0 (zob 0 [zp f0_3, zp f1_4, zp f2_5, zp f3_6, zj (f4_7 + 1), zj f5_8])).set f0_3 (za (zsi l_17 x1 x2))).set f1_4 (za (zsi l_24 x1 x3))).set f2_5 (za (zsi l_32 x1 x4))) ov w' c s
    refine Zr_st (q := (126, [zp a0, zj x1, zj x2, zj x3, zj x4, zj x5], [zp a0, zp a0])) rfl rfl rfl ?_
    show Zr sc 68 126 [zp a0, zj x1, zj x2, zj x3, zj x4, zj x5] [zp a0, zp a0] (((((w.set f3_6 (za (zsi l_11 x5 x1))).set a0 (zob 0 [zp f0_3, zp f1_4, zp f2_5, zp f3_6, zj (f4_7 + 1), zj f5_8])).set f0_3 (za (zsi l_17 x1 x2))).set f1_4 (za (zsi l_24 x1 x3))).set f2_5 (za (zsi l_32 x1 x4))) ov w' c s
    obtain ⟨hn_33, h⟩ := h
    refine rl_gf rfl (zw_o hn_33 (zw_o hn_25 (zw_o hn_18 (zw_s (zw_o hn_12 hw_2))))) rfl rfl ?_
    show Zr sc 68 129 [zp a0, zj x1, zj x2, zj x3, zj x4, zj x5] [zj f5_8, zp a0] (((((w.set f3_6 (za (zsi l_11 x5 x1))).set a0 (zob 0 [zp f0_3, zp f1_4, zp f2_5, zp f3_6, zj (f4_7 + 1), zj f5_8])).set f0_3 (za (zsi l_17 x1 x2))).set f1_4 (za (zsi l_24 x1 x3))).set f2_5 (za (zsi l_32 x1 x4))) ov w' c s
    refine Zr_st (q := (131, [zp a0, zj x1, zj x2, zj x3, zj x4, zj x5], [zj x4, zj f5_8, zp a0])) rfl rfl rfl ?_
    show Zr sc 68 131 [zp a0, zj x1, zj x2, zj x3, zj x4, zj x5] [zj x4, zj f5_8, zp a0] (((((w.set f3_6 (za (zsi l_11 x5 x1))).set a0 (zob 0 [zp f0_3, zp f1_4, zp f2_5, zp f3_6, zj (f4_7 + 1), zj f5_8])).set f0_3 (za (zsi l_17 x1 x2))).set f1_4 (za (zsi l_24 x1 x3))).set f2_5 (za (zsi l_32 x1 x4))) ov w' c s
    refine rl_add rfl ?_
    show Zr sc 68 132 [zp a0, zj x1, zj x2, zj x3, zj x4, zj x5] [zj (f5_8 + x4), zp a0] (((((w.set f3_6 (za (zsi l_11 x5 x1))).set a0 (zob 0 [zp f0_3, zp f1_4, zp f2_5, zp f3_6, zj (f4_7 + 1), zj f5_8])).set f0_3 (za (zsi l_17 x1 x2))).set f1_4 (za (zsi l_24 x1 x3))).set f2_5 (za (zsi l_32 x1 x4))) ov w' c s
    refine rl_pf rfl (zw_o hn_33 (zw_o hn_25 (zw_o hn_18 (zw_s (zw_o hn_12 hw_2))))) rfl rfl rfl ?_
    show Zr sc 68 135 [zp a0, zj x1, zj x2, zj x3, zj x4, zj x5] [] ((((((w.set f3_6 (za (zsi l_11 x5 x1))).set a0 (zob 0 [zp f0_3, zp f1_4, zp f2_5, zp f3_6, zj (f4_7 + 1), zj f5_8])).set f0_3 (za (zsi l_17 x1 x2))).set f1_4 (za (zsi l_24 x1 x3))).set f2_5 (za (zsi l_32 x1 x4))).set a0 (zob 0 [zp f0_3, zp f1_4, zp f2_5, zp f3_6, zj (f4_7 + 1), zj (f5_8 + x4)])) ov w' c s
    obtain ⟨h1, h2, h3, h4⟩ := h
    subst h1; subst h2; subst h3; subst h4
    exact Zr_ret (ins := .return_) rfl rfl
  · replace h := h.2 hp
    show Zr sc 68 45 [zp a0, zj x1, zj x2, zj x3, zj x4, zj x5] [] w ov w' c s
    refine Zr_st (q := (46, [zp a0, zj x1, zj x2, zj x3, zj x4, zj x5], [zp a0])) rfl rfl rfl ?_
    show Zr sc 68 46 [zp a0, zj x1, zj x2, zj x3, zj x4, zj x5] [zp a0] w ov w' c s
    refine Zr_st (q := (47, [zp a0, zj x1, zj x2, zj x3, zj x4, zj x5], [zp a0, zp a0])) rfl rfl rfl ?_
    show Zr sc 68 47 [zp a0, zj x1, zj x2, zj x3, zj x4, zj x5] [zp a0, zp a0] w ov w' c s
    obtain ⟨f0_35, f1_36, f2_37, f3_38, f4_39, f5_40, hw_34, h⟩ := h
    refine rl_gf rfl hw_34 rfl rfl ?_
    show Zr sc 68 50 [zp a0, zj x1, zj x2, zj x3, zj x4, zj x5] [zp f3_38, zp a0] w ov w' c s
    refine Zr_st (q := (52, [zp a0, zj x1, zj x2, zj x3, zj x4, zj x5], [zj x5, zp f3_38, zp a0])) rfl rfl rfl ?_
    show Zr sc 68 52 [zp a0, zj x1, zj x2, zj x3, zj x4, zj x5] [zj x5, zp f3_38, zp a0] w ov w' c s
    refine rl_ic rfl ?_
    show Zr sc 68 53 [zp a0, zj x1, zj x2, zj x3, zj x4, zj x5] [zj 1, zj x5, zp f3_38, zp a0] w ov w' c s
    refine rl_sub rfl ?_
    show Zr sc 68 54 [zp a0, zj x1, zj x2, zj x3, zj x4, zj x5] [zj (x5 - 1), zp f3_38, zp a0] w ov w' c s
    obtain ⟨l_43, hw_42, h⟩ := h
    obtain ⟨hi_41, h⟩ := h
    refine rl_ia rfl hw_42 hi_41.1 hi_41.2.1 hi_41.2.2 ?_
    show Zr sc 68 55 [zp a0, zj x1, zj x2, zj x3, zj x4, zj x5] [zj (zgi l_43 (x5 - 1)), zp a0] w ov w' c s
    obtain ⟨r_46, w_44, hk_45, h⟩ := h
    refine rn_cal0 (ins := .invokevirtual 45) (rest := []) rfl rfl rfl rfl (zinv_v (fs := _) hw_34 rfl rfl rfl rfl) rfl rfl hk_45 ?_
    show Zr sc 68 58 [zp a0, zj x1, zj x2, zj x3, zj x4, zj x5] [zj r_46] w_44 ov w' c s
    refine Zr_st (q := (59, [zp a0, zj x1, zj x2, zj x3, zj x4, zj x5], [zj x2, zj r_46])) rfl rfl rfl ?_
    show Zr sc 68 59 [zp a0, zj x1, zj x2, zj x3, zj x4, zj x5] [zj x2, zj r_46] w_44 ov w' c s
    obtain ⟨hr_47, h⟩ := h
    refine Zr_br (p := r_46 ≤ x2) rfl rfl (zcmp_j (cnd := .le) hr_47.1 hr_47.2) (fun hp => ?_) (fun hp => ?_)
    · replace h := h.1 hp
      show Zr sc 68 84 [zp a0, zj x1, zj x2, zj x3, zj x4, zj x5] [] w_44 ov w' c s
      refine Zr_st (q := (85, [zp a0, zj x1, zj x2, zj x3, zj x4, zj x5], [zp a0])) rfl rfl rfl ?_
      show Zr sc 68 85 [zp a0, zj x1, zj x2, zj x3, zj x4, zj x5] [zp a0] w_44 ov w' c s
      obtain ⟨f0_49, f1_50, f2_51, f3_52, f4_53, f5_54, hw_48, h⟩ := h
      refine rl_gf rfl hw_48 rfl rfl ?_
      show Zr sc 68 88 [zp a0, zj x1, zj x2, zj x3, zj x4, zj x5] [zp f3_52] w_44 ov w' c s
      refine Zr_st (q := (90, [zp a0, zj x1, zj x2, zj x3, zj x4, zj x5], [zj x5, zp f3_52])) rfl rfl rfl ?_
      show Zr sc 68 90 [zp a0, zj x1, zj x2, zj x3, zj x4, zj x5] [zj x5, zp f3_52] w_44 ov w' c s
      refine Zr_st (q := (91, [zp a0, zj x1, zj x2, zj x3, zj x4, zj x5], [zj x1, zj x5, zp f3_52])) rfl rfl rfl ?_
      show Zr sc 68 91 [zp a0, zj x1, zj x2, zj x3, zj x4, zj x5] [zj x1, zj x5, zp f3_52] w_44 ov w' c s
      obtain ⟨l_57, hw_56, h⟩ := h
      obtain ⟨hi_55, h⟩ := h
      refine rl_is rfl hw_56 hi_55.1 hi_55.2.1 hi_55.2.2 ?_
      show Zr sc 68 92 [zp a0, zj x1, zj x2, zj x3, zj x4, zj x5] [] (w_44.set f3_52 (za (zsi l_57 x5 x1))) ov w' c s
      refine Zr_st (q := (93, [zp a0, zj x1, zj x2, zj x3, zj x4, zj x5], [zp a0])) rfl rfl rfl ?_
      show Zr sc 68 93 [zp a0, zj x1, zj x2, zj x3, zj x4, zj x5] [zp a0] (w_44.set f3_52 (za (zsi l_57 x5 x1))) ov w' c s
      refine Zr_st (q := (94, [zp a0, zj x1, zj x2, zj x3, zj x4, zj x5], [zp a0, zp a0])) rfl rfl rfl ?_
      show Zr sc 68 94 [zp a0, zj x1, zj x2, zj x3, zj x4, zj x5] [zp a0, zp a0] (w_44.set f3_52 (za (zsi l_57 x5 x1))) ov w' c s
      obtain ⟨hn_58, h⟩ := h
      refine rl_gf rfl (zw_o hn_58 hw_48) rfl rfl ?_
      show Zr sc 68 97 [zp a0, zj x1, zj x2, zj x3, zj x4, zj x5] [zj f4_53, zp a0] (w_44.set f3_52 (za (zsi l_57 x5 x1))) ov w' c s
      refine rl_ic rfl ?_
      show Zr sc 68 98 [zp a0, zj x1, zj x2, zj x3, zj x4, zj x5] [zj 1, zj f4_53, zp a0] (w_44.set f3_52 (za (zsi l_57 x5 x1))) ov w' c s
      refine rl_add rfl ?_
      show Zr sc 68 99 [zp a0, zj x1, zj x2, zj x3, zj x4, zj x5] [zj (f4_53 + 1), zp a0] (w_44.set f3_52 (za (zsi l_57 x5 x1))) ov w' c s
      refine rl_pf rfl (zw_o hn_58 hw_48) rfl rfl rfl ?_
      show Zr sc 68 102 [zp a0, zj x1, zj x2, zj x3, zj x4, zj x5] [] ((w_44.set f3_52 (za (zsi l_57 x5 x1))).set a0 (zob 0 [zp f0_49, zp f1_50, zp f2_51, zp f3_52, zj (f4_53 + 1), zj f5_54])) ov w' c s
      refine Zr_st (q := (103, [zp a0, zj x1, zj x2, zj x3, zj x4, zj x5], [zp a0])) rfl rfl rfl ?_
      show Zr sc 68 103 [zp a0, zj x1, zj x2, zj x3, zj x4, zj x5] [zp a0] ((w_44.set f3_52 (za (zsi l_57 x5 x1))).set a0 (zob 0 [zp f0_49, zp f1_50, zp f2_51, zp f3_52, zj (f4_53 + 1), zj f5_54])) ov w' c s
      refine rl_gf rfl (zw_s (zw_o hn_58 hw_48)) rfl rfl ?_
      show Zr sc 68 106 [zp a0, zj x1, zj x2, zj x3, zj x4, zj x5] [zp f0_49] ((w_44.set f3_52 (za (zsi l_57 x5 x1))).set a0 (zob 0 [zp f0_49, zp f1_50, zp f2_51, zp f3_52, zj (f4_53 + 1), zj f5_54])) ov w' c s
      refine Zr_st (q := (107, [zp a0, zj x1, zj x2, zj x3, zj x4, zj x5], [zj x1, zp f0_49])) rfl rfl rfl ?_
      show Zr sc 68 107 [zp a0, zj x1, zj x2, zj x3, zj x4, zj x5] [zj x1, zp f0_49] ((w_44.set f3_52 (za (zsi l_57 x5 x1))).set a0 (zob 0 [zp f0_49, zp f1_50, zp f2_51, zp f3_52, zj (f4_53 + 1), zj f5_54])) ov w' c s
      refine Zr_st (q := (108, [zp a0, zj x1, zj x2, zj x3, zj x4, zj x5], [zj x2, zj x1, zp f0_49])) rfl rfl rfl ?_
      show Zr sc 68 108 [zp a0, zj x1, zj x2, zj x3, zj x4, zj x5] [zj x2, zj x1, zp f0_49] ((w_44.set f3_52 (za (zsi l_57 x5 x1))).set a0 (zob 0 [zp f0_49, zp f1_50, zp f2_51, zp f3_52, zj (f4_53 + 1), zj f5_54])) ov w' c s
      obtain ⟨hn_60, h⟩ := h
      obtain ⟨hn_61, h⟩ := h
      obtain ⟨l_63, hw_62, h⟩ := h
      obtain ⟨hi_59, h⟩ := h
      refine rl_is rfl (zw_o hn_60 (zw_o hn_61 hw_62)) hi_59.1 hi_59.2.1 hi_59.2.2 ?_
      show Zr sc 68 109 [zp a0, zj x1, zj x2, zj x3, zj x4, zj x5] [] (((w_44.set f3_52 (za (zsi l_57 x5 x1))).set a0 (zob 0 [zp f0_49, zp f1_50, zp f2_51, zp f3_52, zj (f4_53 + 1), zj f5_54])).set f0_49 (za (zsi l_63 x1 x2))) ov w' c s
      refine Zr_st (q := (110, [zp a0, zj x1, zj x2, zj x3, zj x4, zj x5], [zp a0])) rfl rfl rfl ?_
      show Zr sc 68 110 [zp a0, zj x1, zj x2, zj x3, zj x4, zj x5] [zp a0] (((w_44.set f3_52 (za (zsi l_57 x5 x1))).set a0 (zob 0 [zp f0_49, zp f1_50, zp f2_51, zp f3_52, zj (f4_53 + 1), zj f5_54])).set f0_49 (za (zsi l_63 x1 x2))) ov w' c s
      obtain ⟨hn_64, h⟩ := h
      refine rl_gf rfl (zw_o hn_64 (zw_s (zw_o hn_58 hw_48))) rfl rfl ?_
      show Zr sc 68 113 [zp a0, zj x1, zj x2, zj x3, zj x4, zj x5] [zp f1_50] (((w_44.set f3_52 (za (zsi l_57 x5 x1))).set a0 (zob 0 [zp f0_49, zp f1_50, zp f2_51, zp f3_52, zj (f4_53 + 1), zj f5_54])).set f0_49 (za (zsi l_63 x1 x2))) ov w' c s
      refine Zr_st (q := (114, [zp a0, zj x1, zj x2, zj x3, zj x4, zj x5], [zj x1, zp f1_50])) rfl rfl rfl ?_
      show Zr sc 68 114 [zp a0, zj x1, zj x2, zj x3, zj x4, zj x5] [zj x1, zp f1_50] (((w_44.set f3_52 (za (zsi l_57 x5 x1))).set a0 (zob 0 [zp f0_49, zp f1_50, zp f2_51, zp f3_52, zj (f4_53 + 1), zj f5_54])).set f0_49 (za (zsi l_63 x1 x2))) ov w' c s
      refine Zr_st (q := (115, [zp a0, zj x1, zj x2, zj x3, zj x4, zj x5], [zj x3, zj x1, zp f1_50])) rfl rfl rfl ?_
      show Zr sc 68 115 [zp a0, zj x1, zj x2, zj x3, zj x4, zj x5] [zj x3, zj x1, zp f1_50] (((w_44.set f3_52 (za (zsi l_57 x5 x1))).set a0 (zob 0 [zp f0_49, zp f1_50, zp f2_51, zp f3_52, zj (f4_53 + 1), zj f5_54])).set f0_49 (za (zsi l_63 x1 x2))) ov w' c s
      obtain ⟨hn_66, h⟩ := h
      obtain ⟨hn_67, h⟩ := h
      obtain ⟨hn_68, h⟩ := h
      obtain ⟨l_70, hw_69, h⟩ := h
      obtain ⟨hi_65, h⟩ := h
      refine rl_is rfl (zw_o hn_66 (zw_o hn_67 (zw_o hn_68 hw_69))) hi_65.1 hi_65.2.1 hi_65.2.2 ?_
      show Zr sc 68 116 [zp a0, zj x1, zj x2, zj x3, zj x4, zj x5] [] ((((w_44.set f3_52 (za (zsi l_57 x5 x1))).set a0 (zob 0 [zp f0_49, zp f1_50, zp f2_51, zp f3_52, zj (f4_53 + 1), zj f5_54])).set f0_49 (za (zsi l_63 x1 x2))).set f1_50 (za (zsi l_70 x1 x3))) ov w' c s
      refine Zr_st (q := (117, [zp a0, zj x1, zj x2, zj x3, zj x4, zj x5], [zp a0])) rfl rfl rfl ?_
      show Zr sc 68 117 [zp a0, zj x1, zj x2, zj x3, zj x4, zj x5] [zp a0] ((((w_44.set f3_52 (za (zsi l_57 x5 x1))).set a0 (zob 0 [zp f0_49, zp f1_50, zp f2_51, zp f3_52, zj (f4_53 + 1), zj f5_54])).set f0_49 (za (zsi l_63 x1 x2))).set f1_50 (za (zsi l_70 x1 x3))) ov w' c s
      obtain ⟨hn_71, h⟩ := h
      refine rl_gf rfl (zw_o hn_71 (zw_o hn_64 (zw_s (zw_o hn_58 hw_48)))) rfl rfl ?_
      show Zr sc 68 120 [zp a0, zj x1, zj x2, zj x3, zj x4, zj x5] [zp f2_51] ((((w_44.set f3_52 (za (zsi l_57 x5 x1))).set a0 (zob 0 [zp f0_49, zp f1_50, zp f2_51, zp f3_52, zj (f4_53 + 1), zj f5_54])).set f0_49 (za (zsi l_63 x1 x2))).set f1_50 (za (zsi l_70 x1 x3))) ov w' c s
      refine Zr_st (q := (121, [zp a0, zj x1, zj x2, zj x3, zj x4, zj x5], [zj x1, zp f2_51])) rfl rfl rfl ?_
      show Zr sc 68 121 [zp a0, zj x1, zj x2, zj x3, zj x4, zj x5] [zj x1, zp f2_51] ((((w_44.set f3_52 (za (zsi l_57 x5 x1))).set a0 (zob 0 [zp f0_49, zp f1_50, zp f2_51, zp f3_52, zj (f4_53 + 1), zj f5_54])).set f0_49 (za (zsi l_63 x1 x2))).set f1_50 (za (zsi l_70 x1 x3))) ov w' c s
      refine Zr_st (q := (123, [zp a0, zj x1, zj x2, zj x3, zj x4, zj x5], [zj x4, zj x1, zp f2_51])) rfl rfl rfl ?_
      show Zr sc 68 123 [zp a0, zj x1, zj x2, zj x3, zj x4, zj x5] [zj x4, zj x1, zp f2_51] ((((w_44.set f3_52 (za (zsi l_57 x5 x1))).set a0 (zob 0 [zp f0_49, zp f1_50, zp f2_51, zp f3_52, zj (f4_53 + 1), zj f5_54])).set f0_49 (za (zsi l_63 x1 x2))).set f1_50 (za (zsi l_70 x1 x3))) ov w' c s
      obtain ⟨hn_73, h⟩ := h
      obtain ⟨hn_74, h⟩ := h
      obtain ⟨hn_75, h⟩ := h
      obtain ⟨hn_76, h⟩ := h
      obtain ⟨l_78, hw_77, h⟩ := h
      obtain ⟨hi_72, h⟩ := h
      refine rl_is rfl (zw_o hn_73 (zw_o hn_74 (zw_o hn_75 (zw_o hn_76 hw_77)))) hi_72.1 hi_72.2.1 hi_72.2.2 ?_
      show Zr sc 68 124 [zp a0, zj x1, zj x2, zj x3, zj x4, zj x5] [] (((((w_44.set f3_52 (za (zsi l_57 x5 x1))).set a0 (zob 0 [zp f0_49, zp f1_50, zp f2_51, zp f3_52, zj (f4_53 + 1), zj f5_54])).set f0_49 (za (zsi l_63 x1 x2))).set f1_50 (za (zsi l_70 x1 x3))).set f2_51 (za (zsi l_78 x1 x4))) ov w' c s
      refine Zr_st (q := (125, [zp a0, zj x1, zj x2, zj x3, zj x4, zj x5], [zp a0])) rfl rfl rfl ?_
      show Zr sc 68 125 [zp a0, zj x1, zj x2, zj x3, zj x4, zj x5] [zp a0] (((((w_44.set f3_52 (za (zsi l_57 x5 x1))).set a0 (zob 0 [zp f0_49, zp f1_50, zp f2_51, zp f3_52, zj (f4_53 + 1), zj f5_54])).set f0_49 (za (zsi l_63 x1 x2))).set f1_50 (za (zsi l_70 x1 x3))).set f2_51 (za (zsi l_78 x1 x4))) ov w' c s
      refine Zr_st (q := (126, [zp a0, zj x1, zj x2, zj x3, zj x4, zj x5], [zp a0, zp a0])) rfl rfl rfl ?_
      show Zr sc 68 126 [zp a0, zj x1, zj x2, zj x3, zj x4, zj x5] [zp a0, zp a0] (((((w_44.set f3_52 (za (zsi l_57 x5 x1))).set a0 (zob 0 [zp f0_49, zp f1_50, zp f2_51, zp f3_52, zj (f4_53 + 1), zj f5_54])).set f0_49 (za (zsi l_63 x1 x2))).set f1_50 (za (zsi l_70 x1 x3))).set f2_51 (za (zsi l_78 x1 x4))) ov w' c s
      obtain ⟨hn_79, h⟩ := h
      refine rl_gf rfl (zw_o hn_79 (zw_o hn_71 (zw_o hn_64 (zw_s (zw_o hn_58 hw_48))))) rfl rfl ?_
      show Zr sc 68 129 [zp a0, zj x1, zj x2, zj x3, zj x4, zj x5] [zj f5_54, zp a0] (((((w_44.set f3_52 (za (zsi l_57 x5 x1))).set a0 (zob 0 [zp f0_49, zp f1_50, zp f2_51, zp f3_52, zj (f4_53 + 1), zj f5_54])).set f0_49 (za (zsi l_63 x1 x2))).set f1_50 (za (zsi l_70 x1 x3))).set f2_51 (za (zsi l_78 x1 x4))) ov w' c s
      refine Zr_st (q := (131, [zp a0, zj x1, zj x2, zj x3, zj x4, zj x5], [zj x4, zj f5_54, zp a0])) rfl rfl rfl ?_
      show Zr sc 68 131 [zp a0, zj x1, zj x2, zj x3, zj x4, zj x5] [zj x4, zj f5_54, zp a0] (((((w_44.set f3_52 (za (zsi l_57 x5 x1))).set a0 (zob 0 [zp f0_49, zp f1_50, zp f2_51, zp f3_52, zj (f4_53 + 1), zj f5_54])).set f0_49 (za (zsi l_63 x1 x2))).set f1_50 (za (zsi l_70 x1 x3))).set f2_51 (za (zsi l_78 x1 x4))) ov w' c s
      refine rl_add rfl ?_
      show Zr sc 68 132 [zp a0, zj x1, zj x2, zj x3, zj x4, zj x5] [zj (f5_54 + x4), zp a0] (((((w_44.set f3_52 (za (zsi l_57 x5 x1))).set a0 (zob 0 [zp f0_49, zp f1_50, zp f2_51, zp f3_52, zj (f4_53 + 1), zj f5_54])).set f0_49 (za (zsi l_63 x1 x2))).set f1_50 (za (zsi l_70 x1 x3))).set f2_51 (za (zsi l_78 x1 x4))) ov w' c s
      refine rl_pf rfl (zw_o hn_79 (zw_o hn_71 (zw_o hn_64 (zw_s (zw_o hn_58 hw_48))))) rfl rfl rfl ?_
      show Zr sc 68 135 [zp a0, zj x1, zj x2, zj x3, zj x4, zj x5] [] ((((((w_44.set f3_52 (za (zsi l_57 x5 x1))).set a0 (zob 0 [zp f0_49, zp f1_50, zp f2_51, zp f3_52, zj (f4_53 + 1), zj f5_54])).set f0_49 (za (zsi l_63 x1 x2))).set f1_50 (za (zsi l_70 x1 x3))).set f2_51 (za (zsi l_78 x1 x4))).set a0 (zob 0 [zp f0_49, zp f1_50, zp f2_51, zp f3_52, zj (f4_53 + 1), zj (f5_54 + x4)])) ov w' c s
      obtain ⟨h1, h2, h3, h4⟩ := h
      subst h1; subst h2; subst h3; subst h4
      exact Zr_ret (ins := .return_) rfl rfl
    · replace h := h.2 hp
      show Zr sc 68 62 [zp a0, zj x1, zj x2, zj x3, zj x4, zj x5] [] w_44 ov w' c s
      refine Zr_st (q := (63, [zp a0, zj x1, zj x2, zj x3, zj x4, zj x5], [zp a0])) rfl rfl rfl ?_
      show Zr sc 68 63 [zp a0, zj x1, zj x2, zj x3, zj x4, zj x5] [zp a0] w_44 ov w' c s
      obtain ⟨f0_81, f1_82, f2_83, f3_84, f4_85, f5_86, hw_80, h⟩ := h
      refine rl_gf rfl hw_80 rfl rfl ?_
      show Zr sc 68 66 [zp a0, zj x1, zj x2, zj x3, zj x4, zj x5] [zp f3_84] w_44 ov w' c s
      refine Zr_st (q := (68, [zp a0, zj x1, zj x2, zj x3, zj x4, zj x5], [zj x5, zp f3_84])) rfl rfl rfl ?_
      show Zr sc 68 68 [zp a0, zj x1, zj x2, zj x3, zj x4, zj x5] [zj x5, zp f3_84] w_44 ov w' c s
      refine Zr_st (q := (69, [zp a0, zj x1, zj x2, zj x3, zj x4, zj x5], [zp a0, zj x5, zp f3_84])) rfl rfl rfl ?_
      show Zr sc 68 69 [zp a0, zj x1, zj x2, zj x3, zj x4, zj x5] [zp a0, zj x5, zp f3_84] w_44 ov w' c s
      refine rl_gf rfl hw_80 rfl rfl ?_
      show Zr sc 68 72 [zp a0, zj x1, zj x2, zj x3, zj x4, zj x5] [zp f3_84, zj x5, zp f3_84] w_44 ov w' c s
      refine Zr_st (q := (74, [zp a0, zj x1, zj x2, zj x3, zj x4, zj x5], [zj x5, zp f3_84, zj x5, zp f3_84])) rfl rfl rfl ?_
      show Zr sc 68 74 [zp a0, zj x1, zj x2, zj x3, zj x4, zj x5] [zj x5, zp f3_84, zj x5, zp f3_84] w_44 ov w' c s
      refine rl_ic rfl ?_
      show Zr sc 68 75 [zp a0, zj x1, zj x2, zj x3, zj x4, zj x5] [zj 1, zj x5, zp f3_84, zj x5, zp f3_84] w_44 ov w' c s
      refine rl_sub rfl ?_
      show Zr sc 68 76 [zp a0, zj x1, zj x2, zj x3, zj x4, zj x5] [zj (x5 - 1), zp f3_84, zj x5, zp f3_84] w_44 ov w' c s
      obtain ⟨l_89, hw_88, h⟩ := h
      obtain ⟨hi_87, h⟩ := h
      refine rl_ia rfl hw_88 hi_87.1 hi_87.2.1 hi_87.2.2 ?_
      show Zr sc 68 77 [zp a0, zj x1, zj x2, zj x3, zj x4, zj x5] [zj (zgi l_89 (x5 - 1)), zj x5, zp f3_84] w_44 ov w' c s
      obtain ⟨hi_90, h⟩ := h
      refine rl_is rfl hw_88 hi_90.1 hi_90.2.1 hi_90.2.2 ?_
      show Zr sc 68 78 [zp a0, zj x1, zj x2, zj x3, zj x4, zj x5] [] (w_44.set f3_84 (za (zsi l_89 x5 (zgi l_89 (x5 - 1))))) ov w' c s
      refine rl_inc rfl rfl rfl rfl ?_
      show Zr sc 68 81 [zp a0, zj x1, zj x2, zj x3, zj x4, zj (x5 + (-1))] [] (w_44.set f3_84 (za (zsi l_89 x5 (zgi l_89 (x5 - 1))))) ov w' c s
      refine Zr_st (q := (40, [zp a0, zj x1, zj x2, zj x3, zj x4, zj (x5 + (-1))], [])) rfl rfl rfl ?_
      show Zr sc 68 40 [zp a0, zj x1, zj x2, zj x3, zj x4, zj (x5 + (-1))] [] (w_44.set f3_84 (za (zsi l_89 x5 (zgi l_89 (x5 - 1))))) ov w' c s
      exact h

-- HeapwrightLab$Blocks.nameOver(I)I
theorem V15_0 {sc : List Value} {w w' : List zE} {ov : Option Value} {c s : Nat} {a0 : Nat} {x1 : Int} (h : Zr sc 15 2 [zp a0, zj x1, zj 0, zmk] [] w ov w' c s) : Zr sc 15 0 [zp a0, zj x1, zmk, zmk] [] w ov w' c s := by
  refine rl_ic rfl ?_
  show Zr sc 15 1 [zp a0, zj x1, zmk, zmk] [zj 0] w ov w' c s
  refine Zr_st (q := (2, [zp a0, zj x1, zj 0, zmk], [])) rfl rfl rfl ?_
  show Zr sc 15 2 [zp a0, zj x1, zj 0, zmk] [] w ov w' c s
  exact h
theorem V15_2 {sc : List Value} {w w' : List zE} {ov : Option Value} {c s : Nat} {a0 : Nat} {x1 : Int} {x2 : Int} {v3 : Value} (h : (∃ f0_2 : Nat, ∃ f1_3 : Nat, ∃ f2_4 : Nat, ∃ f3_5 : Nat, ∃ f4_6 : Int, ∃ f5_7 : Int, w[a0]? = some (zob 0 [zp f0_2, zp f1_3, zp f2_4, zp f3_5, zj f4_6, zj f5_7]) ∧ ((zrg x2 ∧ zrg f4_6) ∧ ((f4_6 ≤ x2 → (ov = some (zj (-1)) ∧ w' = w ∧ c = 0 ∧ s = 0)) ∧ (¬ (f4_6 ≤ x2) → (∃ l_11 : List Int, w[f3_5]? = some (za l_11) ∧ ((0 ≤ x2 ∧ x2 < (l_11.length : Int) ∧ x2 ≤ 2147483647) ∧ (∃ r_14 : Int, ∃ w_12 : List zE, Zc sc 9 [zp a0, zj (zgi l_11 x2)] w (some (zj r_14)) w_12 0 0 ∧ ((zrg r_14 ∧ zrg x1) ∧ ((x1 < r_14 → Zr sc 15 2 [zp a0, zj x1, zj (x2 + 1), zj (zgi l_11 x2)] [] w_12 ov w' c s) ∧ (¬ (x1 < r_14) → (∃ f0_17 : Nat, ∃ f1_18 : Nat, ∃ f2_19 : Nat, ∃ f3_20 : Nat, ∃ f4_21 : Int, ∃ f5_22 : Int, w_12[a0]? = some (zob 0 [zp f0_17, zp f1_18, zp f2_19, zp f3_20, zj f4_21, zj f5_22]) ∧ (∃ r_25 : Int, ∃ w_23 : List zE, Zc sc 16 [zp a0, zj (zgi l_11 x2)] w_12 (some (zj r_25)) w_23 0 0 ∧ ((zrg x1 ∧ zrg r_25) ∧ ((r_25 ≤ x1 → Zr sc 15 2 [zp a0, zj x1, zj (x2 + 1), zj (zgi l_11 x2)] [] w_23 ov w' c s) ∧ (¬ (r_25 ≤ x1) → (ov = some (zj (zgi l_11 x2)) ∧ w' = w_23 ∧ c = 0 ∧ s = 0))))))))))))))))) : Zr sc 15 2 [zp a0, zj x1, zj x2, v3] [] w ov w' c s := by
  refine Zr_st (q := (3, [zp a0, zj x1, zj x2, v3], [zj x2])) rfl rfl rfl ?_
  show Zr sc 15 3 [zp a0, zj x1, zj x2, v3] [zj x2] w ov w' c s
  refine Zr_st (q := (4, [zp a0, zj x1, zj x2, v3], [zp a0, zj x2])) rfl rfl rfl ?_
  show Zr sc 15 4 [zp a0, zj x1, zj x2, v3] [zp a0, zj x2] w ov w' c s
  obtain ⟨f0_2, f1_3, f2_4, f3_5, f4_6, f5_7, hw_1, h⟩ := h
  refine rl_gf rfl hw_1 rfl rfl ?_
  show Zr sc 15 7 [zp a0, zj x1, zj x2, v3] [zj f4_6, zj x2] w ov w' c s
  obtain ⟨hr_8, h⟩ := h
  refine Zr_br (p := f4_6 ≤ x2) rfl rfl (zcmp_j (cnd := .ge) hr_8.1 hr_8.2) (fun hp => ?_) (fun hp => ?_)
  · replace h := h.1 hp
    show Zr sc 15 43 [zp a0, zj x1, zj x2, v3] [] w ov w' c s
    refine rl_ic rfl ?_
    show Zr sc 15 44 [zp a0, zj x1, zj x2, v3] [zj (-1)] w ov w' c s
    obtain ⟨h1, h2, h3, h4⟩ := h
    subst h1; subst h2; subst h3; subst h4
    exact Zr_ret (ins := .ireturn) rfl rfl
  · replace h := h.2 hp
    show Zr sc 15 10 [zp a0, zj x1, zj x2, v3] [] w ov w' c s
    refine Zr_st (q := (11, [zp a0, zj x1, zj x2, v3], [zp a0])) rfl rfl rfl ?_
    show Zr sc 15 11 [zp a0, zj x1, zj x2, v3] [zp a0] w ov w' c s
    refine rl_gf rfl hw_1 rfl rfl ?_
    show Zr sc 15 14 [zp a0, zj x1, zj x2, v3] [zp f3_5] w ov w' c s
    refine Zr_st (q := (15, [zp a0, zj x1, zj x2, v3], [zj x2, zp f3_5])) rfl rfl rfl ?_
    show Zr sc 15 15 [zp a0, zj x1, zj x2, v3] [zj x2, zp f3_5] w ov w' c s
    obtain ⟨l_11, hw_10, h⟩ := h
    obtain ⟨hi_9, h⟩ := h
    refine rl_ia rfl hw_10 hi_9.1 hi_9.2.1 hi_9.2.2 ?_
    show Zr sc 15 16 [zp a0, zj x1, zj x2, v3] [zj (zgi l_11 x2)] w ov w' c s
    refine Zr_st (q := (17, [zp a0, zj x1, zj x2, zj (zgi l_11 x2)], [])) rfl rfl rfl ?_
    show Zr sc 15 17 [zp a0, zj x1, zj x2, zj (zgi l_11 x2)] [] w ov w' c s
    refine Zr_st (q := (18, [zp a0, zj x1, zj x2, zj (zgi l_11 x2)], [zp a0])) rfl rfl rfl ?_
    show Zr sc 15 18 [zp a0, zj x1, zj x2, zj (zgi l_11 x2)] [zp a0] w ov w' c s
    refine Zr_st (q := (19, [zp a0, zj x1, zj x2, zj (zgi l_11 x2)], [zj (zgi l_11 x2), zp a0])) rfl rfl rfl ?_
    show Zr sc 15 19 [zp a0, zj x1, zj x2, zj (zgi l_11 x2)] [zj (zgi l_11 x2), zp a0] w ov w' c s
    obtain ⟨r_14, w_12, hk_13, h⟩ := h
    refine rn_cal0 (ins := .invokevirtual 45) (rest := []) rfl rfl rfl rfl (zinv_v (fs := _) hw_1 rfl rfl rfl rfl) rfl rfl hk_13 ?_
    show Zr sc 15 22 [zp a0, zj x1, zj x2, zj (zgi l_11 x2)] [zj r_14] w_12 ov w' c s
    refine Zr_st (q := (23, [zp a0, zj x1, zj x2, zj (zgi l_11 x2)], [zj x1, zj r_14])) rfl rfl rfl ?_
    show Zr sc 15 23 [zp a0, zj x1, zj x2, zj (zgi l_11 x2)] [zj x1, zj r_14] w_12 ov w' c s
    obtain ⟨hr_15, h⟩ := h
    refine Zr_br (p := x1 < r_14) rfl rfl (zcmp_j (cnd := .gt) hr_15.1 hr_15.2) (fun hp => ?_) (fun hp => ?_)
    · replace h := h.1 hp
      show Zr sc 15 37 [zp a0, zj x1, zj x2, zj (zgi l_11 x2)] [] w_12 ov w' c s
      refine rl_inc rfl rfl rfl rfl ?_
      show Zr sc 15 40 [zp a0, zj x1, zj (x2 + 1), zj (zgi l_11 x2)] [] w_12 ov w' c s
      refine Zr_st (q := (2, [zp a0, zj x1, zj (x2 + 1), zj (zgi l_11 x2)], [])) rfl rfl rfl ?_
      show Zr sc 15 2 [zp a0, zj x1, zj (x2 + 1), zj (zgi l_11 x2)] [] w_12 ov w' c s
      exact h
    · replace h := h.2 hp
      show Zr sc 15 26 [zp a0, zj x1, zj x2, zj (zgi l_11 x2)] [] w_12 ov w' c s
      refine Zr_st (q := (27, [zp a0, zj x1, zj x2, zj (zgi l_11 x2)], [zj x1])) rfl rfl rfl ?_
      show Zr sc 15 27 [zp a0, zj x1, zj x2, zj (zgi l_11 x2)] [zj x1] w_12 ov w' c s
      refine Zr_st (q := (28, [zp a0, zj x1, zj x2, zj (zgi l_11 x2)], [zp a0, zj x1])) rfl rfl rfl ?_
      show Zr sc 15 28 [zp a0, zj x1, zj x2, zj (zgi l_11 x2)] [zp a0, zj x1] w_12 ov w' c s
      refine Zr_st (q := (29, [zp a0, zj x1, zj x2, zj (zgi l_11 x2)], [zj (zgi l_11 x2), zp a0, zj x1])) rfl rfl rfl ?_
      show Zr sc 15 29 [zp a0, zj x1, zj x2, zj (zgi l_11 x2)] [zj (zgi l_11 x2), zp a0, zj x1] w_12 ov w' c s
      obtain ⟨f0_17, f1_18, f2_19, f3_20, f4_21, f5_22, hw_16, h⟩ := h
      obtain ⟨r_25, w_23, hk_24, h⟩ := h
      refine rn_cal0 (ins := .invokevirtual 48) (rest := [zj x1]) rfl rfl rfl rfl (zinv_v (fs := _) hw_16 rfl rfl rfl rfl) rfl rfl hk_24 ?_
      show Zr sc 15 32 [zp a0, zj x1, zj x2, zj (zgi l_11 x2)] [zj r_25, zj x1] w_23 ov w' c s
      obtain ⟨hr_26, h⟩ := h
      refine Zr_br (p := r_25 ≤ x1) rfl rfl (zcmp_j (cnd := .ge) hr_26.1 hr_26.2) (fun hp => ?_) (fun hp => ?_)
      · replace h := h.1 hp
        show Zr sc 15 37 [zp a0, zj x1, zj x2, zj (zgi l_11 x2)] [] w_23 ov w' c s
        refine rl_inc rfl rfl rfl rfl ?_
        show Zr sc 15 40 [zp a0, zj x1, zj (x2 + 1), zj (zgi l_11 x2)] [] w_23 ov w' c s
        refine Zr_st (q := (2, [zp a0, zj x1, zj (x2 + 1), zj (zgi l_11 x2)], [])) rfl rfl rfl ?_
        show Zr sc 15 2 [zp a0, zj x1, zj (x2 + 1), zj (zgi l_11 x2)] [] w_23 ov w' c s
        exact h
      · replace h := h.2 hp
        show Zr sc 15 35 [zp a0, zj x1, zj x2, zj (zgi l_11 x2)] [] w_23 ov w' c s
        refine Zr_st (q := (36, [zp a0, zj x1, zj x2, zj (zgi l_11 x2)], [zj (zgi l_11 x2)])) rfl rfl rfl ?_
        show Zr sc 15 36 [zp a0, zj x1, zj x2, zj (zgi l_11 x2)] [zj (zgi l_11 x2)] w_23 ov w' c s
        obtain ⟨h1, h2, h3, h4⟩ := h
        subst h1; subst h2; subst h3; subst h4
        exact Zr_ret (ins := .ireturn) rfl rfl

-- HeapwrightLab$Blocks.allSizes()I
theorem V30_0 {sc : List Value} {w w' : List zE} {ov : Option Value} {c s : Nat} {a0 : Nat} (h : Zr sc 30 4 [zp a0, zj 0, zj 0] [] w ov w' c s) : Zr sc 30 0 [zp a0, zmk, zmk] [] w ov w' c s := by
  refine rl_ic rfl ?_
  show Zr sc 30 1 [zp a0, zmk, zmk] [zj 0] w ov w' c s
  refine Zr_st (q := (2, [zp a0, zj 0, zmk], [])) rfl rfl rfl ?_
  show Zr sc 30 2 [zp a0, zj 0, zmk] [] w ov w' c s
  refine rl_ic rfl ?_
  show Zr sc 30 3 [zp a0, zj 0, zmk] [zj 0] w ov w' c s
  refine Zr_st (q := (4, [zp a0, zj 0, zj 0], [])) rfl rfl rfl ?_
  show Zr sc 30 4 [zp a0, zj 0, zj 0] [] w ov w' c s
  exact h
theorem V30_4 {sc : List Value} {w w' : List zE} {ov : Option Value} {c s : Nat} {a0 : Nat} {x1 : Int} {x2 : Int} (h : (∃ f0_2 : Nat, ∃ f1_3 : Nat, ∃ f2_4 : Nat, ∃ f3_5 : Nat, ∃ f4_6 : Int, ∃ f5_7 : Int, w[a0]? = some (zob 0 [zp f0_2, zp f1_3, zp f2_4, zp f3_5, zj f4_6, zj f5_7]) ∧ ((zrg x2 ∧ zrg f4_6) ∧ ((f4_6 ≤ x2 → (ov = some (zj x1) ∧ w' = w ∧ c = 0 ∧ s = 0)) ∧ (¬ (f4_6 ≤ x2) → (∃ l_11 : List Int, w[f3_5]? = some (za l_11) ∧ ((0 ≤ x2 ∧ x2 < (l_11.length : Int) ∧ x2 ≤ 2147483647) ∧ (∃ r_14 : Int, ∃ w_12 : List zE, Zc sc 11 [zp a0, zj (zgi l_11 x2)] w (some (zj r_14)) w_12 0 0 ∧ Zr sc 30 4 [zp a0, zj (x1 + r_14), zj (x2 + 1)] [] w_12 ov w' c s)))))))) : Zr sc 30 4 [zp a0, zj x1, zj x2] [] w ov w' c s := by
  refine Zr_st (q := (5, [zp a0, zj x1, zj x2], [zj x2])) rfl rfl rfl ?_
  show Zr sc 30 5 [zp a0, zj x1, zj x2] [zj x2] w ov w' c s
  refine Zr_st (q := (6, [zp a0, zj x1, zj x2], [zp a0, zj x2])) rfl rfl rfl ?_
  show Zr sc 30 6 [zp a0, zj x1, zj x2] [zp a0, zj x2] w ov w' c s
  obtain ⟨f0_2, f1_3, f2_4, f3_5, f4_6, f5_7, hw_1, h⟩ := h
  refine rl_gf rfl hw_1 rfl rfl ?_
  show Zr sc 30 9 [zp a0, zj x1, zj x2] [zj f4_6, zj x2] w ov w' c s
  obtain ⟨hr_8, h⟩ := h
  refine Zr_br (p := f4_6 ≤ x2) rfl rfl (zcmp_j (cnd := .ge) hr_8.1 hr_8.2) (fun hp => ?_) (fun hp => ?_)
  · replace h := h.1 hp
    show Zr sc 30 31 [zp a0, zj x1, zj x2] [] w ov w' c s
    refine Zr_st (q := (32, [zp a0, zj x1, zj x2], [zj x1])) rfl rfl rfl ?_
    show Zr sc 30 32 [zp a0, zj x1, zj x2] [zj x1] w ov w' c s
    obtain ⟨h1, h2, h3, h4⟩ := h
    subst h1; subst h2; subst h3; subst h4
    exact Zr_ret (ins := .ireturn) rfl rfl
  · replace h := h.2 hp
    show Zr sc 30 12 [zp a0, zj x1, zj x2] [] w ov w' c s
    refine Zr_st (q := (13, [zp a0, zj x1, zj x2], [zj x1])) rfl rfl rfl ?_
    show Zr sc 30 13 [zp a0, zj x1, zj x2] [zj x1] w ov w' c s
    refine Zr_st (q := (14, [zp a0, zj x1, zj x2], [zp a0, zj x1])) rfl rfl rfl ?_
    show Zr sc 30 14 [zp a0, zj x1, zj x2] [zp a0, zj x1] w ov w' c s
    refine Zr_st (q := (15, [zp a0, zj x1, zj x2], [zp a0, zp a0, zj x1])) rfl rfl rfl ?_
    show Zr sc 30 15 [zp a0, zj x1, zj x2] [zp a0, zp a0, zj x1] w ov w' c s
    refine rl_gf rfl hw_1 rfl rfl ?_
    show Zr sc 30 18 [zp a0, zj x1, zj x2] [zp f3_5, zp a0, zj x1] w ov w' c s
    refine Zr_st (q := (19, [zp a0, zj x1, zj x2], [zj x2, zp f3_5, zp a0, zj x1])) rfl rfl rfl ?_
    show Zr sc 30 19 [zp a0, zj x1, zj x2] [zj x2, zp f3_5, zp a0, zj x1] w ov w' c s
    obtain ⟨l_11, hw_10, h⟩ := h
    obtain ⟨hi_9, h⟩ := h
    refine rl_ia rfl hw_10 hi_9.1 hi_9.2.1 hi_9.2.2 ?_
    show Zr sc 30 20 [zp a0, zj x1, zj x2] [zj (zgi l_11 x2), zp a0, zj x1] w ov w' c s
    obtain ⟨r_14, w_12, hk_13, h⟩ := h
    refine rn_cal0 (ins := .invokevirtual 41) (rest := [zj x1]) rfl rfl rfl rfl (zinv_v (fs := _) hw_1 rfl rfl rfl rfl) rfl rfl hk_13 ?_
    show Zr sc 30 23 [zp a0, zj x1, zj x2] [zj r_14, zj x1] w_12 ov w' c s
    refine rl_add rfl ?_
    show Zr sc 30 24 [zp a0, zj x1, zj x2] [zj (x1 + r_14)] w_12 ov w' c s
    refine Zr_st (q := (25, [zp a0, zj (x1 + r_14), zj x2], [])) rfl rfl rfl ?_
    show Zr sc 30 25 [zp a0, zj (x1 + r_14), zj x2] [] w_12 ov w' c s
    refine rl_inc rfl rfl rfl rfl ?_
    show Zr sc 30 28 [zp a0, zj (x1 + r_14), zj (x2 + 1)] [] w_12 ov w' c s
    refine Zr_st (q := (4, [zp a0, zj (x1 + r_14), zj (x2 + 1)], [])) rfl rfl rfl ?_
    show Zr sc 30 4 [zp a0, zj (x1 + r_14), zj (x2 + 1)] [] w_12 ov w' c s
    exact h

-- HeapwrightLab$Blocks.inOrder(I)I
theorem V72_0 {sc : List Value} {w w' : List zE} {ov : Option Value} {c s : Nat} {a0 : Nat} {x1 : Int} (h : ((zrg x1) ∧ ((x1 < 0 → (ov = some (zj (-1)) ∧ w' = w ∧ c = 0 ∧ s = 0)) ∧ (¬ (x1 < 0) → (∃ f0_3 : Nat, ∃ f1_4 : Nat, ∃ f2_5 : Nat, ∃ f3_6 : Nat, ∃ f4_7 : Int, ∃ f5_8 : Int, w[a0]? = some (zob 0 [zp f0_3, zp f1_4, zp f2_5, zp f3_6, zj f4_7, zj f5_8]) ∧ ((zrg x1 ∧ zrg f4_7) ∧ ((f4_7 ≤ x1 → (ov = some (zj (-1)) ∧ w' = w ∧ c = 0 ∧ s = 0)) ∧ (¬ (f4_7 ≤ x1) → (∃ l_12 : List Int, w[f3_6]? = some (za l_12) ∧ ((0 ≤ x1 ∧ x1 < (l_12.length : Int) ∧ x1 ≤ 2147483647) ∧ (ov = some (zj (zgi l_12 x1)) ∧ w' = w ∧ c = 0 ∧ s = 0))))))))))) : Zr sc 72 0 [zp a0, zj x1] [] w ov w' c s := by
  refine Zr_st (q := (1, [zp a0, zj x1], [zj x1])) rfl rfl rfl ?_
  show Zr sc 72 1 [zp a0, zj x1] [zj x1] w ov w' c s
  obtain ⟨hr_1, h⟩ := h
  refine Zr_b0 (p := x1 < 0) rfl rfl (zcmp_0 (cnd := .lt) hr_1) (fun hp => ?_) (fun hp => ?_)
  · replace h := h.1 hp
    show Zr sc 72 21 [zp a0, zj x1] [] w ov w' c s
    refine rl_ic rfl ?_
    show Zr sc 72 22 [zp a0, zj x1] [zj (-1)] w ov w' c s
    obtain ⟨h1, h2, h3, h4⟩ := h
    subst h1; subst h2; subst h3; subst h4
    exact Zr_ret (ins := .ireturn) rfl rfl
  · replace h := h.2 hp
    show Zr sc 72 4 [zp a0, zj x1] [] w ov w' c s
    refine Zr_st (q := (5, [zp a0, zj x1], [zj x1])) rfl rfl rfl ?_
    show Zr sc 72 5 [zp a0, zj x1] [zj x1] w ov w' c s
    refine Zr_st (q := (6, [zp a0, zj x1], [zp a0, zj x1])) rfl rfl rfl ?_
    show Zr sc 72 6 [zp a0, zj x1] [zp a0, zj x1] w ov w' c s
    obtain ⟨f0_3, f1_4, f2_5, f3_6, f4_7, f5_8, hw_2, h⟩ := h
    refine rl_gf rfl hw_2 rfl rfl ?_
    show Zr sc 72 9 [zp a0, zj x1] [zj f4_7, zj x1] w ov w' c s
    obtain ⟨hr_9, h⟩ := h
    refine Zr_br (p := f4_7 ≤ x1) rfl rfl (zcmp_j (cnd := .ge) hr_9.1 hr_9.2) (fun hp => ?_) (fun hp => ?_)
    · replace h := h.1 hp
      show Zr sc 72 21 [zp a0, zj x1] [] w ov w' c s
      refine rl_ic rfl ?_
      show Zr sc 72 22 [zp a0, zj x1] [zj (-1)] w ov w' c s
      obtain ⟨h1, h2, h3, h4⟩ := h
      subst h1; subst h2; subst h3; subst h4
      exact Zr_ret (ins := .ireturn) rfl rfl
    · replace h := h.2 hp
      show Zr sc 72 12 [zp a0, zj x1] [] w ov w' c s
      refine Zr_st (q := (13, [zp a0, zj x1], [zp a0])) rfl rfl rfl ?_
      show Zr sc 72 13 [zp a0, zj x1] [zp a0] w ov w' c s
      refine rl_gf rfl hw_2 rfl rfl ?_
      show Zr sc 72 16 [zp a0, zj x1] [zp f3_6] w ov w' c s
      refine Zr_st (q := (17, [zp a0, zj x1], [zj x1, zp f3_6])) rfl rfl rfl ?_
      show Zr sc 72 17 [zp a0, zj x1] [zj x1, zp f3_6] w ov w' c s
      obtain ⟨l_12, hw_11, h⟩ := h
      obtain ⟨hi_10, h⟩ := h
      refine rl_ia rfl hw_11 hi_10.1 hi_10.2.1 hi_10.2.2 ?_
      show Zr sc 72 18 [zp a0, zj x1] [zj (zgi l_12 x1)] w ov w' c s
      refine Zr_st (q := (22, [zp a0, zj x1], [zj (zgi l_12 x1)])) rfl rfl rfl ?_
      show Zr sc 72 22 [zp a0, zj x1] [zj (zgi l_12 x1)] w ov w' c s
      obtain ⟨h1, h2, h3, h4⟩ := h
      subst h1; subst h2; subst h3; subst h4
      exact Zr_ret (ins := .ireturn) rfl rfl

-- HeapwrightLab$Blocks.rename(II)V
theorem V93_0 {sc : List Value} {w w' : List zE} {ov : Option Value} {c s : Nat} {a0 : Nat} {x1 : Int} {x2 : Int} (h : (∃ f0_2 : Nat, ∃ f1_3 : Nat, ∃ f2_4 : Nat, ∃ f3_5 : Nat, ∃ f4_6 : Int, ∃ f5_7 : Int, w[a0]? = some (zob 0 [zp f0_2, zp f1_3, zp f2_4, zp f3_5, zj f4_6, zj f5_7]) ∧ (∃ r_10 : Int, ∃ w_8 : List zE, Zc sc 7 [zp a0, zj x1] w (some (zj r_10)) w_8 0 0 ∧ ((zrg r_10) ∧ ((r_10 = 0 → (ov = none ∧ w' = w_8 ∧ c = 0 ∧ s = 0)) ∧ (¬ (r_10 = 0) → (∃ f0_13 : Nat, ∃ f1_14 : Nat, ∃ f2_15 : Nat, ∃ f3_16 : Nat, ∃ f4_17 : Int, ∃ f5_18 : Int, w_8[a0]? = some (zob 0 [zp f0_13, zp f1_14, zp f2_15, zp f3_16, zj f4_17, zj f5_18]) ∧ (∃ r_21 : Int, ∃ w_19 : List zE, Zc sc 7 [zp a0, zj x2] w_8 (some (zj r_21)) w_19 0 0 ∧ ((zrg r_21) ∧ ((r_21 ≠ 0 → (ov = none ∧ w' = w_19 ∧ c = 0 ∧ s = 0)) ∧ (¬ (r_21 ≠ 0) → ((zrg x2) ∧ ((x2 < 0 → (ov = none ∧ w' = w_19 ∧ c = 0 ∧ s = 0)) ∧ (¬ (x2 < 0) → (∃ f0_25 : Nat, ∃ f1_26 : Nat, ∃ f2_27 : Nat, ∃ f3_28 : Nat, ∃ f4_29 : Int, ∃ f5_30 : Int, w_19[a0]? = some (zob 0 [zp f0_25, zp f1_26, zp f2_27, zp f3_28, zj f4_29, zj f5_30]) ∧ (∃ l_32 : List Int, w_19[f2_27]? = some (za l_32) ∧ ((zrg x2 ∧ zrg (l_32.length : Int)) ∧ ((x2 < (l_32.length : Int) → (∃ r_36 : Int, ∃ w_34 : List zE, Zc sc 85 [zp a0, zj x1] w_19 (some (zj r_36)) w_34 0 0 ∧ (∃ l_39 : List Int, w_34[f3_28]? = some (za l_39) ∧ ((0 ≤ r_36 ∧ r_36 < (l_39.length : Int) ∧ r_36 ≤ 2147483647) ∧ ((f3_28 ≠ a0) ∧ (∃ f0_42 : Nat, ∃ f1_43 : Nat, ∃ f2_44 : Nat, ∃ f3_45 : Nat, ∃ f4_46 : Int, ∃ f5_47 : Int, w_34[a0]? = some (zob 0 [zp f0_42, zp f1_43, zp f2_44, zp f3_45, zj f4_46, zj f5_47]) ∧ ((f3_28 ≠ f0_42) ∧ (∃ l_51 : List Int, w_34[f0_42]? = some (za l_51) ∧ ((0 ≤ x1 ∧ x1 < (l_51.length : Int) ∧ x1 ≤ 2147483647) ∧ ((0 ≤ x2 ∧ x2 < (l_51.length : Int) ∧ x2 ≤ 2147483647) ∧ ((f0_42 ≠ a0) ∧ ((f0_42 ≠ f1_43) ∧ ((f3_28 ≠ f1_43) ∧ (∃ l_58 : List Int, w_34[f1_43]? = some (za l_58) ∧ ((0 ≤ x1 ∧ x1 < (l_58.length : Int) ∧ x1 ≤ 2147483647) ∧ ((0 ≤ x2 ∧ x2 < (l_58.length : Int) ∧ x2 ≤ 2147483647) ∧ ((f1_43 ≠ a0) ∧ ((f1_43 ≠ f2_44) ∧ ((f0_42 ≠ f2_44) ∧ ((f3_28 ≠ f2_44) ∧ (∃ l_66 : List Int, w_34[f2_44]? = some (za l_66) ∧ ((0 ≤ x1 ∧ x1 < (l_66.length : Int) ∧ x1 ≤ 2147483647) ∧ ((0 ≤ x2 ∧ x2 < (l_66.length : Int) ∧ x2 ≤ 2147483647) ∧ ((f2_44 ≠ a0) ∧ ((0 ≤ x1 ∧ x1 < ((zsi l_66 x2 (zgi l_66 x1)).length : Int) ∧ x1 ≤ 2147483647) ∧ (ov = none ∧ w' = (((((w_34.set f3_28 (za (zsi l_39 r_36 x2))).set f0_42 (za (zsi l_51 x2 (zgi l_51 x1)))).set f1_43 (za (zsi l_58 x2 (zgi l_58 x1)))).set f2_44 (za (zsi l_66 x2 (zgi l_66 x1)))).set f2_44 (za (zsi (zsi l_66 x2 (zgi l_66 x1)) x1 0))) ∧ c = 0 ∧ s = 0)))))))))))))))))))))))))) ∧ (¬ (x2 < (l_32.length : Int)) → (ov = none ∧ w' = w_19 ∧ c = 0 ∧ s = 0)))))))))))))))))))) : Zr sc 93 0 [zp a0, zj x1, zj x2] [] w ov w' c s := by
  refine Zr_st (q := (1, [zp a0, zj x1, zj x2], [zp a0])) rfl rfl rfl ?_
  show Zr sc 93 1 [zp a0, zj x1, zj x2] [zp a0] w ov w' c s
  refine Zr_st (q := (2, [zp a0, zj x1, zj x2], [zj x1, zp a0])) rfl rfl rfl ?_
  show Zr sc 93 2 [zp a0, zj x1, zj x2] [zj x1, zp a0] w ov w' c s
  obtain ⟨f0_2, f1_3, f2_4, f3_5, f4_6, f5_7, hw_1, h⟩ := h
  obtain ⟨r_10, w_8, hk_9, h⟩ := h
  refine rn_cal0 (ins := .invokevirtual 37) (rest := []) rfl rfl rfl rfl (zinv_v (fs := _) hw_1 rfl rfl rfl rfl) rfl rfl hk_9 ?_
  show Zr sc 93 5 [zp a0, zj x1, zj x2] [zj r_10] w_8 ov w' c s
  obtain ⟨hr_11, h⟩ := h
  refine Zr_b0 (p := r_10 = 0) rfl rfl (zcmp_0 (cnd := .eq) hr_11) (fun hp => ?_) (fun hp => ?_)
  · replace h := h.1 hp
    show Zr sc 93 29 [zp a0, zj x1, zj x2] [] w_8 ov w' c s
    obtain ⟨h1, h2, h3, h4⟩ := h
    subst h1; subst h2; subst h3; subst h4
    exact Zr_ret (ins := .return_) rfl rfl
  · replace h := h.2 hp
    show Zr sc 93 8 [zp a0, zj x1, zj x2] [] w_8 ov w' c s
    refine Zr_st (q := (9, [zp a0, zj x1, zj x2], [zp a0])) rfl rfl rfl ?_
    show Zr sc 93 9 [zp a0, zj x1, zj x2] [zp a0] w_8 ov w' c s
    refine Zr_st (q := (10, [zp a0, zj x1, zj x2], [zj x2, zp a0])) rfl rfl rfl ?_
    show Zr sc 93 10 [zp a0, zj x1, zj x2] [zj x2, zp a0] w_8 ov w' c s
    obtain ⟨f0_13, f1_14, f2_15, f3_16, f4_17, f5_18, hw_12, h⟩ := h
    obtain ⟨r_21, w_19, hk_20, h⟩ := h
    refine rn_cal0 (ins := .invokevirtual 37) (rest := []) rfl rfl rfl rfl (zinv_v (fs := _) hw_12 rfl rfl rfl rfl) rfl rfl hk_20 ?_
    show Zr sc 93 13 [zp a0, zj x1, zj x2] [zj r_21] w_19 ov w' c s
    obtain ⟨hr_22, h⟩ := h
    refine Zr_b0 (p := r_21 ≠ 0) rfl rfl (zcmp_0 (cnd := .ne) hr_22) (fun hp => ?_) (fun hp => ?_)
    · replace h := h.1 hp
      show Zr sc 93 29 [zp a0, zj x1, zj x2] [] w_19 ov w' c s
      obtain ⟨h1, h2, h3, h4⟩ := h
      subst h1; subst h2; subst h3; subst h4
      exact Zr_ret (ins := .return_) rfl rfl
    · replace h := h.2 hp
      show Zr sc 93 16 [zp a0, zj x1, zj x2] [] w_19 ov w' c s
      refine Zr_st (q := (17, [zp a0, zj x1, zj x2], [zj x2])) rfl rfl rfl ?_
      show Zr sc 93 17 [zp a0, zj x1, zj x2] [zj x2] w_19 ov w' c s
      obtain ⟨hr_23, h⟩ := h
      refine Zr_b0 (p := x2 < 0) rfl rfl (zcmp_0 (cnd := .lt) hr_23) (fun hp => ?_) (fun hp => ?_)
      · replace h := h.1 hp
        show Zr sc 93 29 [zp a0, zj x1, zj x2] [] w_19 ov w' c s
        obtain ⟨h1, h2, h3, h4⟩ := h
        subst h1; subst h2; subst h3; subst h4
        exact Zr_ret (ins := .return_) rfl rfl
      · replace h := h.2 hp
        show Zr sc 93 20 [zp a0, zj x1, zj x2] [] w_19 ov w' c s
        refine Zr_st (q := (21, [zp a0, zj x1, zj x2], [zj x2])) rfl rfl rfl ?_
        show Zr sc 93 21 [zp a0, zj x1, zj x2] [zj x2] w_19 ov w' c s
        refine Zr_st (q := (22, [zp a0, zj x1, zj x2], [zp a0, zj x2])) rfl rfl rfl ?_
        show Zr sc 93 22 [zp a0, zj x1, zj x2] [zp a0, zj x2] w_19 ov w' c s
        obtain ⟨f0_25, f1_26, f2_27, f3_28, f4_29, f5_30, hw_24, h⟩ := h
        refine rl_gf rfl hw_24 rfl rfl ?_
        show Zr sc 93 25 [zp a0, zj x1, zj x2] [zp f2_27, zj x2] w_19 ov w' c s
        obtain ⟨l_32, hw_31, h⟩ := h
        refine rl_al rfl hw_31 ?_
        show Zr sc 93 26 [zp a0, zj x1, zj x2] [zj (l_32.length : Int), zj x2] w_19 ov w' c s
        obtain ⟨hr_33, h⟩ := h
        refine Zr_br (p := x2 < (l_32.length : Int)) rfl rfl (zcmp_j (cnd := .lt) hr_33.1 hr_33.2) (fun hp => ?_) (fun hp => ?_)
        · replace h := h.1 hp
          show Zr sc 93 30 [zp a0, zj x1, zj x2] [] w_19 ov w' c s
          refine Zr_st (q := (31, [zp a0, zj x1, zj x2], [zp a0])) rfl rfl rfl ?_
          show Zr sc 93 31 [zp a0, zj x1, zj x2] [zp a0] w_19 ov w' c s
          refine rl_gf rfl hw_24 rfl rfl ?_
          show Zr sc 93 34 [zp a0, zj x1, zj x2] [zp f3_28] w_19 ov w' c s
          refine Zr_st (q := (35, [zp a0, zj x1, zj x2], [zp a0, zp f3_28])) rfl rfl rfl ?_
          show Zr sc 93 35 [zp a0, zj x1, zj x2] [zp a0, zp f3_28] w_19 ov w' c s
          refine Zr_st (q := (36, [zp a0, zj x1, zj x2], [zj x1, zp a0, zp f3_28])) rfl rfl rfl ?_
          show Zr sc 93 36 [zp a0, zj x1, zj x2] [zj x1, zp a0, zp f3_28] w_19 ov w' c s
          obtain ⟨r_36, w_34, hk_35, h⟩ := h
          refine rn_cal0 (ins := .invokevirtual 51) (rest := [zp f3_28]) rfl rfl rfl rfl (zinv_v (fs := _) hw_24 rfl rfl rfl rfl) rfl rfl hk_35 ?_
          show Zr sc 93 39 [zp a0, zj x1, zj x2] [zj r_36, zp f3_28] w_34 ov w' c s
          refine Zr_st (q := (40, [zp a0, zj x1, zj x2], [zj x2, zj r_36, zp f3_28])) rfl rfl rfl ?_
          show Zr sc 93 40 [zp a0, zj x1, zj x2] [zj x2, zj r_36, zp f3_28] w_34 ov w' c s
          obtain ⟨l_39, hw_38, h⟩ := h
          obtain ⟨hi_37, h⟩ := h
          refine rl_is rfl hw_38 hi_37.1 hi_37.2.1 hi_37.2.2 ?_
          show Zr sc 93 41 [zp a0, zj x1, zj x2] [] (w_34.set f3_28 (za (zsi l_39 r_36 x2))) ov w' c s
          refine Zr_st (q := (42, [zp a0, zj x1, zj x2], [zp a0])) rfl rfl rfl ?_
          show Zr sc 93 42 [zp a0, zj x1, zj x2] [zp a0] (w_34.set f3_28 (za (zsi l_39 r_36 x2))) ov w' c s
          obtain ⟨hn_40, h⟩ := h
          obtain ⟨f0_42, f1_43, f2_44, f3_45, f4_46, f5_47, hw_41, h⟩ := h
          refine rl_gf rfl (zw_o hn_40 hw_41) rfl rfl ?_
          show Zr sc 93 45 [zp a0, zj x1, zj x2] [zp f0_42] (w_34.set f3_28 (za (zsi l_39 r_36 x2))) ov w' c s
          refine Zr_st (q := (46, [zp a0, zj x1, zj x2], [zj x2, zp f0_42])) rfl rfl rfl ?_
          show Zr sc 93 46 [zp a0, zj x1, zj x2] [zj x2, zp f0_42] (w_34.set f3_28 (za (zsi l_39 r_36 x2))) ov w' c s
          refine Zr_st (q := (47, [zp a0, zj x1, zj x2], [zp a0, zj x2, zp f0_42])) rfl rfl rfl ?_
          show Zr sc 93 47 [zp a0, zj x1, zj x2] [zp a0, zj x2, zp f0_42] (w_34.set f3_28 (za (zsi l_39 r_36 x2))) ov w' c s
          refine rl_gf rfl (zw_o hn_40 hw_41) rfl rfl ?_
          show Zr sc 93 50 [zp a0, zj x1, zj x2] [zp f0_42, zj x2, zp f0_42] (w_34.set f3_28 (za (zsi l_39 r_36 x2))) ov w' c s
          refine Zr_st (q := (51, [zp a0, zj x1, zj x2], [zj x1, zp f0_42, zj x2, zp f0_42])) rfl rfl rfl ?_
          show Zr sc 93 51 [zp a0, zj x1, zj x2] [zj x1, zp f0_42, zj x2, zp f0_42] (w_34.set f3_28 (za (zsi l_39 r_36 x2))) ov w' c s
          obtain ⟨hn_49, h⟩ := h
          obtain ⟨l_51, hw_50, h⟩ := h
          obtain ⟨hi_48, h⟩ := h
          refine rl_ia rfl (zw_o hn_49 hw_50) hi_48.1 hi_48.2.1 hi_48.2.2 ?_
          show Zr sc 93 52 [zp a0, zj x1, zj x2] [zj (zgi l_51 x1), zj x2, zp f0_42] (w_34.set f3_28 (za (zsi l_39 r_36 x2))) ov w' c s
          obtain ⟨hi_52, h⟩ := h
          refine rl_is rfl (zw_o hn_49 hw_50) hi_52.1 hi_52.2.1 hi_52.2.2 ?_
          show Zr sc 93 53 [zp a0, zj x1, zj x2] [] ((w_34.set f3_28 (za (zsi l_39 r_36 x2))).set f0_42 (za (zsi l_51 x2 (zgi l_51 x1)))) ov w' c s
          refine Zr_st (q := (54, [zp a0, zj x1, zj x2], [zp a0])) rfl rfl rfl ?_
          show Zr sc 93 54 [zp a0, zj x1, zj x2] [zp a0] ((w_34.set f3_28 (za (zsi l_39 r_36 x2))).set f0_42 (za (zsi l_51 x2 (zgi l_51 x1)))) ov w' c s
          obtain ⟨hn_53, h⟩ := h
          refine rl_gf rfl (zw_o hn_53 (zw_o hn_40 hw_41)) rfl rfl ?_
          show Zr sc 93 57 [zp a0, zj x1, zj x2] [zp f1_43] ((w_34.set f3_28 (za (zsi l_39 r_36 x2))).set f0_42 (za (zsi l_51 x2 (zgi l_51 x1)))) ov w' c s
          refine Zr_st (q := (58, [zp a0, zj x1, zj x2], [zj x2, zp f1_43])) rfl rfl rfl ?_
          show Zr sc 93 58 [zp a0, zj x1, zj x2] [zj x2, zp f1_43] ((w_34.set f3_28 (za (zsi l_39 r_36 x2))).set f0_42 (za (zsi l_51 x2 (zgi l_51 x1)))) ov w' c s
          refine Zr_st (q := (59, [zp a0, zj x1, zj x2], [zp a0, zj x2, zp f1_43])) rfl rfl rfl ?_
          show Zr sc 93 59 [zp a0, zj x1, zj x2] [zp a0, zj x2, zp f1_43] ((w_34.set f3_28 (za (zsi l_39 r_36 x2))).set f0_42 (za (zsi l_51 x2 (zgi l_51 x1)))) ov w' c s
          refine rl_gf rfl (zw_o hn_53 (zw_o hn_40 hw_41)) rfl rfl ?_
          show Zr sc 93 62 [zp a0, zj x1, zj x2] [zp f1_43, zj x2, zp f1_43] ((w_34.set f3_28 (za (zsi l_39 r_36 x2))).set f0_42 (za (zsi l_51 x2 (zgi l_51 x1)))) ov w' c s
          refine Zr_st (q := (63, [zp a0, zj x1, zj x2], [zj x1, zp f1_43, zj x2, zp f1_43])) rfl rfl rfl ?_
          show Zr sc 93 63 [zp a0, zj x1, zj x2] [zj x1, zp f1_43, zj x2, zp f1_43] ((w_34.set f3_28 (za (zsi l_39 r_36 x2))).set f0_42 (za (zsi l_51 x2 (zgi l_51 x1)))) ov w' c s
          obtain ⟨hn_55, h⟩ := h
          obtain ⟨hn_56, h⟩ := h
          obtain ⟨l_58, hw_57, h⟩ := h
          obtain ⟨hi_54, h⟩ := h
          refine rl_ia rfl (zw_o hn_55 (zw_o hn_56 hw_57)) hi_54.1 hi_54.2.1 hi_54.2.2 ?_
          show Zr sc 93 64 [zp a0, zj x1, zj x2] [zj (zgi l_58 x1), zj x2, zp f1_43] ((w_34.set f3_28 (za (zsi l_39 r_36 x2))).set f0_42 (za (zsi l_51 x2 (zgi l_51 x1)))) ov w' c s
          obtain ⟨hi_59, h⟩ := h
          refine rl_is rfl (zw_o hn_55 (zw_o hn_56 hw_57)) hi_59.1 hi_59.2.1 hi_59.2.2 ?_
          show Zr sc 93 65 [zp a0, zj x1, zj x2] [] (((w_34.set f3_28 (za (zsi l_39 r_36 x2))).set f0_42 (za (zsi l_51 x2 (zgi l_51 x1)))).set f1_43 (za (zsi l_58 x2 (zgi l_58 x1)))) ov w' c s
          refine Zr_st (q := (66, [zp a0, zj x1, zj x2], [zp a0])) rfl rfl rfl ?_
          show Zr sc 93 66 [zp a0, zj x1, zj x2] [zp a0] (((w_34.set f3_28 (za (zsi l_39 r_36 x2))).set f0_42 (za (zsi l_51 x2 (zgi l_51 x1)))).set f1_43 (za (zsi l_58 x2 (zgi l_58 x1)))) ov w' c s
          obtain ⟨hn_60, h⟩ := h
          refine rl_gf rfl (zw_o hn_60 (zw_o hn_53 (zw_o hn_40 hw_41))) rfl rfl ?_
          show Zr sc 93 69 [zp a0, zj x1, zj x2] [zp f2_44] (((w_34.set f3_28 (za (zsi l_39 r_36 x2))).set f0_42 (za (zsi l_51 x2 (zgi l_51 x1)))).set f1_43 (za (zsi l_58 x2 (zgi l_58 x1)))) ov w' c s
          refine Zr_st (q := (70, [zp a0, zj x1, zj x2], [zj x2, zp f2_44])) rfl rfl rfl ?_
          show Zr sc 93 70 [zp a0, zj x1, zj x2] [zj x2, zp f2_44] (((w_34.set f3_28 (za (zsi l_39 r_36 x2))).set f0_42 (za (zsi l_51 x2 (zgi l_51 x1)))).set f1_43 (za (zsi l_58 x2 (zgi l_58 x1)))) ov w' c s
          refine Zr_st (q := (71, [zp a0, zj x1, zj x2], [zp a0, zj x2, zp f2_44])) rfl rfl rfl ?_
          show Zr sc 93 71 [zp a0, zj x1, zj x2] [zp a0, zj x2, zp f2_44] (((w_34.set f3_28 (za (zsi l_39 r_36 x2))).set f0_42 (za (zsi l_51 x2 (zgi l_51 x1)))).set f1_43 (za (zsi l_58 x2 (zgi l_58 x1)))) ov w' c s
          refine rl_gf rfl (zw_o hn_60 (zw_o hn_53 (zw_o hn_40 hw_41))) rfl rfl ?_
          show Zr sc 93 74 [zp a0, zj x1, zj x2] [zp f2_44, zj x2, zp f2_44] (((w_34.set f3_28 (za (zsi l_39 r_36 x2))).set f0_42 (za (zsi l_51 x2 (zgi l_51 x1)))).set f1_43 (za (zsi l_58 x2 (zgi l_58 x1)))) ov w' c s
          refine Zr_st (q := (75, [zp a0, zj x1, zj x2], [zj x1, zp f2_44, zj x2, zp f2_44])) rfl rfl rfl ?_
          show Zr sc 93 75 [zp a0, zj x1, zj x2] [zj x1, zp f2_44, zj x2, zp f2_44] (((w_34.set f3_28 (za (zsi l_39 r_36 x2))).set f0_42 (za (zsi l_51 x2 (zgi l_51 x1)))).set f1_43 (za (zsi l_58 x2 (zgi l_58 x1)))) ov w' c s
          obtain ⟨hn_62, h⟩ := h
          obtain ⟨hn_63, h⟩ := h
          obtain ⟨hn_64, h⟩ := h
          obtain ⟨l_66, hw_65, h⟩ := h
          obtain ⟨hi_61, h⟩ := h
          refine rl_ia rfl (zw_o hn_62 (zw_o hn_63 (zw_o hn_64 hw_65))) hi_61.1 hi_61.2.1 hi_61.2.2 ?_
          show Zr sc 93 76 [zp a0, zj x1, zj x2] [zj (zgi l_66 x1), zj x2, zp f2_44] (((w_34.set f3_28 (za (zsi l_39 r_36 x2))).set f0_42 (za (zsi l_51 x2 (zgi l_51 x1)))).set f1_43 (za (zsi l_58 x2 (zgi l_58 x1)))) ov w' c s
          obtain ⟨hi_67, h⟩ := h
          refine rl_is rfl (zw_o hn_62 (zw_o hn_63 (zw_o hn_64 hw_65))) hi_67.1 hi_67.2.1 hi_67.2.2 ?_
          show Zr sc 93 77 [zp a0, zj x1, zj x2] [] ((((w_34.set f3_28 (za (zsi l_39 r_36 x2))).set f0_42 (za (zsi l_51 x2 (zgi l_51 x1)))).set f1_43 (za (zsi l_58 x2 (zgi l_58 x1)))).set f2_44 (za (zsi l_66 x2 (zgi l_66 x1)))) ov w' c s
          refine Zr_st (q := (78, [zp a0, zj x1, zj x2], [zp a0])) rfl rfl rfl ?_
          show Zr sc 93 78 [zp a0, zj x1, zj x2] [zp a0] ((((w_34.set f3_28 (za (zsi l_39 r_36 x2))).set f0_42 (za (zsi l_51 x2 (zgi l_51 x1)))).set f1_43 (za (zsi l_58 x2 (zgi l_58 x1)))).set f2_44 (za (zsi l_66 x2 (zgi l_66 x1)))) ov w' c s
          obtain ⟨hn_68, h⟩ := h
          refine rl_gf rfl (zw_o hn_68 (zw_o hn_60 (zw_o hn_53 (zw_o hn_40 hw_41)))) rfl rfl ?_
          show Zr sc 93 81 [zp a0, zj x1, zj x2] [zp f2_44] ((((w_34.set f3_28 (za (zsi l_39 r_36 x2))).set f0_42 (za (zsi l_51 x2 (zgi l_51 x1)))).set f1_43 (za (zsi l_58 x2 (zgi l_58 x1)))).set f2_44 (za (zsi l_66 x2 (zgi l_66 x1)))) ov w' c s
          refine Zr_st (q := (82, [zp a0, zj x1, zj x2], [zj x1, zp f2_44])) rfl rfl rfl ?_
          show Zr sc 93 82 [zp a0, zj x1, zj x2] [zj x1, zp f2_44] ((((w_34.set f3_28 (za (zsi l_39 r_36 x2))).set f0_42 (za (zsi l_51 x2 (zgi l_51 x1)))).set f1_43 (za (zsi l_58 x2 (zgi l_58 x1)))).set f2_44 (za (zsi l_66 x2 (zgi l_66 x1)))) ov w' c s
          refine rl_ic rfl ?_
          show Zr sc 93 83 [zp a0, zj x1, zj x2] [zj 0, zj x1, zp f2_44] ((((w_34.set f3_28 (za (zsi l_39 r_36 x2))).set f0_42 (za (zsi l_51 x2 (zgi l_51 x1)))).set f1_43 (za (zsi l_58 x2 (zgi l_58 x1)))).set f2_44 (za (zsi l_66 x2 (zgi l_66 x1)))) ov w' c s
          obtain ⟨hi_69, h⟩ := h
          refine rl_is rfl (zw_s (zw_o hn_62 (zw_o hn_63 (zw_o hn_64 hw_65)))) hi_69.1 hi_69.2.1 hi_69.2.2 ?_
          show Zr sc 93 84 [zp a0, zj x1, zj x2] [] (((((w_34.set f3_28 (za (zsi l_39 r_36 x2))).set f0_42 (za (zsi l_51 x2 (zgi l_51 x1)))).set f1_43 (za (zsi l_58 x2 (zgi l_58 x1)))).set f2_44 (za (zsi l_66 x2 (zgi l_66 x1)))).set f2_44 (za (zsi (zsi l_66 x2 (zgi l_66 x1)) x1 0))) ov w' c s
          obtain ⟨h1, h2, h3, h4⟩ := h
          subst h1; subst h2; subst h3; subst h4
          exact Zr_ret (ins := .return_) rfl rfl
        · replace h := h.2 hp
          show Zr sc 93 29 [zp a0, zj x1, zj x2] [] w_19 ov w' c s
          obtain ⟨h1, h2, h3, h4⟩ := h
          subst h1; subst h2; subst h3; subst h4
          exact Zr_ret (ins := .return_) rfl rfl

