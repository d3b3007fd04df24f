/-! ===== regions: resize of the pool, cut at its joins ===== -/
-- HeapwrightLabLaw$Pool.resize(II)Z
set_option maxRecDepth 100000 in
theorem V143_0 {sc : List Value} {w w' : List zE} {ov : Option Value} {c s : Nat} {a0 : Nat} {x1 : Int} {x2 : Int} (h : (∃ f0_2 : Nat, ∃ f2_4 : Int, ∃ f3_5 : Int, ∃ f4_6 : Int, ∃ f5_7 : Int, ∃ f6_8 : Nat, ∃ f7_9 : Int, ∃ f8_10 : Nat, ∃ f9_11 : Nat, ∃ f10_12 : Nat, ∃ f11_13 : Int, ∃ f12_14 : Int, ∃ f13_15 : Nat, ∃ f14_16 : Int, ∃ f15_17 : Nat, ∃ f16_18 : Int, w[a0]? = some (zob 7 [zp f0_2, .ref 0, zj f2_4, zj f3_5, zj f4_6, zj f5_7, zp f6_8, zj f7_9, zp f8_10, zp f9_11, zp f10_12, zj f11_13, zj f12_14, zp f13_15, zj f14_16, zp f15_17, zj f16_18]) ∧ (∃ r_21 : Int, ∃ w_19 : List zE, Zc sc 138 [zp a0, zj x1] w (some (zj r_21)) w_19 0 0 ∧ (∃ f0_23 : Nat, ∃ f2_25 : Int, ∃ f3_26 : Int, ∃ f4_27 : Int, ∃ f5_28 : Int, ∃ f6_29 : Nat, ∃ f7_30 : Int, ∃ f8_31 : Nat, ∃ f9_32 : Nat, ∃ f10_33 : Nat, ∃ f11_34 : Int, ∃ f12_35 : Int, ∃ f13_36 : Nat, ∃ f14_37 : Int, ∃ f15_38 : Nat, ∃ f16_39 : Int, w_19[a0]? = some (zob 7 [zp f0_23, .ref 0, zj f2_25, zj f3_26, zj f4_27, zj f5_28, zp f6_29, zj f7_30, zp f8_31, zp f9_32, zp f10_33, zj f11_34, zj f12_35, zp f13_36, zj f14_37, zp f15_38, zj f16_39]) ∧ (∃ r_42 : Int, ∃ w_40 : List zE, Zc sc 123 [zp a0, zj x2] w_19 (some (zj r_42)) w_40 0 0 ∧ (∃ f0_44 : Nat, ∃ f2_46 : Int, ∃ f3_47 : Int, ∃ f4_48 : Int, ∃ f5_49 : Int, ∃ f6_50 : Nat, ∃ f7_51 : Int, ∃ f8_52 : Nat, ∃ f9_53 : Nat, ∃ f10_54 : Nat, ∃ f11_55 : Int, ∃ f12_56 : Int, ∃ f13_57 : Nat, ∃ f14_58 : Int, ∃ f15_59 : Nat, ∃ f16_60 : Int, w_40[a0]? = some (zob 7 [zp f0_44, .ref 0, zj f2_46, zj f3_47, zj f4_48, zj f5_49, zp f6_50, zj f7_51, zp f8_52, zp f9_53, zp f10_54, zj f11_55, zj f12_56, zp f13_57, zj f14_58, zp f15_59, zj f16_60]) ∧ (∃ l_63 : List Int, w_40[f9_53]? = some (za l_63) ∧ (((0 : Int) ≤ x1 ∧ x1 < (l_63.length : Int) ∧ x1 ≤ (2147483647 : Int)) ∧ ((zrg r_21) ∧ ((r_21 < 0 → Zr sc 143 39 [zp a0, zj x1, zj x2, zj r_21, zj r_42, zj (zgi l_63 x1), zj 1, zmk] [] w_40 ov w' c s) ∧ (¬ (r_21 < 0) → ((zrg r_42 ∧ zrg (zgi l_63 x1)) ∧ ((r_42 ≠ (zgi l_63 x1) → Zr sc 143 39 [zp a0, zj x1, zj x2, zj r_21, zj r_42, zj (zgi l_63 x1), zj 0, zmk] [] w_40 ov w' c s) ∧ (¬ (r_42 ≠ (zgi l_63 x1)) → Zr sc 143 39 [zp a0, zj x1, zj x2, zj r_21, zj r_42, zj (zgi l_63 x1), zj 1, zmk] [] w_40 ov w' c s)))))))))))))) : Zr sc 143 0 [zp a0, zj x1, zj x2, zmk, zmk, zmk, zmk, zmk] [] w ov w' c s := by
  refine Zr_st (q := (1, [zp a0, zj x1, zj x2, zmk, zmk, zmk, zmk, zmk], [zp a0])) rfl rfl rfl ?_
  show Zr sc 143 1 [zp a0, zj x1, zj x2, zmk, zmk, zmk, zmk, zmk] [zp a0] w ov w' c s
  refine Zr_st (q := (2, [zp a0, zj x1, zj x2, zmk, zmk, zmk, zmk, zmk], [zj x1, zp a0])) rfl rfl rfl ?_
  show Zr sc 143 2 [zp a0, zj x1, zj x2, zmk, zmk, zmk, zmk, zmk] [zj x1, zp a0] w ov w' c s
  obtain ⟨f0_2, f2_4, f3_5, f4_6, f5_7, f6_8, f7_9, f8_10, f9_11, f10_12, f11_13, f12_14, f13_15, f14_16, f15_17, f16_18, hw_1, h⟩ := h
  obtain ⟨r_21, w_19, hk_20, h⟩ := h
  refine rn_cal0 (ins := .invokevirtual 149) (rest := []) rfl rfl rfl rfl (zinv_v (fs := _) hw_1 rfl rfl rfl rfl) rfl rfl hk_20 ?_
  show Zr sc 143 5 [zp a0, zj x1, zj x2, zmk, zmk, zmk, zmk, zmk] [zj r_21] w_19 ov w' c s
  refine Zr_st (q := (6, [zp a0, zj x1, zj x2, zj r_21, zmk, zmk, zmk, zmk], [])) rfl rfl rfl ?_
  show Zr sc 143 6 [zp a0, zj x1, zj x2, zj r_21, zmk, zmk, zmk, zmk] [] w_19 ov w' c s
  refine Zr_st (q := (7, [zp a0, zj x1, zj x2, zj r_21, zmk, zmk, zmk, zmk], [zp a0])) rfl rfl rfl ?_
  show Zr sc 143 7 [zp a0, zj x1, zj x2, zj r_21, zmk, zmk, zmk, zmk] [zp a0] w_19 ov w' c s
  refine Zr_st (q := (8, [zp a0, zj x1, zj x2, zj r_21, zmk, zmk, zmk, zmk], [zj x2, zp a0])) rfl rfl rfl ?_
  show Zr sc 143 8 [zp a0, zj x1, zj x2, zj r_21, zmk, zmk, zmk, zmk] [zj x2, zp a0] w_19 ov w' c s
  obtain ⟨f0_23, f2_25, f3_26, f4_27, f5_28, f6_29, f7_30, f8_31, f9_32, f10_33, f11_34, f12_35, f13_36, f14_37, f15_38, f16_39, hw_22, h⟩ := h
  obtain ⟨r_42, w_40, hk_41, h⟩ := h
  refine rn_cal0 (ins := .invokevirtual 127) (rest := []) rfl rfl rfl rfl (zinv_v (fs := _) hw_22 rfl rfl rfl rfl) rfl rfl hk_41 ?_
  show Zr sc 143 11 [zp a0, zj x1, zj x2, zj r_21, zmk, zmk, zmk, zmk] [zj r_42] w_40 ov w' c s
  refine Zr_st (q := (13, [zp a0, zj x1, zj x2, zj r_21, zj r_42, zmk, zmk, zmk], [])) rfl rfl rfl ?_
  show Zr sc 143 13 [zp a0, zj x1, zj x2, zj r_21, zj r_42, zmk, zmk, zmk] [] w_40 ov w' c s
  refine Zr_st (q := (14, [zp a0, zj x1, zj x2, zj r_21, zj r_42, zmk, zmk, zmk], [zp a0])) rfl rfl rfl ?_
  show Zr sc 143 14 [zp a0, zj x1, zj x2, zj r_21, zj r_42, zmk, zmk, zmk] [zp a0] w_40 ov w' c s
  obtain ⟨f0_44, f2_46, f3_47, f4_48, f5_49, f6_50, f7_51, f8_52, f9_53, f10_54, f11_55, f12_56, f13_57, f14_58, f15_59, f16_60, hw_43, h⟩ := h
  refine rl_gf rfl hw_43 rfl rfl ?_
  show Zr sc 143 17 [zp a0, zj x1, zj x2, zj r_21, zj r_42, zmk, zmk, zmk] [zp f9_53] w_40 ov w' c s
  refine Zr_st (q := (18, [zp a0, zj x1, zj x2, zj r_21, zj r_42, zmk, zmk, zmk], [zj x1, zp f9_53])) rfl rfl rfl ?_
  show Zr sc 143 18 [zp a0, zj x1, zj x2, zj r_21, zj r_42, zmk, zmk, zmk] [zj x1, zp f9_53] w_40 ov w' c s
  obtain ⟨l_63, hw_62, h⟩ := h
  obtain ⟨hi_61, h⟩ := h
  refine rl_ia rfl hw_62 hi_61.1 hi_61.2.1 hi_61.2.2 ?_
  show Zr sc 143 19 [zp a0, zj x1, zj x2, zj r_21, zj r_42, zmk, zmk, zmk] [zj (zgi l_63 x1)] w_40 ov w' c s
  refine Zr_st (q := (21, [zp a0, zj x1, zj x2, zj r_21, zj r_42, zj (zgi l_63 x1), zmk, zmk], [])) rfl rfl rfl ?_
  show Zr sc 143 21 [zp a0, zj x1, zj x2, zj r_21, zj r_42, zj (zgi l_63 x1), zmk, zmk] [] w_40 ov w' c s
  refine Zr_st (q := (22, [zp a0, zj x1, zj x2, zj r_21, zj r_42, zj (zgi l_63 x1), zmk, zmk], [zj r_21])) rfl rfl rfl ?_
  show Zr sc 143 22 [zp a0, zj x1, zj x2, zj r_21, zj r_42, zj (zgi l_63 x1), zmk, zmk] [zj r_21] w_40 ov w' c s
  obtain ⟨hr_64, h⟩ := h
  refine Zr_b0 (p := r_21 < 0) rfl rfl (zcmp_0 (cnd := .lt) hr_64) (fun hp => ?_) (fun hp => ?_)
  · replace h := h.1 hp
    show Zr sc 143 32 [zp a0, zj x1, zj x2, zj r_21, zj r_42, zj (zgi l_63 x1), zmk, zmk] [] w_40 ov w' c s
    refine rl_ic rfl ?_
    show Zr sc 143 33 [zp a0, zj x1, zj x2, zj r_21, zj r_42, zj (zgi l_63 x1), zmk, zmk] [zj 1] w_40 ov w' c s
    refine Zr_st (q := (37, [zp a0, zj x1, zj x2, zj r_21, zj r_42, zj (zgi l_63 x1), zmk, zmk], [zj 1])) rfl rfl rfl ?_
    show Zr sc 143 37 [zp a0, zj x1, zj x2, zj r_21, zj r_42, zj (zgi l_63 x1), zmk, zmk] [zj 1] w_40 ov w' c s
    refine Zr_st (q := (39, [zp a0, zj x1, zj x2, zj r_21, zj r_42, zj (zgi l_63 x1), zj 1, zmk], [])) rfl rfl rfl ?_
    show Zr sc 143 39 [zp a0, zj x1, zj x2, zj r_21, zj r_42, zj (zgi l_63 x1), zj 1, zmk] [] w_40 ov w' c s
    exact h
  · replace h := h.2 hp
    show Zr sc 143 25 [zp a0, zj x1, zj x2, zj r_21, zj r_42, zj (zgi l_63 x1), zmk, zmk] [] w_40 ov w' c s
    refine Zr_st (q := (27, [zp a0, zj x1, zj x2, zj r_21, zj r_42, zj (zgi l_63 x1), zmk, zmk], [zj r_42])) rfl rfl rfl ?_
    show Zr sc 143 27 [zp a0, zj x1, zj x2, zj r_21, zj r_42, zj (zgi l_63 x1), zmk, zmk] [zj r_42] w_40 ov w' c s
    refine Zr_st (q := (29, [zp a0, zj x1, zj x2, zj r_21, zj r_42, zj (zgi l_63 x1), zmk, zmk], [zj (zgi l_63 x1), zj r_42])) rfl rfl rfl ?_
    show Zr sc 143 29 [zp a0, zj x1, zj x2, zj r_21, zj r_42, zj (zgi l_63 x1), zmk, zmk] [zj (zgi l_63 x1), zj r_42] w_40 ov w' c s
    obtain ⟨hr_65, h⟩ := h
    refine Zr_br (p := r_42 ≠ (zgi l_63 x1)) rfl rfl (zcmp_j (cnd := .ne) hr_65.1 hr_65.2) (fun hp => ?_) (fun hp => ?_)
    · replace h := h.1 hp
      show Zr sc 143 36 [zp a0, zj x1, zj x2, zj r_21, zj r_42, zj (zgi l_63 x1), zmk, zmk] [] w_40 ov w' c s
      refine rl_ic rfl ?_
      show Zr sc 143 37 [zp a0, zj x1, zj x2, zj r_21, zj r_42, zj (zgi l_63 x1), zmk, zmk] [zj 0] w_40 ov w' c s
      refine Zr_st (q := (39, [zp a0, zj x1, zj x2, zj r_21, zj r_42, zj (zgi l_63 x1), zj 0, zmk], [])) rfl rfl rfl ?_
      show Zr sc 143 39 [zp a0, zj x1, zj x2, zj r_21, zj r_42, zj (zgi l_63 x1), zj 0, zmk] [] w_40 ov w' c s
      exact h
    · replace h := h.2 hp
      show Zr sc 143 32 [zp a0, zj x1, zj x2, zj r_21, zj r_42, zj (zgi l_63 x1), zmk, zmk] [] w_40 ov w' c s
      refine rl_ic rfl ?_
      show Zr sc 143 33 [zp a0, zj x1, zj x2, zj r_21, zj r_42, zj (zgi l_63 x1), zmk, zmk] [zj 1] w_40 ov w' c s
      refine Zr_st (q := (37, [zp a0, zj x1, zj x2, zj r_21, zj r_42, zj (zgi l_63 x1), zmk, zmk], [zj 1])) rfl rfl rfl ?_
      show Zr sc 143 37 [zp a0, zj x1, zj x2, zj r_21, zj r_42, zj (zgi l_63 x1), zmk, zmk] [zj 1] w_40 ov w' c s
      refine Zr_st (q := (39, [zp a0, zj x1, zj x2, zj r_21, zj r_42, zj (zgi l_63 x1), zj 1, zmk], [])) rfl rfl rfl ?_
      show Zr sc 143 39 [zp a0, zj x1, zj x2, zj r_21, zj r_42, zj (zgi l_63 x1), zj 1, zmk] [] w_40 ov w' c s
      exact h
set_option maxRecDepth 100000 in
theorem V143_39 {sc : List Value} {w w' : List zE} {ov : Option Value} {c s : Nat} {a0 : Nat} {x1 : Int} {x2 : Int} {x3 : Int} {x4 : Int} {x5 : Int} {x6 : Int} (h : ((zrg x6) ∧ ((x6 ≠ 0 → Zr sc 143 112 [zp a0, zj x1, zj x2, zj x3, zj x4, zj x5, zj x6, zmk] [] w ov w' c s) ∧ (¬ (x6 ≠ 0) → (∃ f0_3 : Nat, ∃ f2_5 : Int, ∃ f3_6 : Int, ∃ f4_7 : Int, ∃ f5_8 : Int, ∃ f6_9 : Nat, ∃ f7_10 : Int, ∃ f8_11 : Nat, ∃ f9_12 : Nat, ∃ f10_13 : Nat, ∃ f11_14 : Int, ∃ f12_15 : Int, ∃ f13_16 : Nat, ∃ f14_17 : Int, ∃ f15_18 : Nat, ∃ f16_19 : Int, w[a0]? = some (zob 7 [zp f0_3, .ref 0, zj f2_5, zj f3_6, zj f4_7, zj f5_8, zp f6_9, zj f7_10, zp f8_11, zp f9_12, zp f10_13, zj f11_14, zj f12_15, zp f13_16, zj f14_17, zp f15_18, zj f16_19]) ∧ ((zrg f3_6 ∧ zrg 4) ∧ ((4 ≤ f3_6 → Zr sc 143 112 [zp a0, zj x1, zj x2, zj x3, zj x4, zj x5, zj x6, zmk] [] w ov w' c s) ∧ (¬ (4 ≤ f3_6) → ((zrg x4 ∧ zrg x5) ∧ ((x5 ≤ x4 → Zr sc 143 112 [zp a0, zj x1, zj x2, zj x3, zj x4, zj x5, zj x6, zmk] [] w ov w' c s) ∧ (¬ (x5 ≤ x4) → (∃ l_24 : List Int, w[f13_16]? = some (za l_24) ∧ (((0 : Int) ≤ 2 ∧ 2 < (l_24.length : Int) ∧ 2 ≤ (2147483647 : Int)) ∧ ((zrg (x3 + x5) ∧ zrg 1024) ∧ ((1024 ≤ (x3 + x5) → (((0 : Int) ≤ 2 ∧ 2 < (l_24.length : Int) ∧ 2 ≤ (2147483647 : Int)) ∧ ((f13_16 ≠ a0) ∧ (∃ w_28 : List zE, Zc sc 131 [zp a0, zj (x3 + x4), zj (x5 - x4), zj (-1)] (w.set f13_16 (za (zsi l_24 2 ((zgi l_24 2) + 0)))) none w_28 0 0 ∧ Zr sc 143 112 [zp a0, zj x1, zj x2, zj x3, zj x4, zj x5, zj 1, zmk] [] w_28 ov w' c s)))) ∧ (¬ (1024 ≤ (x3 + x5)) → (∃ l_32 : List Int, w[f6_9]? = some (za l_32) ∧ (((0 : Int) ≤ (x3 + x5) ∧ (x3 + x5) < (l_32.length : Int) ∧ (x3 + x5) ≤ (2147483647 : Int)) ∧ ((zrg (zgi l_32 (x3 + x5))) ∧ ((0 ≤ (zgi l_32 (x3 + x5)) → (((0 : Int) ≤ 2 ∧ 2 < (l_24.length : Int) ∧ 2 ≤ (2147483647 : Int)) ∧ ((f13_16 ≠ a0) ∧ (∃ w_36 : List zE, Zc sc 131 [zp a0, zj (x3 + x4), zj (x5 - x4), zj (-1)] (w.set f13_16 (za (zsi l_24 2 ((zgi l_24 2) + 0)))) none w_36 0 0 ∧ Zr sc 143 112 [zp a0, zj x1, zj x2, zj x3, zj x4, zj x5, zj 1, zmk] [] w_36 ov w' c s)))) ∧ (¬ (0 ≤ (zgi l_32 (x3 + x5))) → (((0 : Int) ≤ 2 ∧ 2 < (l_24.length : Int) ∧ 2 ≤ (2147483647 : Int)) ∧ ((f13_16 ≠ a0) ∧ (∃ w_40 : List zE, Zc sc 131 [zp a0, zj (x3 + x4), zj (x5 - x4), zj (-1)] (w.set f13_16 (za (zsi l_24 2 ((zgi l_24 2) + 1)))) none w_40 0 0 ∧ Zr sc 143 112 [zp a0, zj x1, zj x2, zj x3, zj x4, zj x5, zj 1, zmk] [] w_40 ov w' c s)))))))))))))))))))))))) : Zr sc 143 39 [zp a0, zj x1, zj x2, zj x3, zj x4, zj x5, zj x6, zmk] [] w ov w' c s := by
  refine Zr_st (q := (41, [zp a0, zj x1, zj x2, zj x3, zj x4, zj x5, zj x6, zmk], [zj x6])) rfl rfl rfl ?_
  show Zr sc 143 41 [zp a0, zj x1, zj x2, zj x3, zj x4, zj x5, zj x6, zmk] [zj x6] w ov w' c s
  obtain ⟨hr_1, h⟩ := h
  refine Zr_b0 (p := x6 ≠ 0) rfl rfl (zcmp_0 (cnd := .ne) hr_1) (fun hp => ?_) (fun hp => ?_)
  · replace h := h.1 hp
    show Zr sc 143 112 [zp a0, zj x1, zj x2, zj x3, zj x4, zj x5, zj x6, zmk] [] w ov w' c s
    exact h
  · replace h := h.2 hp
    show Zr sc 143 44 [zp a0, zj x1, zj x2, zj x3, zj x4, zj x5, zj x6, zmk] [] w ov w' c s
    refine Zr_st (q := (45, [zp a0, zj x1, zj x2, zj x3, zj x4, zj x5, zj x6, zmk], [zp a0])) rfl rfl rfl ?_
    show Zr sc 143 45 [zp a0, zj x1, zj x2, zj x3, zj x4, zj x5, zj x6, zmk] [zp a0] w ov w' c s
    obtain ⟨f0_3, f2_5, f3_6, f4_7, f5_8, f6_9, f7_10, f8_11, f9_12, f10_13, f11_14, f12_15, f13_16, f14_17, f15_18, f16_19, hw_2, h⟩ := h
    refine rl_gf rfl hw_2 rfl rfl ?_
    show Zr sc 143 48 [zp a0, zj x1, zj x2, zj x3, zj x4, zj x5, zj x6, zmk] [zj f3_6] w ov w' c s
    refine rl_ic rfl ?_
    show Zr sc 143 49 [zp a0, zj x1, zj x2, zj x3, zj x4, zj x5, zj x6, zmk] [zj 4, zj f3_6] w ov w' c s
    obtain ⟨hr_20, h⟩ := h
    refine Zr_br (p := 4 ≤ f3_6) rfl rfl (zcmp_j (cnd := .ge) hr_20.1 hr_20.2) (fun hp => ?_) (fun hp => ?_)
    · replace h := h.1 hp
      show Zr sc 143 112 [zp a0, zj x1, zj x2, zj x3, zj x4, zj x5, zj x6, zmk] [] w ov w' c s
      exact h
    · replace h := h.2 hp
      show Zr sc 143 52 [zp a0, zj x1, zj x2, zj x3, zj x4, zj x5, zj x6, zmk] [] w ov w' c s
      refine Zr_st (q := (54, [zp a0, zj x1, zj x2, zj x3, zj x4, zj x5, zj x6, zmk], [zj x4])) rfl rfl rfl ?_
      show Zr sc 143 54 [zp a0, zj x1, zj x2, zj x3, zj x4, zj x5, zj x6, zmk] [zj x4] w ov w' c s
      refine Zr_st (q := (56, [zp a0, zj x1, zj x2, zj x3, zj x4, zj x5, zj x6, zmk], [zj x5, zj x4])) rfl rfl rfl ?_
      show Zr sc 143 56 [zp a0, zj x1, zj x2, zj x3, zj x4, zj x5, zj x6, zmk] [zj x5, zj x4] w ov w' c s
      obtain ⟨hr_21, h⟩ := h
      refine Zr_br (p := x5 ≤ x4) rfl rfl (zcmp_j (cnd := .ge) hr_21.1 hr_21.2) (fun hp => ?_) (fun hp => ?_)
      · replace h := h.1 hp
        show Zr sc 143 112 [zp a0, zj x1, zj x2, zj x3, zj x4, zj x5, zj x6, zmk] [] w ov w' c s
        exact h
      · replace h := h.2 hp
        show Zr sc 143 59 [zp a0, zj x1, zj x2, zj x3, zj x4, zj x5, zj x6, zmk] [] w ov w' c s
        refine rl_ic rfl ?_
        show Zr sc 143 60 [zp a0, zj x1, zj x2, zj x3, zj x4, zj x5, zj x6, zmk] [zj 1] w ov w' c s
        refine Zr_st (q := (62, [zp a0, zj x1, zj x2, zj x3, zj x4, zj x5, zj 1, zmk], [])) rfl rfl rfl ?_
        show Zr sc 143 62 [zp a0, zj x1, zj x2, zj x3, zj x4, zj x5, zj 1, zmk] [] w ov w' c s
        refine Zr_st (q := (63, [zp a0, zj x1, zj x2, zj x3, zj x4, zj x5, zj 1, zmk], [zp a0])) rfl rfl rfl ?_
        show Zr sc 143 63 [zp a0, zj x1, zj x2, zj x3, zj x4, zj x5, zj 1, zmk] [zp a0] w ov w' c s
        refine rl_gf rfl hw_2 rfl rfl ?_
        show Zr sc 143 66 [zp a0, zj x1, zj x2, zj x3, zj x4, zj x5, zj 1, zmk] [zp f13_16] w ov w' c s
        refine rl_ic rfl ?_
        show Zr sc 143 67 [zp a0, zj x1, zj x2, zj x3, zj x4, zj x5, zj 1, zmk] [zj 2, zp f13_16] w ov w' c s
        refine Zr_st (q := (68, [zp a0, zj x1, zj x2, zj x3, zj x4, zj x5, zj 1, zmk], [zj 2, zp f13_16, zj 2, zp f13_16])) rfl rfl rfl ?_
        show Zr sc 143 68 [zp a0, zj x1, zj x2, zj x3, zj x4, zj x5, zj 1, zmk] [zj 2, zp f13_16, zj 2, zp f13_16] w ov w' c s
        obtain ⟨l_24, hw_23, h⟩ := h
        obtain ⟨hi_22, h⟩ := h
        refine rl_ia rfl hw_23 hi_22.1 hi_22.2.1 hi_22.2.2 ?_
        show Zr sc 143 69 [zp a0, zj x1, zj x2, zj x3, zj x4, zj x5, zj 1, zmk] [zj (zgi l_24 2), zj 2, zp f13_16] w ov w' c s
        refine Zr_st (q := (70, [zp a0, zj x1, zj x2, zj x3, zj x4, zj x5, zj 1, zmk], [zj x3, zj (zgi l_24 2), zj 2, zp f13_16])) rfl rfl rfl ?_
        show Zr sc 143 70 [zp a0, zj x1, zj x2, zj x3, zj x4, zj x5, zj 1, zmk] [zj x3, zj (zgi l_24 2), zj 2, zp f13_16] w ov w' c s
        refine Zr_st (q := (72, [zp a0, zj x1, zj x2, zj x3, zj x4, zj x5, zj 1, zmk], [zj x5, zj x3, zj (zgi l_24 2), zj 2, zp f13_16])) rfl rfl rfl ?_
        show Zr sc 143 72 [zp a0, zj x1, zj x2, zj x3, zj x4, zj x5, zj 1, zmk] [zj x5, zj x3, zj (zgi l_24 2), zj 2, zp f13_16] w ov w' c s
        refine rl_add rfl ?_
        show Zr sc 143 73 [zp a0, zj x1, zj x2, zj x3, zj x4, zj x5, zj 1, zmk] [zj (x3 + x5), zj (zgi l_24 2), zj 2, zp f13_16] w ov w' c s
        refine rl_si rfl (by decide) ?_
        show Zr sc 143 76 [zp a0, zj x1, zj x2, zj x3, zj x4, zj x5, zj 1, zmk] [zj 1024, zj (x3 + x5), zj (zgi l_24 2), zj 2, zp f13_16] w ov w' c s
        obtain ⟨hr_25, h⟩ := h
        refine Zr_br (p := 1024 ≤ (x3 + x5)) rfl rfl (zcmp_j (cnd := .ge) hr_25.1 hr_25.2) (fun hp => ?_) (fun hp => ?_)
        · replace h := h.1 hp
          show Zr sc 143 95 [zp a0, zj x1, zj x2, zj x3, zj x4, zj x5, zj 1, zmk] [zj (zgi l_24 2), zj 2, zp f13_16] w ov w' c s
          refine rl_ic rfl ?_
          show Zr sc 143 96 [zp a0, zj x1, zj x2, zj x3, zj x4, zj x5, zj 1, zmk] [zj 0, zj (zgi l_24 2), zj 2, zp f13_16] w ov w' c s
          refine rl_add rfl ?_
          show Zr sc 143 97 [zp a0, zj x1, zj x2, zj x3, zj x4, zj x5, zj 1, zmk] [zj ((zgi l_24 2) + 0), zj 2, zp f13_16] w ov w' c s
          obtain ⟨hi_26, h⟩ := h
          refine rl_is rfl hw_23 hi_26.1 hi_26.2.1 hi_26.2.2 ?_
          show Zr sc 143 98 [zp a0, zj x1, zj x2, zj x3, zj x4, zj x5, zj 1, zmk] [] (w.set f13_16 (za (zsi l_24 2 ((zgi l_24 2) + 0)))) ov w' c s
          refine Zr_st (q := (99, [zp a0, zj x1, zj x2, zj x3, zj x4, zj x5, zj 1, zmk], [zp a0])) rfl rfl rfl ?_
          show Zr sc 143 99 [zp a0, zj x1, zj x2, zj x3, zj x4, zj x5, zj 1, zmk] [zp a0] (w.set f13_16 (za (zsi l_24 2 ((zgi l_24 2) + 0)))) ov w' c s
          refine Zr_st (q := (100, [zp a0, zj x1, zj x2, zj x3, zj x4, zj x5, zj 1, zmk], [zj x3, zp a0])) rfl rfl rfl ?_
          show Zr sc 143 100 [zp a0, zj x1, zj x2, zj x3, zj x4, zj x5, zj 1, zmk] [zj x3, zp a0] (w.set f13_16 (za (zsi l_24 2 ((zgi l_24 2) + 0)))) ov w' c s
          refine Zr_st (q := (102, [zp a0, zj x1, zj x2, zj x3, zj x4, zj x5, zj 1, zmk], [zj x4, zj x3, zp a0])) rfl rfl rfl ?_
          show Zr sc 143 102 [zp a0, zj x1, zj x2, zj x3, zj x4, zj x5, zj 1, zmk] [zj x4, zj x3, zp a0] (w.set f13_16 (za (zsi l_24 2 ((zgi l_24 2) + 0)))) ov w' c s
          refine rl_add rfl ?_
          show Zr sc 143 103 [zp a0, zj x1, zj x2, zj x3, zj x4, zj x5, zj 1, zmk] [zj (x3 + x4), zp a0] (w.set f13_16 (za (zsi l_24 2 ((zgi l_24 2) + 0)))) ov w' c s
          refine Zr_st (q := (105, [zp a0, zj x1, zj x2, zj x3, zj x4, zj x5, zj 1, zmk], [zj x5, zj (x3 + x4), zp a0])) rfl rfl rfl ?_
          show Zr sc 143 105 [zp a0, zj x1, zj x2, zj x3, zj x4, zj x5, zj 1, zmk] [zj x5, zj (x3 + x4), zp a0] (w.set f13_16 (za (zsi l_24 2 ((zgi l_24 2) + 0)))) ov w' c s
          refine Zr_st (q := (107, [zp a0, zj x1, zj x2, zj x3, zj x4, zj x5, zj 1, zmk], [zj x4, zj x5, zj (x3 + x4), zp a0])) rfl rfl rfl ?_
          show Zr sc 143 107 [zp a0, zj x1, zj x2, zj x3, zj x4, zj x5, zj 1, zmk] [zj x4, zj x5, zj (x3 + x4), zp a0] (w.set f13_16 (za (zsi l_24 2 ((zgi l_24 2) + 0)))) ov w' c s
          refine rl_sub rfl ?_
          show Zr sc 143 108 [zp a0, zj x1, zj x2, zj x3, zj x4, zj x5, zj 1, zmk] [zj (x5 - x4), zj (x3 + x4), zp a0] (w.set f13_16 (za (zsi l_24 2 ((zgi l_24 2) + 0)))) ov w' c s
          refine rl_ic rfl ?_
          show Zr sc 143 109 [zp a0, zj x1, zj x2, zj x3, zj x4, zj x5, zj 1, zmk] [zj (-1), zj (x5 - x4), zj (x3 + x4), zp a0] (w.set f13_16 (za (zsi l_24 2 ((zgi l_24 2) + 0)))) ov w' c s
          obtain ⟨hn_27, h⟩ := h
          obtain ⟨w_28, hk_29, h⟩ := h
          refine rn_cal0 (ins := .invokevirtual 110) (rest := []) rfl rfl rfl rfl (zinv_v (fs := _) (zw_o hn_27 hw_2) rfl rfl rfl rfl) rfl rfl hk_29 ?_
          show Zr sc 143 112 [zp a0, zj x1, zj x2, zj x3, zj x4, zj x5, zj 1, zmk] [] w_28 ov w' c s
          exact h
        · replace h := h.2 hp
          show Zr sc 143 79 [zp a0, zj x1, zj x2, zj x3, zj x4, zj x5, zj 1, zmk] [zj (zgi l_24 2), zj 2, zp f13_16] w ov w' c s
          refine Zr_st (q := (80, [zp a0, zj x1, zj x2, zj x3, zj x4, zj x5, zj 1, zmk], [zp a0, zj (zgi l_24 2), zj 2, zp f13_16])) rfl rfl rfl ?_
          show Zr sc 143 80 [zp a0, zj x1, zj x2, zj x3, zj x4, zj x5, zj 1, zmk] [zp a0, zj (zgi l_24 2), zj 2, zp f13_16] w ov w' c s
          refine rl_gf rfl hw_2 rfl rfl ?_
          show Zr sc 143 83 [zp a0, zj x1, zj x2, zj x3, zj x4, zj x5, zj 1, zmk] [zp f6_9, zj (zgi l_24 2), zj 2, zp f13_16] w ov w' c s
          refine Zr_st (q := (84, [zp a0, zj x1, zj x2, zj x3, zj x4, zj x5, zj 1, zmk], [zj x3, zp f6_9, zj (zgi l_24 2), zj 2, zp f13_16])) rfl rfl rfl ?_
          show Zr sc 143 84 [zp a0, zj x1, zj x2, zj x3, zj x4, zj x5, zj 1, zmk] [zj x3, zp f6_9, zj (zgi l_24 2), zj 2, zp f13_16] w ov w' c s
          refine Zr_st (q := (86, [zp a0, zj x1, zj x2, zj x3, zj x4, zj x5, zj 1, zmk], [zj x5, zj x3, zp f6_9, zj (zgi l_24 2), zj 2, zp f13_16])) rfl rfl rfl ?_
          show Zr sc 143 86 [zp a0, zj x1, zj x2, zj x3, zj x4, zj x5, zj 1, zmk] [zj x5, zj x3, zp f6_9, zj (zgi l_24 2), zj 2, zp f13_16] w ov w' c s
          refine rl_add rfl ?_
          show Zr sc 143 87 [zp a0, zj x1, zj x2, zj x3, zj x4, zj x5, zj 1, zmk] [zj (x3 + x5), zp f6_9, zj (zgi l_24 2), zj 2, zp f13_16] w ov w' c s
          obtain ⟨l_32, hw_31, h⟩ := h
          obtain ⟨hi_30, h⟩ := h
          refine rl_ia rfl hw_31 hi_30.1 hi_30.2.1 hi_30.2.2 ?_
          show Zr sc 143 88 [zp a0, zj x1, zj x2, zj x3, zj x4, zj x5, zj 1, zmk] [zj (zgi l_32 (x3 + x5)), zj (zgi l_24 2), zj 2, zp f13_16] w ov w' c s
          obtain ⟨hr_33, h⟩ := h
          refine Zr_b0 (p := 0 ≤ (zgi l_32 (x3 + x5))) rfl rfl (zcmp_0 (cnd := .ge) hr_33) (fun hp => ?_) (fun hp => ?_)
          · replace h := h.1 hp
            show Zr sc 143 95 [zp a0, zj x1, zj x2, zj x3, zj x4, zj x5, zj 1, zmk] [zj (zgi l_24 2), zj 2, zp f13_16] w ov w' c s
            refine rl_ic rfl ?_
            show Zr sc 143 96 [zp a0, zj x1, zj x2, zj x3, zj x4, zj x5, zj 1, zmk] [zj 0, zj (zgi l_24 2), zj 2, zp f13_16] w ov w' c s
            refine rl_add rfl ?_
            show Zr sc 143 97 [zp a0, zj x1, zj x2, zj x3, zj x4, zj x5, zj 1, zmk] [zj ((zgi l_24 2) + 0), zj 2, zp f13_16] w ov w' c s
            obtain ⟨hi_34, h⟩ := h
            refine rl_is rfl hw_23 hi_34.1 hi_34.2.1 hi_34.2.2 ?_
            show Zr sc 143 98 [zp a0, zj x1, zj x2, zj x3, zj x4, zj x5, zj 1, zmk] [] (w.set f13_16 (za (zsi l_24 2 ((zgi l_24 2) + 0)))) ov w' c s
            refine Zr_st (q := (99, [zp a0, zj x1, zj x2, zj x3, zj x4, zj x5, zj 1, zmk], [zp a0])) rfl rfl rfl ?_
            show Zr sc 143 99 [zp a0, zj x1, zj x2, zj x3, zj x4, zj x5, zj 1, zmk] [zp a0] (w.set f13_16 (za (zsi l_24 2 ((zgi l_24 2) + 0)))) ov w' c s
            refine Zr_st (q := (100, [zp a0, zj x1, zj x2, zj x3, zj x4, zj x5, zj 1, zmk], [zj x3, zp a0])) rfl rfl rfl ?_
            show Zr sc 143 100 [zp a0, zj x1, zj x2, zj x3, zj x4, zj x5, zj 1, zmk] [zj x3, zp a0] (w.set f13_16 (za (zsi l_24 2 ((zgi l_24 2) + 0)))) ov w' c s
            refine Zr_st (q := (102, [zp a0, zj x1, zj x2, zj x3, zj x4, zj x5, zj 1, zmk], [zj x4, zj x3, zp a0])) rfl rfl rfl ?_
            show Zr sc 143 102 [zp a0, zj x1, zj x2, zj x3, zj x4, zj x5, zj 1, zmk] [zj x4, zj x3, zp a0] (w.set f13_16 (za (zsi l_24 2 ((zgi l_24 2) + 0)))) ov w' c s
            refine rl_add rfl ?_
            show Zr sc 143 103 [zp a0, zj x1, zj x2, zj x3, zj x4, zj x5, zj 1, zmk] [zj (x3 + x4), zp a0] (w.set f13_16 (za (zsi l_24 2 ((zgi l_24 2) + 0)))) ov w' c s
            refine Zr_st (q := (105, [zp a0, zj x1, zj x2, zj x3, zj x4, zj x5, zj 1, zmk], [zj x5, zj (x3 + x4), zp a0])) rfl rfl rfl ?_
            show Zr sc 143 105 [zp a0, zj x1, zj x2, zj x3, zj x4, zj x5, zj 1, zmk] [zj x5, zj (x3 + x4), zp a0] (w.set f13_16 (za (zsi l_24 2 ((zgi l_24 2) + 0)))) ov w' c s
            refine Zr_st (q := (107, [zp a0, zj x1, zj x2, zj x3, zj x4, zj x5, zj 1, zmk], [zj x4, zj x5, zj (x3 + x4), zp a0])) rfl rfl rfl ?_
            show Zr sc 143 107 [zp a0, zj x1, zj x2, zj x3, zj x4, zj x5, zj 1, zmk] [zj x4, zj x5, zj (x3 + x4), zp a0] (w.set f13_16 (za (zsi l_24 2 ((zgi l_24 2) + 0)))) ov w' c s
            refine rl_sub rfl ?_
            show Zr sc 143 108 [zp a0, zj x1, zj x2, zj x3, zj x4, zj x5, zj 1, zmk] [zj (x5 - x4), zj (x3 + x4), zp a0] (w.set f13_16 (za (zsi l_24 2 ((zgi l_24 2) + 0)))) ov w' c s
            refine rl_ic rfl ?_
            show Zr sc 143 109 [zp a0, zj x1, zj x2, zj x3, zj x4, zj x5, zj 1, zmk] [zj (-1), zj (x5 - x4), zj (x3 + x4), zp a0] (w.set f13_16 (za (zsi l_24 2 ((zgi l_24 2) + 0)))) ov w' c s
            obtain ⟨hn_35, h⟩ := h
            obtain ⟨w_36, hk_37, h⟩ := h
            refine rn_cal0 (ins := .invokevirtual 110) (rest := []) rfl rfl rfl rfl (zinv_v (fs := _) (zw_o hn_35 hw_2) rfl rfl rfl rfl) rfl rfl hk_37 ?_
            show Zr sc 143 112 [zp a0, zj x1, zj x2, zj x3, zj x4, zj x5, zj 1, zmk] [] w_36 ov w' c s
            exact h
          · replace h := h.2 hp
            show Zr sc 143 91 [zp a0, zj x1, zj x2, zj x3, zj x4, zj x5, zj 1, zmk] [zj (zgi l_24 2), zj 2, zp f13_16] w ov w' c s
            refine rl_ic rfl ?_
            show Zr sc 143 92 [zp a0, zj x1, zj x2, zj x3, zj x4, zj x5, zj 1, zmk] [zj 1, zj (zgi l_24 2), zj 2, zp f13_16] w ov w' c s
            refine Zr_st (q := (96, [zp a0, zj x1, zj x2, zj x3, zj x4, zj x5, zj 1, zmk], [zj 1, zj (zgi l_24 2), zj 2, zp f13_16])) rfl rfl rfl ?_
            show Zr sc 143 96 [zp a0, zj x1, zj x2, zj x3, zj x4, zj x5, zj 1, zmk] [zj 1, zj (zgi l_24 2), zj 2, zp f13_16] w ov w' c s
            refine rl_add rfl ?_
            show Zr sc 143 97 [zp a0, zj x1, zj x2, zj x3, zj x4, zj x5, zj 1, zmk] [zj ((zgi l_24 2) + 1), zj 2, zp f13_16] w ov w' c s
            obtain ⟨hi_38, h⟩ := h
            refine rl_is rfl hw_23 hi_38.1 hi_38.2.1 hi_38.2.2 ?_
            show Zr sc 143 98 [zp a0, zj x1, zj x2, zj x3, zj x4, zj x5, zj 1, zmk] [] (w.set f13_16 (za (zsi l_24 2 ((zgi l_24 2) + 1)))) ov w' c s
            refine Zr_st (q := (99, [zp a0, zj x1, zj x2, zj x3, zj x4, zj x5, zj 1, zmk], [zp a0])) rfl rfl rfl ?_
            show Zr sc 143 99 [zp a0, zj x1, zj x2, zj x3, zj x4, zj x5, zj 1, zmk] [zp a0] (w.set f13_16 (za (zsi l_24 2 ((zgi l_24 2) + 1)))) ov w' c s
            refine Zr_st (q := (100, [zp a0, zj x1, zj x2, zj x3, zj x4, zj x5, zj 1, zmk], [zj x3, zp a0])) rfl rfl rfl ?_
            show Zr sc 143 100 [zp a0, zj x1, zj x2, zj x3, zj x4, zj x5, zj 1, zmk] [zj x3, zp a0] (w.set f13_16 (za (zsi l_24 2 ((zgi l_24 2) + 1)))) ov w' c s
            refine Zr_st (q := (102, [zp a0, zj x1, zj x2, zj x3, zj x4, zj x5, zj 1, zmk], [zj x4, zj x3, zp a0])) rfl rfl rfl ?_
            show Zr sc 143 102 [zp a0, zj x1, zj x2, zj x3, zj x4, zj x5, zj 1, zmk] [zj x4, zj x3, zp a0] (w.set f13_16 (za (zsi l_24 2 ((zgi l_24 2) + 1)))) ov w' c s
            refine rl_add rfl ?_
            show Zr sc 143 103 [zp a0, zj x1, zj x2, zj x3, zj x4, zj x5, zj 1, zmk] [zj (x3 + x4), zp a0] (w.set f13_16 (za (zsi l_24 2 ((zgi l_24 2) + 1)))) ov w' c s
            refine Zr_st (q := (105, [zp a0, zj x1, zj x2, zj x3, zj x4, zj x5, zj 1, zmk], [zj x5, zj (x3 + x4), zp a0])) rfl rfl rfl ?_
            show Zr sc 143 105 [zp a0, zj x1, zj x2, zj x3, zj x4, zj x5, zj 1, zmk] [zj x5, zj (x3 + x4), zp a0] (w.set f13_16 (za (zsi l_24 2 ((zgi l_24 2) + 1)))) ov w' c s
            refine Zr_st (q := (107, [zp a0, zj x1, zj x2, zj x3, zj x4, zj x5, zj 1, zmk], [zj x4, zj x5, zj (x3 + x4), zp a0])) rfl rfl rfl ?_
            show Zr sc 143 107 [zp a0, zj x1, zj x2, zj x3, zj x4, zj x5, zj 1, zmk] [zj x4, zj x5, zj (x3 + x4), zp a0] (w.set f13_16 (za (zsi l_24 2 ((zgi l_24 2) + 1)))) ov w' c s
            refine rl_sub rfl ?_
            show Zr sc 143 108 [zp a0, zj x1, zj x2, zj x3, zj x4, zj x5, zj 1, zmk] [zj (x5 - x4), zj (x3 + x4), zp a0] (w.set f13_16 (za (zsi l_24 2 ((zgi l_24 2) + 1)))) ov w' c s
            refine rl_ic rfl ?_
            show Zr sc 143 109 [zp a0, zj x1, zj x2, zj x3, zj x4, zj x5, zj 1, zmk] [zj (-1), zj (x5 - x4), zj (x3 + x4), zp a0] (w.set f13_16 (za (zsi l_24 2 ((zgi l_24 2) + 1)))) ov w' c s
            obtain ⟨hn_39, h⟩ := h
            obtain ⟨w_40, hk_41, h⟩ := h
            refine rn_cal0 (ins := .invokevirtual 110) (rest := []) rfl rfl rfl rfl (zinv_v (fs := _) (zw_o hn_39 hw_2) rfl rfl rfl rfl) rfl rfl hk_41 ?_
            show Zr sc 143 112 [zp a0, zj x1, zj x2, zj x3, zj x4, zj x5, zj 1, zmk] [] w_40 ov w' c s
            exact h
set_option maxRecDepth 100000 in
theorem V143_112 {sc : List Value} {w w' : List zE} {ov : Option Value} {c s : Nat} {a0 : Nat} {x1 : Int} {x2 : Int} {x3 : Int} {x4 : Int} {x5 : Int} {x6 : Int} (h : ((zrg x6) ∧ ((x6 ≠ 0 → Zr sc 143 204 [zp a0, zj x1, zj x2, zj x3, zj x4, zj x5, zj x6, zmk] [] w ov w' c s) ∧ (¬ (x6 ≠ 0) → (∃ f0_3 : Nat, ∃ f2_5 : Int, ∃ f3_6 : Int, ∃ f4_7 : Int, ∃ f5_8 : Int, ∃ f6_9 : Nat, ∃ f7_10 : Int, ∃ f8_11 : Nat, ∃ f9_12 : Nat, ∃ f10_13 : Nat, ∃ f11_14 : Int, ∃ f12_15 : Int, ∃ f13_16 : Nat, ∃ f14_17 : Int, ∃ f15_18 : Nat, ∃ f16_19 : Int, w[a0]? = some (zob 7 [zp f0_3, .ref 0, zj f2_5, zj f3_6, zj f4_7, zj f5_8, zp f6_9, zj f7_10, zp f8_11, zp f9_12, zp f10_13, zj f11_14, zj f12_15, zp f13_16, zj f14_17, zp f15_18, zj f16_19]) ∧ ((zrg f3_6 ∧ zrg 4) ∧ ((4 ≤ f3_6 → Zr sc 143 204 [zp a0, zj x1, zj x2, zj x3, zj x4, zj x5, zj x6, zmk] [] w ov w' c s) ∧ (¬ (4 ≤ f3_6) → ((zrg (x3 + x4) ∧ zrg 1024) ∧ ((1024 < (x3 + x4) → Zr sc 143 204 [zp a0, zj x1, zj x2, zj x3, zj x4, zj x5, zj x6, zmk] [] w ov w' c s) ∧ (¬ (1024 < (x3 + x4)) → (∃ r_24 : Int, ∃ w_22 : List zE, Zc sc 128 [zp a0, zj (x3 + x5), zj (x4 - x5)] w (some (zj r_24)) w_22 0 0 ∧ ((zrg r_24) ∧ ((r_24 = 0 → Zr sc 143 204 [zp a0, zj x1, zj x2, zj x3, zj x4, zj x5, zj x6, zmk] [] w_22 ov w' c s) ∧ (¬ (r_24 = 0) → (∃ f0_27 : Nat, ∃ f2_29 : Int, ∃ f3_30 : Int, ∃ f4_31 : Int, ∃ f5_32 : Int, ∃ f6_33 : Nat, ∃ f7_34 : Int, ∃ f8_35 : Nat, ∃ f9_36 : Nat, ∃ f10_37 : Nat, ∃ f11_38 : Int, ∃ f12_39 : Int, ∃ f13_40 : Nat, ∃ f14_41 : Int, ∃ f15_42 : Nat, ∃ f16_43 : Int, w_22[a0]? = some (zob 7 [zp f0_27, .ref 0, zj f2_29, zj f3_30, zj f4_31, zj f5_32, zp f6_33, zj f7_34, zp f8_35, zp f9_36, zp f10_37, zj f11_38, zj f12_39, zp f13_40, zj f14_41, zp f15_42, zj f16_43]) ∧ (∃ w_44 : List zE, Zc sc 131 [zp a0, zj (x3 + x5), zj (x4 - x5), zj x1] w_22 none w_44 0 0 ∧ (∃ f0_47 : Nat, ∃ f2_49 : Int, ∃ f3_50 : Int, ∃ f4_51 : Int, ∃ f5_52 : Int, ∃ f6_53 : Nat, ∃ f7_54 : Int, ∃ f8_55 : Nat, ∃ f9_56 : Nat, ∃ f10_57 : Nat, ∃ f11_58 : Int, ∃ f12_59 : Int, ∃ f13_60 : Nat, ∃ f14_61 : Int, ∃ f15_62 : Nat, ∃ f16_63 : Int, w_44[a0]? = some (zob 7 [zp f0_47, .ref 0, zj f2_49, zj f3_50, zj f4_51, zj f5_52, zp f6_53, zj f7_54, zp f8_55, zp f9_56, zp f10_57, zj f11_58, zj f12_59, zp f13_60, zj f14_61, zp f15_62, zj f16_63]) ∧ (∃ l_66 : List Int, w_44[f13_60]? = some (za l_66) ∧ (((0 : Int) ≤ 1 ∧ 1 < (l_66.length : Int) ∧ 1 ≤ (2147483647 : Int)) ∧ ((zrg (x3 + x4) ∧ zrg 1024) ∧ ((1024 ≤ (x3 + x4) → (((0 : Int) ≤ 1 ∧ 1 < (l_66.length : Int) ∧ 1 ≤ (2147483647 : Int)) ∧ Zr sc 143 204 [zp a0, zj x1, zj x2, zj x3, zj x4, zj x5, zj 1, zmk] [] (w_44.set f13_60 (za (zsi l_66 1 ((zgi l_66 1) + 0)))) ov w' c s)) ∧ (¬ (1024 ≤ (x3 + x4)) → (∃ l_71 : List Int, w_44[f6_53]? = some (za l_71) ∧ (((0 : Int) ≤ (x3 + x4) ∧ (x3 + x4) < (l_71.length : Int) ∧ (x3 + x4) ≤ (2147483647 : Int)) ∧ ((zrg (zgi l_71 (x3 + x4))) ∧ ((0 ≤ (zgi l_71 (x3 + x4)) → (((0 : Int) ≤ 1 ∧ 1 < (l_66.length : Int) ∧ 1 ≤ (2147483647 : Int)) ∧ Zr sc 143 204 [zp a0, zj x1, zj x2, zj x3, zj x4, zj x5, zj 1, zmk] [] (w_44.set f13_60 (za (zsi l_66 1 ((zgi l_66 1) + 0)))) ov w' c s)) ∧ (¬ (0 ≤ (zgi l_71 (x3 + x4))) → (((0 : Int) ≤ 1 ∧ 1 < (l_66.length : Int) ∧ 1 ≤ (2147483647 : Int)) ∧ Zr sc 143 204 [zp a0, zj x1, zj x2, zj x3, zj x4, zj x5, zj 1, zmk] [] (w_44.set f13_60 (za (zsi l_66 1 ((zgi l_66 1) + 1)))) ov w' c s))))))))))))))))))))))))))))) : Zr sc 143 112 [zp a0, zj x1, zj x2, zj x3, zj x4, zj x5, zj x6, zmk] [] w ov w' c s := by
  refine Zr_st (q := (114, [zp a0, zj x1, zj x2, zj x3, zj x4, zj x5, zj x6, zmk], [zj x6])) rfl rfl rfl ?_
  show Zr sc 143 114 [zp a0, zj x1, zj x2, zj x3, zj x4, zj x5, zj x6, zmk] [zj x6] w ov w' c s
  obtain ⟨hr_1, h⟩ := h
  refine Zr_b0 (p := x6 ≠ 0) rfl rfl (zcmp_0 (cnd := .ne) hr_1) (fun hp => ?_) (fun hp => ?_)
  · replace h := h.1 hp
    show Zr sc 143 204 [zp a0, zj x1, zj x2, zj x3, zj x4, zj x5, zj x6, zmk] [] w ov w' c s
    exact h
  · replace h := h.2 hp
    show Zr sc 143 117 [zp a0, zj x1, zj x2, zj x3, zj x4, zj x5, zj x6, zmk] [] w ov w' c s
    refine Zr_st (q := (118, [zp a0, zj x1, zj x2, zj x3, zj x4, zj x5, zj x6, zmk], [zp a0])) rfl rfl rfl ?_
    show Zr sc 143 118 [zp a0, zj x1, zj x2, zj x3, zj x4, zj x5, zj x6, zmk] [zp a0] w ov w' c s
    obtain ⟨f0_3, f2_5, f3_6, f4_7, f5_8, f6_9, f7_10, f8_11, f9_12, f10_13, f11_14, f12_15, f13_16, f14_17, f15_18, f16_19, hw_2, h⟩ := h
    refine rl_gf rfl hw_2 rfl rfl ?_
    show Zr sc 143 121 [zp a0, zj x1, zj x2, zj x3, zj x4, zj x5, zj x6, zmk] [zj f3_6] w ov w' c s
    refine rl_ic rfl ?_
    show Zr sc 143 122 [zp a0, zj x1, zj x2, zj x3, zj x4, zj x5, zj x6, zmk] [zj 4, zj f3_6] w ov w' c s
    obtain ⟨hr_20, h⟩ := h
    refine Zr_br (p := 4 ≤ f3_6) rfl rfl (zcmp_j (cnd := .ge) hr_20.1 hr_20.2) (fun hp => ?_) (fun hp => ?_)
    · replace h := h.1 hp
      show Zr sc 143 204 [zp a0, zj x1, zj x2, zj x3, zj x4, zj x5, zj x6, zmk] [] w ov w' c s
      exact h
    · replace h := h.2 hp
      show Zr sc 143 125 [zp a0, zj x1, zj x2, zj x3, zj x4, zj x5, zj x6, zmk] [] w ov w' c s
      refine Zr_st (q := (126, [zp a0, zj x1, zj x2, zj x3, zj x4, zj x5, zj x6, zmk], [zj x3])) rfl rfl rfl ?_
      show Zr sc 143 126 [zp a0, zj x1, zj x2, zj x3, zj x4, zj x5, zj x6, zmk] [zj x3] w ov w' c s
      refine Zr_st (q := (128, [zp a0, zj x1, zj x2, zj x3, zj x4, zj x5, zj x6, zmk], [zj x4, zj x3])) rfl rfl rfl ?_
      show Zr sc 143 128 [zp a0, zj x1, zj x2, zj x3, zj x4, zj x5, zj x6, zmk] [zj x4, zj x3] w ov w' c s
      refine rl_add rfl ?_
      show Zr sc 143 129 [zp a0, zj x1, zj x2, zj x3, zj x4, zj x5, zj x6, zmk] [zj (x3 + x4)] w ov w' c s
      refine rl_si rfl (by decide) ?_
      show Zr sc 143 132 [zp a0, zj x1, zj x2, zj x3, zj x4, zj x5, zj x6, zmk] [zj 1024, zj (x3 + x4)] w ov w' c s
      obtain ⟨hr_21, h⟩ := h
      refine Zr_br (p := 1024 < (x3 + x4)) rfl rfl (zcmp_j (cnd := .gt) hr_21.1 hr_21.2) (fun hp => ?_) (fun hp => ?_)
      · replace h := h.1 hp
        show Zr sc 143 204 [zp a0, zj x1, zj x2, zj x3, zj x4, zj x5, zj x6, zmk] [] w ov w' c s
        exact h
      · replace h := h.2 hp
        show Zr sc 143 135 [zp a0, zj x1, zj x2, zj x3, zj x4, zj x5, zj x6, zmk] [] w ov w' c s
        refine Zr_st (q := (136, [zp a0, zj x1, zj x2, zj x3, zj x4, zj x5, zj x6, zmk], [zp a0])) rfl rfl rfl ?_
        show Zr sc 143 136 [zp a0, zj x1, zj x2, zj x3, zj x4, zj x5, zj x6, zmk] [zp a0] w ov w' c s
        refine Zr_st (q := (137, [zp a0, zj x1, zj x2, zj x3, zj x4, zj x5, zj x6, zmk], [zj x3, zp a0])) rfl rfl rfl ?_
        show Zr sc 143 137 [zp a0, zj x1, zj x2, zj x3, zj x4, zj x5, zj x6, zmk] [zj x3, zp a0] w ov w' c s
        refine Zr_st (q := (139, [zp a0, zj x1, zj x2, zj x3, zj x4, zj x5, zj x6, zmk], [zj x5, zj x3, zp a0])) rfl rfl rfl ?_
        show Zr sc 143 139 [zp a0, zj x1, zj x2, zj x3, zj x4, zj x5, zj x6, zmk] [zj x5, zj x3, zp a0] w ov w' c s
        refine rl_add rfl ?_
        show Zr sc 143 140 [zp a0, zj x1, zj x2, zj x3, zj x4, zj x5, zj x6, zmk] [zj (x3 + x5), zp a0] w ov w' c s
        refine Zr_st (q := (142, [zp a0, zj x1, zj x2, zj x3, zj x4, zj x5, zj x6, zmk], [zj x4, zj (x3 + x5), zp a0])) rfl rfl rfl ?_
        show Zr sc 143 142 [zp a0, zj x1, zj x2, zj x3, zj x4, zj x5, zj x6, zmk] [zj x4, zj (x3 + x5), zp a0] w ov w' c s
        refine Zr_st (q := (144, [zp a0, zj x1, zj x2, zj x3, zj x4, zj x5, zj x6, zmk], [zj x5, zj x4, zj (x3 + x5), zp a0])) rfl rfl rfl ?_
        show Zr sc 143 144 [zp a0, zj x1, zj x2, zj x3, zj x4, zj x5, zj x6, zmk] [zj x5, zj x4, zj (x3 + x5), zp a0] w ov w' c s
        refine rl_sub rfl ?_
        show Zr sc 143 145 [zp a0, zj x1, zj x2, zj x3, zj x4, zj x5, zj x6, zmk] [zj (x4 - x5), zj (x3 + x5), zp a0] w ov w' c s
        obtain ⟨r_24, w_22, hk_23, h⟩ := h
        refine rn_cal0 (ins := .invokevirtual 79) (rest := []) rfl rfl rfl rfl (zinv_v (fs := _) hw_2 rfl rfl rfl rfl) rfl rfl hk_23 ?_
        show Zr sc 143 148 [zp a0, zj x1, zj x2, zj x3, zj x4, zj x5, zj x6, zmk] [zj r_24] w_22 ov w' c s
        obtain ⟨hr_25, h⟩ := h
        refine Zr_b0 (p := r_24 = 0) rfl rfl (zcmp_0 (cnd := .eq) hr_25) (fun hp => ?_) (fun hp => ?_)
        · replace h := h.1 hp
          show Zr sc 143 204 [zp a0, zj x1, zj x2, zj x3, zj x4, zj x5, zj x6, zmk] [] w_22 ov w' c s
          exact h
        · replace h := h.2 hp
          show Zr sc 143 151 [zp a0, zj x1, zj x2, zj x3, zj x4, zj x5, zj x6, zmk] [] w_22 ov w' c s
          refine rl_ic rfl ?_
          show Zr sc 143 152 [zp a0, zj x1, zj x2, zj x3, zj x4, zj x5, zj x6, zmk] [zj 1] w_22 ov w' c s
          refine Zr_st (q := (154, [zp a0, zj x1, zj x2, zj x3, zj x4, zj x5, zj 1, zmk], [])) rfl rfl rfl ?_
          show Zr sc 143 154 [zp a0, zj x1, zj x2, zj x3, zj x4, zj x5, zj 1, zmk] [] w_22 ov w' c s
          refine Zr_st (q := (155, [zp a0, zj x1, zj x2, zj x3, zj x4, zj x5, zj 1, zmk], [zp a0])) rfl rfl rfl ?_
          show Zr sc 143 155 [zp a0, zj x1, zj x2, zj x3, zj x4, zj x5, zj 1, zmk] [zp a0] w_22 ov w' c s
          refine Zr_st (q := (156, [zp a0, zj x1, zj x2, zj x3, zj x4, zj x5, zj 1, zmk], [zj x3, zp a0])) rfl rfl rfl ?_
          show Zr sc 143 156 [zp a0, zj x1, zj x2, zj x3, zj x4, zj x5, zj 1, zmk] [zj x3, zp a0] w_22 ov w' c s
          refine Zr_st (q := (158, [zp a0, zj x1, zj x2, zj x3, zj x4, zj x5, zj 1, zmk], [zj x5, zj x3, zp a0])) rfl rfl rfl ?_
          show Zr sc 143 158 [zp a0, zj x1, zj x2, zj x3, zj x4, zj x5, zj 1, zmk] [zj x5, zj x3, zp a0] w_22 ov w' c s
          refine rl_add rfl ?_
          show Zr sc 143 159 [zp a0, zj x1, zj x2, zj x3, zj x4, zj x5, zj 1, zmk] [zj (x3 + x5), zp a0] w_22 ov w' c s
          refine Zr_st (q := (161, [zp a0, zj x1, zj x2, zj x3, zj x4, zj x5, zj 1, zmk], [zj x4, zj (x3 + x5), zp a0])) rfl rfl rfl ?_
          show Zr sc 143 161 [zp a0, zj x1, zj x2, zj x3, zj x4, zj x5, zj 1, zmk] [zj x4, zj (x3 + x5), zp a0] w_22 ov w' c s
          refine Zr_st (q := (163, [zp a0, zj x1, zj x2, zj x3, zj x4, zj x5, zj 1, zmk], [zj x5, zj x4, zj (x3 + x5), zp a0])) rfl rfl rfl ?_
          show Zr sc 143 163 [zp a0, zj x1, zj x2, zj x3, zj x4, zj x5, zj 1, zmk] [zj x5, zj x4, zj (x3 + x5), zp a0] w_22 ov w' c s
          refine rl_sub rfl ?_
          show Zr sc 143 164 [zp a0, zj x1, zj x2, zj x3, zj x4, zj x5, zj 1, zmk] [zj (x4 - x5), zj (x3 + x5), zp a0] w_22 ov w' c s
          refine Zr_st (q := (165, [zp a0, zj x1, zj x2, zj x3, zj x4, zj x5, zj 1, zmk], [zj x1, zj (x4 - x5), zj (x3 + x5), zp a0])) rfl rfl rfl ?_
          show Zr sc 143 165 [zp a0, zj x1, zj x2, zj x3, zj x4, zj x5, zj 1, zmk] [zj x1, zj (x4 - x5), zj (x3 + x5), zp a0] w_22 ov w' c s
          obtain ⟨f0_27, f2_29, f3_30, f4_31, f5_32, f6_33, f7_34, f8_35, f9_36, f10_37, f11_38, f12_39, f13_40, f14_41, f15_42, f16_43, hw_26, h⟩ := h
          obtain ⟨w_44, hk_45, h⟩ := h
          refine rn_cal0 (ins := .invokevirtual 110) (rest := []) rfl rfl rfl rfl (zinv_v (fs := _) hw_26 rfl rfl rfl rfl) rfl rfl hk_45 ?_
          show Zr sc 143 168 [zp a0, zj x1, zj x2, zj x3, zj x4, zj x5, zj 1, zmk] [] w_44 ov w' c s
          refine Zr_st (q := (169, [zp a0, zj x1, zj x2, zj x3, zj x4, zj x5, zj 1, zmk], [zp a0])) rfl rfl rfl ?_
          show Zr sc 143 169 [zp a0, zj x1, zj x2, zj x3, zj x4, zj x5, zj 1, zmk] [zp a0] w_44 ov w' c s
          obtain ⟨f0_47, f2_49, f3_50, f4_51, f5_52, f6_53, f7_54, f8_55, f9_56, f10_57, f11_58, f12_59, f13_60, f14_61, f15_62, f16_63, hw_46, h⟩ := h
          refine rl_gf rfl hw_46 rfl rfl ?_
          show Zr sc 143 172 [zp a0, zj x1, zj x2, zj x3, zj x4, zj x5, zj 1, zmk] [zp f13_60] w_44 ov w' c s
          refine rl_ic rfl ?_
          show Zr sc 143 173 [zp a0, zj x1, zj x2, zj x3, zj x4, zj x5, zj 1, zmk] [zj 1, zp f13_60] w_44 ov w' c s
          refine Zr_st (q := (174, [zp a0, zj x1, zj x2, zj x3, zj x4, zj x5, zj 1, zmk], [zj 1, zp f13_60, zj 1, zp f13_60])) rfl rfl rfl ?_
          show Zr sc 143 174 [zp a0, zj x1, zj x2, zj x3, zj x4, zj x5, zj 1, zmk] [zj 1, zp f13_60, zj 1, zp f13_60] w_44 ov w' c s
          obtain ⟨l_66, hw_65, h⟩ := h
          obtain ⟨hi_64, h⟩ := h
          refine rl_ia rfl hw_65 hi_64.1 hi_64.2.1 hi_64.2.2 ?_
          show Zr sc 143 175 [zp a0, zj x1, zj x2, zj x3, zj x4, zj x5, zj 1, zmk] [zj (zgi l_66 1), zj 1, zp f13_60] w_44 ov w' c s
          refine Zr_st (q := (176, [zp a0, zj x1, zj x2, zj x3, zj x4, zj x5, zj 1, zmk], [zj x3, zj (zgi l_66 1), zj 1, zp f13_60])) rfl rfl rfl ?_
          show Zr sc 143 176 [zp a0, zj x1, zj x2, zj x3, zj x4, zj x5, zj 1, zmk] [zj x3, zj (zgi l_66 1), zj 1, zp f13_60] w_44 ov w' c s
          refine Zr_st (q := (178, [zp a0, zj x1, zj x2, zj x3, zj x4, zj x5, zj 1, zmk], [zj x4, zj x3, zj (zgi l_66 1), zj 1, zp f13_60])) rfl rfl rfl ?_
          show Zr sc 143 178 [zp a0, zj x1, zj x2, zj x3, zj x4, zj x5, zj 1, zmk] [zj x4, zj x3, zj (zgi l_66 1), zj 1, zp f13_60] w_44 ov w' c s
          refine rl_add rfl ?_
          show Zr sc 143 179 [zp a0, zj x1, zj x2, zj x3, zj x4, zj x5, zj 1, zmk] [zj (x3 + x4), zj (zgi l_66 1), zj 1, zp f13_60] w_44 ov w' c s
          refine rl_si rfl (by decide) ?_
          show Zr sc 143 182 [zp a0, zj x1, zj x2, zj x3, zj x4, zj x5, zj 1, zmk] [zj 1024, zj (x3 + x4), zj (zgi l_66 1), zj 1, zp f13_60] w_44 ov w' c s
          obtain ⟨hr_67, h⟩ := h
          refine Zr_br (p := 1024 ≤ (x3 + x4)) rfl rfl (zcmp_j (cnd := .ge) hr_67.1 hr_67.2) (fun hp => ?_) (fun hp => ?_)
          · replace h := h.1 hp
            show Zr sc 143 201 [zp a0, zj x1, zj x2, zj x3, zj x4, zj x5, zj 1, zmk] [zj (zgi l_66 1), zj 1, zp f13_60] w_44 ov w' c s
            refine rl_ic rfl ?_
            show Zr sc 143 202 [zp a0, zj x1, zj x2, zj x3, zj x4, zj x5, zj 1, zmk] [zj 0, zj (zgi l_66 1), zj 1, zp f13_60] w_44 ov w' c s
            refine rl_add rfl ?_
            show Zr sc 143 203 [zp a0, zj x1, zj x2, zj x3, zj x4, zj x5, zj 1, zmk] [zj ((zgi l_66 1) + 0), zj 1, zp f13_60] w_44 ov w' c s
            obtain ⟨hi_68, h⟩ := h
            refine rl_is rfl hw_65 hi_68.1 hi_68.2.1 hi_68.2.2 ?_
            show Zr sc 143 204 [zp a0, zj x1, zj x2, zj x3, zj x4, zj x5, zj 1, zmk] [] (w_44.set f13_60 (za (zsi l_66 1 ((zgi l_66 1) + 0)))) ov w' c s
            exact h
          · replace h := h.2 hp
            show Zr sc 143 185 [zp a0, zj x1, zj x2, zj x3, zj x4, zj x5, zj 1, zmk] [zj (zgi l_66 1), zj 1, zp f13_60] w_44 ov w' c s
            refine Zr_st (q := (186, [zp a0, zj x1, zj x2, zj x3, zj x4, zj x5, zj 1, zmk], [zp a0, zj (zgi l_66 1), zj 1, zp f13_60])) rfl rfl rfl ?_
            show Zr sc 143 186 [zp a0, zj x1, zj x2, zj x3, zj x4, zj x5, zj 1, zmk] [zp a0, zj (zgi l_66 1), zj 1, zp f13_60] w_44 ov w' c s
            refine rl_gf rfl hw_46 rfl rfl ?_
            show Zr sc 143 189 [zp a0, zj x1, zj x2, zj x3, zj x4, zj x5, zj 1, zmk] [zp f6_53, zj (zgi l_66 1), zj 1, zp f13_60] w_44 ov w' c s
            refine Zr_st (q := (190, [zp a0, zj x1, zj x2, zj x3, zj x4, zj x5, zj 1, zmk], [zj x3, zp f6_53, zj (zgi l_66 1), zj 1, zp f13_60])) rfl rfl rfl ?_
            show Zr sc 143 190 [zp a0, zj x1, zj x2, zj x3, zj x4, zj x5, zj 1, zmk] [zj x3, zp f6_53, zj (zgi l_66 1), zj 1, zp f13_60] w_44 ov w' c s
            refine Zr_st (q := (192, [zp a0, zj x1, zj x2, zj x3, zj x4, zj x5, zj 1, zmk], [zj x4, zj x3, zp f6_53, zj (zgi l_66 1), zj 1, zp f13_60])) rfl rfl rfl ?_
            show Zr sc 143 192 [zp a0, zj x1, zj x2, zj x3, zj x4, zj x5, zj 1, zmk] [zj x4, zj x3, zp f6_53, zj (zgi l_66 1), zj 1, zp f13_60] w_44 ov w' c s
            refine rl_add rfl ?_
            show Zr sc 143 193 [zp a0, zj x1, zj x2, zj x3, zj x4, zj x5, zj 1, zmk] [zj (x3 + x4), zp f6_53, zj (zgi l_66 1), zj 1, zp f13_60] w_44 ov w' c s
            obtain ⟨l_71, hw_70, h⟩ := h
            obtain ⟨hi_69, h⟩ := h
            refine rl_ia rfl hw_70 hi_69.1 hi_69.2.1 hi_69.2.2 ?_
            show Zr sc 143 194 [zp a0, zj x1, zj x2, zj x3, zj x4, zj x5, zj 1, zmk] [zj (zgi l_71 (x3 + x4)), zj (zgi l_66 1), zj 1, zp f13_60] w_44 ov w' c s
            obtain ⟨hr_72, h⟩ := h
            refine Zr_b0 (p := 0 ≤ (zgi l_71 (x3 + x4))) rfl rfl (zcmp_0 (cnd := .ge) hr_72) (fun hp => ?_) (fun hp => ?_)
            · replace h := h.1 hp
              show Zr sc 143 201 [zp a0, zj x1, zj x2, zj x3, zj x4, zj x5, zj 1, zmk] [zj (zgi l_66 1), zj 1, zp f13_60] w_44 ov w' c s
              refine rl_ic rfl ?_
              show Zr sc 143 202 [zp a0, zj x1, zj x2, zj x3, zj x4, zj x5, zj 1, zmk] [zj 0, zj (zgi l_66 1), zj 1, zp f13_60] w_44 ov w' c s
              refine rl_add rfl ?_
              show Zr sc 143 203 [zp a0, zj x1, zj x2, zj x3, zj x4, zj x5, zj 1, zmk] [zj ((zgi l_66 1) + 0), zj 1, zp f13_60] w_44 ov w' c s
              obtain ⟨hi_73, h⟩ := h
              refine rl_is rfl hw_65 hi_73.1 hi_73.2.1 hi_73.2.2 ?_
              show Zr sc 143 204 [zp a0, zj x1, zj x2, zj x3, zj x4, zj x5, zj 1, zmk] [] (w_44.set f13_60 (za (zsi l_66 1 ((zgi l_66 1) + 0)))) ov w' c s
              exact h
            · replace h := h.2 hp
              show Zr sc 143 197 [zp a0, zj x1, zj x2, zj x3, zj x4, zj x5, zj 1, zmk] [zj (zgi l_66 1), zj 1, zp f13_60] w_44 ov w' c s
              refine rl_ic rfl ?_
              show Zr sc 143 198 [zp a0, zj x1, zj x2, zj x3, zj x4, zj x5, zj 1, zmk] [zj 1, zj (zgi l_66 1), zj 1, zp f13_60] w_44 ov w' c s
              refine Zr_st (q := (202, [zp a0, zj x1, zj x2, zj x3, zj x4, zj x5, zj 1, zmk], [zj 1, zj (zgi l_66 1), zj 1, zp f13_60])) rfl rfl rfl ?_
              show Zr sc 143 202 [zp a0, zj x1, zj x2, zj x3, zj x4, zj x5, zj 1, zmk] [zj 1, zj (zgi l_66 1), zj 1, zp f13_60] w_44 ov w' c s
              refine rl_add rfl ?_
              show Zr sc 143 203 [zp a0, zj x1, zj x2, zj x3, zj x4, zj x5, zj 1, zmk] [zj ((zgi l_66 1) + 1), zj 1, zp f13_60] w_44 ov w' c s
              obtain ⟨hi_74, h⟩ := h
              refine rl_is rfl hw_65 hi_74.1 hi_74.2.1 hi_74.2.2 ?_
              show Zr sc 143 204 [zp a0, zj x1, zj x2, zj x3, zj x4, zj x5, zj 1, zmk] [] (w_44.set f13_60 (za (zsi l_66 1 ((zgi l_66 1) + 1)))) ov w' c s
              exact h
set_option maxRecDepth 100000 in
theorem V143_204 {sc : List Value} {w w' : List zE} {ov : Option Value} {c s : Nat} {a0 : Nat} {x1 : Int} {x2 : Int} {x3 : Int} {x4 : Int} {x5 : Int} {x6 : Int} (h : ((zrg x6) ∧ ((x6 = 0 → (∃ f0_3 : Nat, ∃ f2_5 : Int, ∃ f3_6 : Int, ∃ f4_7 : Int, ∃ f5_8 : Int, ∃ f6_9 : Nat, ∃ f7_10 : Int, ∃ f8_11 : Nat, ∃ f9_12 : Nat, ∃ f10_13 : Nat, ∃ f11_14 : Int, ∃ f12_15 : Int, ∃ f13_16 : Nat, ∃ f14_17 : Int, ∃ f15_18 : Nat, ∃ f16_19 : Int, w[a0]? = some (zob 7 [zp f0_3, .ref 0, zj f2_5, zj f3_6, zj f4_7, zj f5_8, zp f6_9, zj f7_10, zp f8_11, zp f9_12, zp f10_13, zj f11_14, zj f12_15, zp f13_16, zj f14_17, zp f15_18, zj f16_19]) ∧ (∃ r_22 : Int, ∃ w_20 : List zE, ∃ c_23 s_24 c_25 s_26 : Nat, Zc sc 125 [zp a0, zj x4] w (some (zj r_22)) w_20 c_23 s_24 ∧ (c = c_23 + c_25 ∧ s = s_24 + s_26) ∧ Zr sc 143 221 [zp a0, zj x1, zj x2, zj x3, zj x4, zj x5, zj x6, zj r_22] [] w_20 ov w' c_25 s_26))) ∧ (¬ (x6 = 0) → Zr sc 143 221 [zp a0, zj x1, zj x2, zj x3, zj x4, zj x5, zj x6, zj x3] [] w ov w' c s)))) : Zr sc 143 204 [zp a0, zj x1, zj x2, zj x3, zj x4, zj x5, zj x6, zmk] [] w ov w' c s := by
  refine Zr_st (q := (206, [zp a0, zj x1, zj x2, zj x3, zj x4, zj x5, zj x6, zmk], [zj x6])) rfl rfl rfl ?_
  show Zr sc 143 206 [zp a0, zj x1, zj x2, zj x3, zj x4, zj x5, zj x6, zmk] [zj x6] w ov w' c s
  obtain ⟨hr_1, h⟩ := h
  refine Zr_b0 (p := x6 = 0) rfl rfl (zcmp_0 (cnd := .eq) hr_1) (fun hp => ?_) (fun hp => ?_)
  · replace h := h.1 hp
    show Zr sc 143 213 [zp a0, zj x1, zj x2, zj x3, zj x4, zj x5, zj x6, zmk] [] w ov w' c s
    refine Zr_st (q := (214, [zp a0, zj x1, zj x2, zj x3, zj x4, zj x5, zj x6, zmk], [zp a0])) rfl rfl rfl ?_
    show Zr sc 143 214 [zp a0, zj x1, zj x2, zj x3, zj x4, zj x5, zj x6, zmk] [zp a0] w ov w' c s
    refine Zr_st (q := (216, [zp a0, zj x1, zj x2, zj x3, zj x4, zj x5, zj x6, zmk], [zj x4, zp a0])) rfl rfl rfl ?_
    show Zr sc 143 216 [zp a0, zj x1, zj x2, zj x3, zj x4, zj x5, zj x6, zmk] [zj x4, zp a0] w ov w' c s
    obtain ⟨f0_3, f2_5, f3_6, f4_7, f5_8, f6_9, f7_10, f8_11, f9_12, f10_13, f11_14, f12_15, f13_16, f14_17, f15_18, f16_19, hw_2, h⟩ := h
    obtain ⟨r_22, w_20, c_23, s_24, c_25, s_26, hk_21, hc_27, h⟩ := h
    refine rl_cal (ins := .invokevirtual 133) (rest := []) rfl rfl rfl rfl (zinv_v (fs := _) hw_2 rfl rfl rfl rfl) rfl rfl hk_21 ?_ hc_27.1 hc_27.2
    show Zr sc 143 219 [zp a0, zj x1, zj x2, zj x3, zj x4, zj x5, zj x6, zmk] [zj r_22] w_20 ov w' c_25 s_26
    refine Zr_st (q := (221, [zp a0, zj x1, zj x2, zj x3, zj x4, zj x5, zj x6, zj r_22], [])) rfl rfl rfl ?_
    show Zr sc 143 221 [zp a0, zj x1, zj x2, zj x3, zj x4, zj x5, zj x6, zj r_22] [] w_20 ov w' c_25 s_26
    exact h
  · replace h := h.2 hp
    show Zr sc 143 209 [zp a0, zj x1, zj x2, zj x3, zj x4, zj x5, zj x6, zmk] [] w ov w' c s
    refine Zr_st (q := (210, [zp a0, zj x1, zj x2, zj x3, zj x4, zj x5, zj x6, zmk], [zj x3])) rfl rfl rfl ?_
    show Zr sc 143 210 [zp a0, zj x1, zj x2, zj x3, zj x4, zj x5, zj x6, zmk] [zj x3] w ov w' c s
    refine Zr_st (q := (219, [zp a0, zj x1, zj x2, zj x3, zj x4, zj x5, zj x6, zmk], [zj x3])) rfl rfl rfl ?_
    show Zr sc 143 219 [zp a0, zj x1, zj x2, zj x3, zj x4, zj x5, zj x6, zmk] [zj x3] w ov w' c s
    refine Zr_st (q := (221, [zp a0, zj x1, zj x2, zj x3, zj x4, zj x5, zj x6, zj x3], [])) rfl rfl rfl ?_
    show Zr sc 143 221 [zp a0, zj x1, zj x2, zj x3, zj x4, zj x5, zj x6, zj x3] [] w ov w' c s
    exact h
set_option maxRecDepth 100000 in
theorem V143_221 {sc : List Value} {w w' : List zE} {ov : Option Value} {c s : Nat} {a0 : Nat} {x1 : Int} {x2 : Int} {x3 : Int} {x4 : Int} {x5 : Int} {x6 : Int} {x7 : Int} (h : ((zrg x7) ∧ ((0 ≤ x7 → Zr sc 143 241 [zp a0, zj x1, zj x2, zj x3, zj x4, zj x5, zj x6, zj x7] [] w ov w' c s) ∧ (¬ (0 ≤ x7) → ((zrg x6) ∧ ((x6 ≠ 0 → Zr sc 143 241 [zp a0, zj x1, zj x2, zj x3, zj x4, zj x5, zj x6, zj x7] [] w ov w' c s) ∧ (¬ (x6 ≠ 0) → (∃ f0_4 : Nat, ∃ f2_6 : Int, ∃ f3_7 : Int, ∃ f4_8 : Int, ∃ f5_9 : Int, ∃ f6_10 : Nat, ∃ f7_11 : Int, ∃ f8_12 : Nat, ∃ f9_13 : Nat, ∃ f10_14 : Nat, ∃ f11_15 : Int, ∃ f12_16 : Int, ∃ f13_17 : Nat, ∃ f14_18 : Int, ∃ f15_19 : Nat, ∃ f16_20 : Int, w[a0]? = some (zob 7 [zp f0_4, .ref 0, zj f2_6, zj f3_7, zj f4_8, zj f5_9, zp f6_10, zj f7_11, zp f8_12, zp f9_13, zp f10_14, zj f11_15, zj f12_16, zp f13_17, zj f14_18, zp f15_19, zj f16_20]) ∧ (∃ l_23 : List Int, w[f13_17]? = some (za l_23) ∧ (((0 : Int) ≤ 4 ∧ 4 < (l_23.length : Int) ∧ 4 ≤ (2147483647 : Int)) ∧ (((0 : Int) ≤ 4 ∧ 4 < (l_23.length : Int) ∧ 4 ≤ (2147483647 : Int)) ∧ Zr sc 143 241 [zp a0, zj x1, zj x2, zj x3, zj x4, zj x5, zj x6, zj x7] [] (w.set f13_17 (za (zsi l_23 4 ((zgi l_23 4) + 1)))) ov w' c s))))))))))) : Zr sc 143 221 [zp a0, zj x1, zj x2, zj x3, zj x4, zj x5, zj x6, zj x7] [] w ov w' c s := by
  refine Zr_st (q := (223, [zp a0, zj x1, zj x2, zj x3, zj x4, zj x5, zj x6, zj x7], [zj x7])) rfl rfl rfl ?_
  show Zr sc 143 223 [zp a0, zj x1, zj x2, zj x3, zj x4, zj x5, zj x6, zj x7] [zj x7] w ov w' c s
  obtain ⟨hr_1, h⟩ := h
  refine Zr_b0 (p := 0 ≤ x7) rfl rfl (zcmp_0 (cnd := .ge) hr_1) (fun hp => ?_) (fun hp => ?_)
  · replace h := h.1 hp
    show Zr sc 143 241 [zp a0, zj x1, zj x2, zj x3, zj x4, zj x5, zj x6, zj x7] [] w ov w' c s
    exact h
  · replace h := h.2 hp
    show Zr sc 143 226 [zp a0, zj x1, zj x2, zj x3, zj x4, zj x5, zj x6, zj x7] [] w ov w' c s
    refine Zr_st (q := (228, [zp a0, zj x1, zj x2, zj x3, zj x4, zj x5, zj x6, zj x7], [zj x6])) rfl rfl rfl ?_
    show Zr sc 143 228 [zp a0, zj x1, zj x2, zj x3, zj x4, zj x5, zj x6, zj x7] [zj x6] w ov w' c s
    obtain ⟨hr_2, h⟩ := h
    refine Zr_b0 (p := x6 ≠ 0) rfl rfl (zcmp_0 (cnd := .ne) hr_2) (fun hp => ?_) (fun hp => ?_)
    · replace h := h.1 hp
      show Zr sc 143 241 [zp a0, zj x1, zj x2, zj x3, zj x4, zj x5, zj x6, zj x7] [] w ov w' c s
      exact h
    · replace h := h.2 hp
      show Zr sc 143 231 [zp a0, zj x1, zj x2, zj x3, zj x4, zj x5, zj x6, zj x7] [] w ov w' c s
      refine Zr_st (q := (232, [zp a0, zj x1, zj x2, zj x3, zj x4, zj x5, zj x6, zj x7], [zp a0])) rfl rfl rfl ?_
      show Zr sc 143 232 [zp a0, zj x1, zj x2, zj x3, zj x4, zj x5, zj x6, zj x7] [zp a0] w ov w' c s
      obtain ⟨f0_4, f2_6, f3_7, f4_8, f5_9, f6_10, f7_11, f8_12, f9_13, f10_14, f11_15, f12_16, f13_17, f14_18, f15_19, f16_20, hw_3, h⟩ := h
      refine rl_gf rfl hw_3 rfl rfl ?_
      show Zr sc 143 235 [zp a0, zj x1, zj x2, zj x3, zj x4, zj x5, zj x6, zj x7] [zp f13_17] w ov w' c s
      refine rl_ic rfl ?_
      show Zr sc 143 236 [zp a0, zj x1, zj x2, zj x3, zj x4, zj x5, zj x6, zj x7] [zj 4, zp f13_17] w ov w' c s
      refine Zr_st (q := (237, [zp a0, zj x1, zj x2, zj x3, zj x4, zj x5, zj x6, zj x7], [zj 4, zp f13_17, zj 4, zp f13_17])) rfl rfl rfl ?_
      show Zr sc 143 237 [zp a0, zj x1, zj x2, zj x3, zj x4, zj x5, zj x6, zj x7] [zj 4, zp f13_17, zj 4, zp f13_17] w ov w' c s
      obtain ⟨l_23, hw_22, h⟩ := h
      obtain ⟨hi_21, h⟩ := h
      refine rl_ia rfl hw_22 hi_21.1 hi_21.2.1 hi_21.2.2 ?_
      show Zr sc 143 238 [zp a0, zj x1, zj x2, zj x3, zj x4, zj x5, zj x6, zj x7] [zj (zgi l_23 4), zj 4, zp f13_17] w ov w' c s
      refine rl_ic rfl ?_
      show Zr sc 143 239 [zp a0, zj x1, zj x2, zj x3, zj x4, zj x5, zj x6, zj x7] [zj 1, zj (zgi l_23 4), zj 4, zp f13_17] w ov w' c s
      refine rl_add rfl ?_
      show Zr sc 143 240 [zp a0, zj x1, zj x2, zj x3, zj x4, zj x5, zj x6, zj x7] [zj ((zgi l_23 4) + 1), zj 4, zp f13_17] w ov w' c s
      obtain ⟨hi_24, h⟩ := h
      refine rl_is rfl hw_22 hi_24.1 hi_24.2.1 hi_24.2.2 ?_
      show Zr sc 143 241 [zp a0, zj x1, zj x2, zj x3, zj x4, zj x5, zj x6, zj x7] [] (w.set f13_17 (za (zsi l_23 4 ((zgi l_23 4) + 1)))) ov w' c s
      exact h
set_option maxRecDepth 100000 in
theorem V143_241 {sc : List Value} {w w' : List zE} {ov : Option Value} {c s : Nat} {a0 : Nat} {x1 : Int} {x2 : Int} {x3 : Int} {x4 : Int} {x5 : Int} {x6 : Int} {x7 : Int} (h : ((zrg x7) ∧ ((x7 < 0 → Zr sc 143 305 [zp a0, zj x1, zj x2, zj x3, zj x4, zj x5, zj x6, zj x7] [] w ov w' c s) ∧ (¬ (x7 < 0) → ((zrg x6) ∧ ((x6 ≠ 0 → Zr sc 143 305 [zp a0, zj x1, zj x2, zj x3, zj x4, zj x5, zj x6, zj x7] [] w ov w' c s) ∧ (¬ (x6 ≠ 0) → (∃ f0_4 : Nat, ∃ f2_6 : Int, ∃ f3_7 : Int, ∃ f4_8 : Int, ∃ f5_9 : Int, ∃ f6_10 : Nat, ∃ f7_11 : Int, ∃ f8_12 : Nat, ∃ f9_13 : Nat, ∃ f10_14 : Nat, ∃ f11_15 : Int, ∃ f12_16 : Int, ∃ f13_17 : Nat, ∃ f14_18 : Int, ∃ f15_19 : Nat, ∃ f16_20 : Int, w[a0]? = some (zob 7 [zp f0_4, .ref 0, zj f2_6, zj f3_7, zj f4_8, zj f5_9, zp f6_10, zj f7_11, zp f8_12, zp f9_13, zp f10_14, zj f11_15, zj f12_16, zp f13_17, zj f14_18, zp f15_19, zj f16_20]) ∧ (∃ l_23 : List Int, w[f13_17]? = some (za l_23) ∧ (((0 : Int) ≤ 3 ∧ 3 < (l_23.length : Int) ∧ 3 ≤ (2147483647 : Int)) ∧ (∃ l_26 : List Int, w[f8_12]? = some (za l_26) ∧ (((0 : Int) ≤ x1 ∧ x1 < (l_26.length : Int) ∧ x1 ≤ (2147483647 : Int)) ∧ ((zrg x2 ∧ zrg (zgi l_26 x1)) ∧ (((0 : Int) ≤ 3 ∧ 3 < (l_23.length : Int) ∧ 3 ≤ (2147483647 : Int)) ∧ ((f13_17 ≠ a0) ∧ ((f13_17 ≠ f9_13) ∧ (∃ l_33 : List Int, w[f9_13]? = some (za l_33) ∧ (((0 : Int) ≤ 80 ∧ 80 < (l_33.length : Int) ∧ 80 ≤ (2147483647 : Int)) ∧ ((f9_13 ≠ a0) ∧ (∃ w_35 : List zE, Zc sc 131 [zp a0, zj x7, zj x4, zj 80] ((w.set f13_17 (za (zsi l_23 3 ((zgi l_23 3) + (min x2 (zgi l_26 x1)))))).set f9_13 (za (zsi l_33 80 x4))) none w_35 0 0 ∧ (∃ f0_38 : Nat, ∃ f2_40 : Int, ∃ f3_41 : Int, ∃ f4_42 : Int, ∃ f5_43 : Int, ∃ f6_44 : Nat, ∃ f7_45 : Int, ∃ f8_46 : Nat, ∃ f9_47 : Nat, ∃ f10_48 : Nat, ∃ f11_49 : Int, ∃ f12_50 : Int, ∃ f13_51 : Nat, ∃ f14_52 : Int, ∃ f15_53 : Nat, ∃ f16_54 : Int, w_35[a0]? = some (zob 7 [zp f0_38, .ref 0, zj f2_40, zj f3_41, zj f4_42, zj f5_43, zp f6_44, zj f7_45, zp f8_46, zp f9_47, zp f10_48, zj f11_49, zj f12_50, zp f13_51, zj f14_52, zp f15_53, zj f16_54]) ∧ (∃ w_55 : List zE, Zc sc 140 [zp a0, zj x3, zj x5] w_35 none w_55 0 0 ∧ (∃ f0_58 : Nat, ∃ f2_60 : Int, ∃ f3_61 : Int, ∃ f4_62 : Int, ∃ f5_63 : Int, ∃ f6_64 : Nat, ∃ f7_65 : Int, ∃ f8_66 : Nat, ∃ f9_67 : Nat, ∃ f10_68 : Nat, ∃ f11_69 : Int, ∃ f12_70 : Int, ∃ f13_71 : Nat, ∃ f14_72 : Int, ∃ f15_73 : Nat, ∃ f16_74 : Int, w_55[a0]? = some (zob 7 [zp f0_58, .ref 0, zj f2_60, zj f3_61, zj f4_62, zj f5_63, zp f6_64, zj f7_65, zp f8_66, zp f9_67, zp f10_68, zj f11_69, zj f12_70, zp f13_71, zj f14_72, zp f15_73, zj f16_74]) ∧ (∃ w_75 : List zE, Zc sc 131 [zp a0, zj x7, zj x4, zj x1] w_55 none w_75 0 0 ∧ Zr sc 143 305 [zp a0, zj x1, zj x2, zj x3, zj x4, zj x5, zj x6, zj x7] [] w_75 ov w' c s)))))))))))))))))))))))) : Zr sc 143 241 [zp a0, zj x1, zj x2, zj x3, zj x4, zj x5, zj x6, zj x7] [] w ov w' c s := by
  refine Zr_st (q := (243, [zp a0, zj x1, zj x2, zj x3, zj x4, zj x5, zj x6, zj x7], [zj x7])) rfl rfl rfl ?_
  show Zr sc 143 243 [zp a0, zj x1, zj x2, zj x3, zj x4, zj x5, zj x6, zj x7] [zj x7] w ov w' c s
  obtain ⟨hr_1, h⟩ := h
  refine Zr_b0 (p := x7 < 0) rfl rfl (zcmp_0 (cnd := .lt) hr_1) (fun hp => ?_) (fun hp => ?_)
  · replace h := h.1 hp
    show Zr sc 143 305 [zp a0, zj x1, zj x2, zj x3, zj x4, zj x5, zj x6, zj x7] [] w ov w' c s
    exact h
  · replace h := h.2 hp
    show Zr sc 143 246 [zp a0, zj x1, zj x2, zj x3, zj x4, zj x5, zj x6, zj x7] [] w ov w' c s
    refine Zr_st (q := (248, [zp a0, zj x1, zj x2, zj x3, zj x4, zj x5, zj x6, zj x7], [zj x6])) rfl rfl rfl ?_
    show Zr sc 143 248 [zp a0, zj x1, zj x2, zj x3, zj x4, zj x5, zj x6, zj x7] [zj x6] w ov w' c s
    obtain ⟨hr_2, h⟩ := h
    refine Zr_b0 (p := x6 ≠ 0) rfl rfl (zcmp_0 (cnd := .ne) hr_2) (fun hp => ?_) (fun hp => ?_)
    · replace h := h.1 hp
      show Zr sc 143 305 [zp a0, zj x1, zj x2, zj x3, zj x4, zj x5, zj x6, zj x7] [] w ov w' c s
      exact h
    · replace h := h.2 hp
      show Zr sc 143 251 [zp a0, zj x1, zj x2, zj x3, zj x4, zj x5, zj x6, zj x7] [] w ov w' c s
      refine Zr_st (q := (252, [zp a0, zj x1, zj x2, zj x3, zj x4, zj x5, zj x6, zj x7], [zp a0])) rfl rfl rfl ?_
      show Zr sc 143 252 [zp a0, zj x1, zj x2, zj x3, zj x4, zj x5, zj x6, zj x7] [zp a0] w ov w' c s
      obtain ⟨f0_4, f2_6, f3_7, f4_8, f5_9, f6_10, f7_11, f8_12, f9_13, f10_14, f11_15, f12_16, f13_17, f14_18, f15_19, f16_20, hw_3, h⟩ := h
      refine rl_gf rfl hw_3 rfl rfl ?_
      show Zr sc 143 255 [zp a0, zj x1, zj x2, zj x3, zj x4, zj x5, zj x6, zj x7] [zp f13_17] w ov w' c s
      refine rl_ic rfl ?_
      show Zr sc 143 256 [zp a0, zj x1, zj x2, zj x3, zj x4, zj x5, zj x6, zj x7] [zj 3, zp f13_17] w ov w' c s
      refine Zr_st (q := (257, [zp a0, zj x1, zj x2, zj x3, zj x4, zj x5, zj x6, zj x7], [zj 3, zp f13_17, zj 3, zp f13_17])) rfl rfl rfl ?_
      show Zr sc 143 257 [zp a0, zj x1, zj x2, zj x3, zj x4, zj x5, zj x6, zj x7] [zj 3, zp f13_17, zj 3, zp f13_17] w ov w' c s
      obtain ⟨l_23, hw_22, h⟩ := h
      obtain ⟨hi_21, h⟩ := h
      refine rl_ia rfl hw_22 hi_21.1 hi_21.2.1 hi_21.2.2 ?_
      show Zr sc 143 258 [zp a0, zj x1, zj x2, zj x3, zj x4, zj x5, zj x6, zj x7] [zj (zgi l_23 3), zj 3, zp f13_17] w ov w' c s
      refine Zr_st (q := (259, [zp a0, zj x1, zj x2, zj x3, zj x4, zj x5, zj x6, zj x7], [zj x2, zj (zgi l_23 3), zj 3, zp f13_17])) rfl rfl rfl ?_
      show Zr sc 143 259 [zp a0, zj x1, zj x2, zj x3, zj x4, zj x5, zj x6, zj x7] [zj x2, zj (zgi l_23 3), zj 3, zp f13_17] w ov w' c s
      refine Zr_st (q := (260, [zp a0, zj x1, zj x2, zj x3, zj x4, zj x5, zj x6, zj x7], [zp a0, zj x2, zj (zgi l_23 3), zj 3, zp f13_17])) rfl rfl rfl ?_
      show Zr sc 143 260 [zp a0, zj x1, zj x2, zj x3, zj x4, zj x5, zj x6, zj x7] [zp a0, zj x2, zj (zgi l_23 3), zj 3, zp f13_17] w ov w' c s
      refine rl_gf rfl hw_3 rfl rfl ?_
      show Zr sc 143 263 [zp a0, zj x1, zj x2, zj x3, zj x4, zj x5, zj x6, zj x7] [zp f8_12, zj x2, zj (zgi l_23 3), zj 3, zp f13_17] w ov w' c s
      refine Zr_st (q := (264, [zp a0, zj x1, zj x2, zj x3, zj x4, zj x5, zj x6, zj x7], [zj x1, zp f8_12, zj x2, zj (zgi l_23 3), zj 3, zp f13_17])) rfl rfl rfl ?_
      show Zr sc 143 264 [zp a0, zj x1, zj x2, zj x3, zj x4, zj x5, zj x6, zj x7] [zj x1, zp f8_12, zj x2, zj (zgi l_23 3), zj 3, zp f13_17] w ov w' c s
      obtain ⟨l_26, hw_25, h⟩ := h
      obtain ⟨hi_24, h⟩ := h
      refine rl_ia rfl hw_25 hi_24.1 hi_24.2.1 hi_24.2.2 ?_
      show Zr sc 143 265 [zp a0, zj x1, zj x2, zj x3, zj x4, zj x5, zj x6, zj x7] [zj (zgi l_26 x1), zj x2, zj (zgi l_23 3), zj 3, zp f13_17] w ov w' c s
      obtain ⟨hm_27, h⟩ := h
      refine Zr_mx (b := false) (ins := .invokestatic 114) (rest := [zj (zgi l_23 3), zj 3, zp f13_17]) rfl rfl rfl rfl (zinv_t2 (rest := [zj (zgi l_23 3), zj 3, zp f13_17]) rfl rfl rfl rfl rfl) rfl (zmx_j hm_27.1 hm_27.2) ?_
      show Zr sc 143 268 [zp a0, zj x1, zj x2, zj x3, zj x4, zj x5, zj x6, zj x7] [zj (min x2 (zgi l_26 x1)), zj (zgi l_23 3), zj 3, zp f13_17] w ov w' c s
      refine rl_add rfl ?_
      show Zr sc 143 269 [zp a0, zj x1, zj x2, zj x3, zj x4, zj x5, zj x6, zj x7] [zj ((zgi l_23 3) + (min x2 (zgi l_26 x1))), zj 3, zp f13_17] w ov w' c s
      obtain ⟨hi_28, h⟩ := h
      refine rl_is rfl hw_22 hi_28.1 hi_28.2.1 hi_28.2.2 ?_
      show Zr sc 143 270 [zp a0, zj x1, zj x2, zj x3, zj x4, zj x5, zj x6, zj x7] [] (w.set f13_17 (za (zsi l_23 3 ((zgi l_23 3) + (min x2 (zgi l_26 x1)))))) ov w' c s
      refine Zr_st (q := (271, [zp a0, zj x1, zj x2, zj x3, zj x4, zj x5, zj x6, zj x7], [zp a0])) rfl rfl rfl ?_
      show Zr sc 143 271 [zp a0, zj x1, zj x2, zj x3, zj x4, zj x5, zj x6, zj x7] [zp a0] (w.set f13_17 (za (zsi l_23 3 ((zgi l_23 3) + (min x2 (zgi l_26 x1)))))) ov w' c s
      obtain ⟨hn_29, h⟩ := h
      refine rl_gf rfl (zw_o hn_29 hw_3) rfl rfl ?_
      show Zr sc 143 274 [zp a0, zj x1, zj x2, zj x3, zj x4, zj x5, zj x6, zj x7] [zp f9_13] (w.set f13_17 (za (zsi l_23 3 ((zgi l_23 3) + (min x2 (zgi l_26 x1)))))) ov w' c s
      refine rl_bi rfl (by decide) ?_
      show Zr sc 143 276 [zp a0, zj x1, zj x2, zj x3, zj x4, zj x5, zj x6, zj x7] [zj 80, zp f9_13] (w.set f13_17 (za (zsi l_23 3 ((zgi l_23 3) + (min x2 (zgi l_26 x1)))))) ov w' c s
      refine Zr_st (q := (278, [zp a0, zj x1, zj x2, zj x3, zj x4, zj x5, zj x6, zj x7], [zj x4, zj 80, zp f9_13])) rfl rfl rfl ?_
      show Zr sc 143 278 [zp a0, zj x1, zj x2, zj x3, zj x4, zj x5, zj x6, zj x7] [zj x4, zj 80, zp f9_13] (w.set f13_17 (za (zsi l_23 3 ((zgi l_23 3) + (min x2 (zgi l_26 x1)))))) ov w' c s
      obtain ⟨hn_31, h⟩ := h
      obtain ⟨l_33, hw_32, h⟩ := h
      obtain ⟨hi_30, h⟩ := h
      refine rl_is rfl (zw_o hn_31 hw_32) hi_30.1 hi_30.2.1 hi_30.2.2 ?_
      show Zr sc 143 279 [zp a0, zj x1, zj x2, zj x3, zj x4, zj x5, zj x6, zj x7] [] ((w.set f13_17 (za (zsi l_23 3 ((zgi l_23 3) + (min x2 (zgi l_26 x1)))))).set f9_13 (za (zsi l_33 80 x4))) ov w' c s
      refine Zr_st (q := (280, [zp a0, zj x1, zj x2, zj x3, zj x4, zj x5, zj x6, zj x7], [zp a0])) rfl rfl rfl ?_
      show Zr sc 143 280 [zp a0, zj x1, zj x2, zj x3, zj x4, zj x5, zj x6, zj x7] [zp a0] ((w.set f13_17 (za (zsi l_23 3 ((zgi l_23 3) + (min x2 (zgi l_26 x1)))))).set f9_13 (za (zsi l_33 80 x4))) ov w' c s
      refine Zr_st (q := (282, [zp a0, zj x1, zj x2, zj x3, zj x4, zj x5, zj x6, zj x7], [zj x7, zp a0])) rfl rfl rfl ?_
      show Zr sc 143 282 [zp a0, zj x1, zj x2, zj x3, zj x4, zj x5, zj x6, zj x7] [zj x7, zp a0] ((w.set f13_17 (za (zsi l_23 3 ((zgi l_23 3) + (min x2 (zgi l_26 x1)))))).set f9_13 (za (zsi l_33 80 x4))) ov w' c s
      refine Zr_st (q := (284, [zp a0, zj x1, zj x2, zj x3, zj x4, zj x5, zj x6, zj x7], [zj x4, zj x7, zp a0])) rfl rfl rfl ?_
      show Zr sc 143 284 [zp a0, zj x1, zj x2, zj x3, zj x4, zj x5, zj x6, zj x7] [zj x4, zj x7, zp a0] ((w.set f13_17 (za (zsi l_23 3 ((zgi l_23 3) + (min x2 (zgi l_26 x1)))))).set f9_13 (za (zsi l_33 80 x4))) ov w' c s
      refine rl_bi rfl (by decide) ?_
      show Zr sc 143 286 [zp a0, zj x1, zj x2, zj x3, zj x4, zj x5, zj x6, zj x7] [zj 80, zj x4, zj x7, zp a0] ((w.set f13_17 (za (zsi l_23 3 ((zgi l_23 3) + (min x2 (zgi l_26 x1)))))).set f9_13 (za (zsi l_33 80 x4))) ov w' c s
      obtain ⟨hn_34, h⟩ := h
      obtain ⟨w_35, hk_36, h⟩ := h
      refine rn_cal0 (ins := .invokevirtual 110) (rest := []) rfl rfl rfl rfl (zinv_v (fs := _) (zw_o hn_34 (zw_o hn_29 hw_3)) rfl rfl rfl rfl) rfl rfl hk_36 ?_
      show Zr sc 143 289 [zp a0, zj x1, zj x2, zj x3, zj x4, zj x5, zj x6, zj x7] [] w_35 ov w' c s
      refine Zr_st (q := (290, [zp a0, zj x1, zj x2, zj x3, zj x4, zj x5, zj x6, zj x7], [zp a0])) rfl rfl rfl ?_
      show Zr sc 143 290 [zp a0, zj x1, zj x2, zj x3, zj x4, zj x5, zj x6, zj x7] [zp a0] w_35 ov w' c s
      refine Zr_st (q := (291, [zp a0, zj x1, zj x2, zj x3, zj x4, zj x5, zj x6, zj x7], [zj x3, zp a0])) rfl rfl rfl ?_
      show Zr sc 143 291 [zp a0, zj x1, zj x2, zj x3, zj x4, zj x5, zj x6, zj x7] [zj x3, zp a0] w_35 ov w' c s
      refine Zr_st (q := (293, [zp a0, zj x1, zj x2, zj x3, zj x4, zj x5, zj x6, zj x7], [zj x5, zj x3, zp a0])) rfl rfl rfl ?_
      show Zr sc 143 293 [zp a0, zj x1, zj x2, zj x3, zj x4, zj x5, zj x6, zj x7] [zj x5, zj x3, zp a0] w_35 ov w' c s
      obtain ⟨f0_38, f2_40, f3_41, f4_42, f5_43, f6_44, f7_45, f8_46, f9_47, f10_48, f11_49, f12_50, f13_51, f14_52, f15_53, f16_54, hw_37, h⟩ := h
      obtain ⟨w_55, hk_56, h⟩ := h
      refine rn_cal0 (ins := .invokevirtual 150) (rest := []) rfl rfl rfl rfl (zinv_v (fs := _) hw_37 rfl rfl rfl rfl) rfl rfl hk_56 ?_
      show Zr sc 143 296 [zp a0, zj x1, zj x2, zj x3, zj x4, zj x5, zj x6, zj x7] [] w_55 ov w' c s
      refine Zr_st (q := (297, [zp a0, zj x1, zj x2, zj x3, zj x4, zj x5, zj x6, zj x7], [zp a0])) rfl rfl rfl ?_
      show Zr sc 143 297 [zp a0, zj x1, zj x2, zj x3, zj x4, zj x5, zj x6, zj x7] [zp a0] w_55 ov w' c s
      refine Zr_st (q := (299, [zp a0, zj x1, zj x2, zj x3, zj x4, zj x5, zj x6, zj x7], [zj x7, zp a0])) rfl rfl rfl ?_
      show Zr sc 143 299 [zp a0, zj x1, zj x2, zj x3, zj x4, zj x5, zj x6, zj x7] [zj x7, zp a0] w_55 ov w' c s
      refine Zr_st (q := (301, [zp a0, zj x1, zj x2, zj x3, zj x4, zj x5, zj x6, zj x7], [zj x4, zj x7, zp a0])) rfl rfl rfl ?_
      show Zr sc 143 301 [zp a0, zj x1, zj x2, zj x3, zj x4, zj x5, zj x6, zj x7] [zj x4, zj x7, zp a0] w_55 ov w' c s
      refine Zr_st (q := (302, [zp a0, zj x1, zj x2, zj x3, zj x4, zj x5, zj x6, zj x7], [zj x1, zj x4, zj x7, zp a0])) rfl rfl rfl ?_
      show Zr sc 143 302 [zp a0, zj x1, zj x2, zj x3, zj x4, zj x5, zj x6, zj x7] [zj x1, zj x4, zj x7, zp a0] w_55 ov w' c s
      obtain ⟨f0_58, f2_60, f3_61, f4_62, f5_63, f6_64, f7_65, f8_66, f9_67, f10_68, f11_69, f12_70, f13_71, f14_72, f15_73, f16_74, hw_57, h⟩ := h
      obtain ⟨w_75, hk_76, h⟩ := h
      refine rn_cal0 (ins := .invokevirtual 110) (rest := []) rfl rfl rfl rfl (zinv_v (fs := _) hw_57 rfl rfl rfl rfl) rfl rfl hk_76 ?_
      show Zr sc 143 305 [zp a0, zj x1, zj x2, zj x3, zj x4, zj x5, zj x6, zj x7] [] w_75 ov w' c s
      exact h
set_option maxRecDepth 100000 in
theorem V143_305 {sc : List Value} {w w' : List zE} {ov : Option Value} {c s : Nat} {a0 : Nat} {x1 : Int} {x2 : Int} {x3 : Int} {x4 : Int} {x5 : Int} {x6 : Int} {x7 : Int} (h : ((zrg x7) ∧ ((x7 < 0 → Zr sc 143 325 [zp a0, zj x1, zj x2, zj x3, zj x4, zj x5, zj x6, zj x7] [] w ov w' c s) ∧ (¬ (x7 < 0) → (∃ f0_3 : Nat, ∃ f2_5 : Int, ∃ f3_6 : Int, ∃ f4_7 : Int, ∃ f5_8 : Int, ∃ f6_9 : Nat, ∃ f7_10 : Int, ∃ f8_11 : Nat, ∃ f9_12 : Nat, ∃ f10_13 : Nat, ∃ f11_14 : Int, ∃ f12_15 : Int, ∃ f13_16 : Nat, ∃ f14_17 : Int, ∃ f15_18 : Nat, ∃ f16_19 : Int, w[a0]? = some (zob 7 [zp f0_3, .ref 0, zj f2_5, zj f3_6, zj f4_7, zj f5_8, zp f6_9, zj f7_10, zp f8_11, zp f9_12, zp f10_13, zj f11_14, zj f12_15, zp f13_16, zj f14_17, zp f15_18, zj f16_19]) ∧ (∃ l_22 : List Int, w[f8_11]? = some (za l_22) ∧ (((0 : Int) ≤ x1 ∧ x1 < (l_22.length : Int) ∧ x1 ≤ (2147483647 : Int)) ∧ ((f8_11 ≠ a0) ∧ ((f8_11 ≠ f9_12) ∧ (∃ l_27 : List Int, w[f9_12]? = some (za l_27) ∧ (((0 : Int) ≤ x1 ∧ x1 < (l_27.length : Int) ∧ x1 ≤ (2147483647 : Int)) ∧ Zr sc 143 325 [zp a0, zj x1, zj x2, zj x3, zj x4, zj x5, zj x6, zj x7] [] ((w.set f8_11 (za (zsi l_22 x1 x2))).set f9_12 (za (zsi l_27 x1 x4))) ov w' c s))))))))))) : Zr sc 143 305 [zp a0, zj x1, zj x2, zj x3, zj x4, zj x5, zj x6, zj x7] [] w ov w' c s := by
  refine Zr_st (q := (307, [zp a0, zj x1, zj x2, zj x3, zj x4, zj x5, zj x6, zj x7], [zj x7])) rfl rfl rfl ?_
  show Zr sc 143 307 [zp a0, zj x1, zj x2, zj x3, zj x4, zj x5, zj x6, zj x7] [zj x7] w ov w' c s
  obtain ⟨hr_1, h⟩ := h
  refine Zr_b0 (p := x7 < 0) rfl rfl (zcmp_0 (cnd := .lt) hr_1) (fun hp => ?_) (fun hp => ?_)
  · replace h := h.1 hp
    show Zr sc 143 325 [zp a0, zj x1, zj x2, zj x3, zj x4, zj x5, zj x6, zj x7] [] w ov w' c s
    exact h
  · replace h := h.2 hp
    show Zr sc 143 310 [zp a0, zj x1, zj x2, zj x3, zj x4, zj x5, zj x6, zj x7] [] w ov w' c s
    refine Zr_st (q := (311, [zp a0, zj x1, zj x2, zj x3, zj x4, zj x5, zj x6, zj x7], [zp a0])) rfl rfl rfl ?_
    show Zr sc 143 311 [zp a0, zj x1, zj x2, zj x3, zj x4, zj x5, zj x6, zj x7] [zp a0] w ov w' c s
    obtain ⟨f0_3, f2_5, f3_6, f4_7, f5_8, f6_9, f7_10, f8_11, f9_12, f10_13, f11_14, f12_15, f13_16, f14_17, f15_18, f16_19, hw_2, h⟩ := h
    refine rl_gf rfl hw_2 rfl rfl ?_
    show Zr sc 143 314 [zp a0, zj x1, zj x2, zj x3, zj x4, zj x5, zj x6, zj x7] [zp f8_11] w ov w' c s
    refine Zr_st (q := (315, [zp a0, zj x1, zj x2, zj x3, zj x4, zj x5, zj x6, zj x7], [zj x1, zp f8_11])) rfl rfl rfl ?_
    show Zr sc 143 315 [zp a0, zj x1, zj x2, zj x3, zj x4, zj x5, zj x6, zj x7] [zj x1, zp f8_11] w ov w' c s
    refine Zr_st (q := (316, [zp a0, zj x1, zj x2, zj x3, zj x4, zj x5, zj x6, zj x7], [zj x2, zj x1, zp f8_11])) rfl rfl rfl ?_
    show Zr sc 143 316 [zp a0, zj x1, zj x2, zj x3, zj x4, zj x5, zj x6, zj x7] [zj x2, zj x1, zp f8_11] w ov w' c s
    obtain ⟨l_22, hw_21, h⟩ := h
    obtain ⟨hi_20, h⟩ := h
    refine rl_is rfl hw_21 hi_20.1 hi_20.2.1 hi_20.2.2 ?_
    show Zr sc 143 317 [zp a0, zj x1, zj x2, zj x3, zj x4, zj x5, zj x6, zj x7] [] (w.set f8_11 (za (zsi l_22 x1 x2))) ov w' c s
    refine Zr_st (q := (318, [zp a0, zj x1, zj x2, zj x3, zj x4, zj x5, zj x6, zj x7], [zp a0])) rfl rfl rfl ?_
    show Zr sc 143 318 [zp a0, zj x1, zj x2, zj x3, zj x4, zj x5, zj x6, zj x7] [zp a0] (w.set f8_11 (za (zsi l_22 x1 x2))) ov w' c s
    obtain ⟨hn_23, h⟩ := h
    refine rl_gf rfl (zw_o hn_23 hw_2) rfl rfl ?_
    show Zr sc 143 321 [zp a0, zj x1, zj x2, zj x3, zj x4, zj x5, zj x6, zj x7] [zp f9_12] (w.set f8_11 (za (zsi l_22 x1 x2))) ov w' c s
    refine Zr_st (q := (322, [zp a0, zj x1, zj x2, zj x3, zj x4, zj x5, zj x6, zj x7], [zj x1, zp f9_12])) rfl rfl rfl ?_
    show Zr sc 143 322 [zp a0, zj x1, zj x2, zj x3, zj x4, zj x5, zj x6, zj x7] [zj x1, zp f9_12] (w.set f8_11 (za (zsi l_22 x1 x2))) ov w' c s
    refine Zr_st (q := (324, [zp a0, zj x1, zj x2, zj x3, zj x4, zj x5, zj x6, zj x7], [zj x4, zj x1, zp f9_12])) rfl rfl rfl ?_
    show Zr sc 143 324 [zp a0, zj x1, zj x2, zj x3, zj x4, zj x5, zj x6, zj x7] [zj x4, zj x1, zp f9_12] (w.set f8_11 (za (zsi l_22 x1 x2))) ov w' c s
    obtain ⟨hn_25, h⟩ := h
    obtain ⟨l_27, hw_26, h⟩ := h
    obtain ⟨hi_24, h⟩ := h
    refine rl_is rfl (zw_o hn_25 hw_26) hi_24.1 hi_24.2.1 hi_24.2.2 ?_
    show Zr sc 143 325 [zp a0, zj x1, zj x2, zj x3, zj x4, zj x5, zj x6, zj x7] [] ((w.set f8_11 (za (zsi l_22 x1 x2))).set f9_12 (za (zsi l_27 x1 x4))) ov w' c s
    exact h
set_option maxRecDepth 100000 in
theorem V143_325 {sc : List Value} {w w' : List zE} {ov : Option Value} {c s : Nat} {a0 : Nat} {x1 : Int} {x2 : Int} {x3 : Int} {x4 : Int} {x5 : Int} {x6 : Int} {x7 : Int} (h : (∃ f0_2 : Nat, ∃ f2_4 : Int, ∃ f3_5 : Int, ∃ f4_6 : Int, ∃ f5_7 : Int, ∃ f6_8 : Nat, ∃ f7_9 : Int, ∃ f8_10 : Nat, ∃ f9_11 : Nat, ∃ f10_12 : Nat, ∃ f11_13 : Int, ∃ f12_14 : Int, ∃ f13_15 : Nat, ∃ f14_16 : Int, ∃ f15_17 : Nat, ∃ f16_18 : Int, w[a0]? = some (zob 7 [zp f0_2, .ref 0, zj f2_4, zj f3_5, zj f4_6, zj f5_7, zp f6_8, zj f7_9, zp f8_10, zp f9_11, zp f10_12, zj f11_13, zj f12_14, zp f13_15, zj f14_16, zp f15_17, zj f16_18]) ∧ (∃ w_19 : List zE, ∃ c_21 s_22 c_23 s_24 : Nat, Zc sc 132 [zp a0, zj 2, zj x1, zj x2] w none w_19 c_21 s_22 ∧ (c = c_21 + c_23 ∧ s = s_22 + s_24) ∧ (∃ f0_27 : Nat, ∃ f2_29 : Int, ∃ f3_30 : Int, ∃ f4_31 : Int, ∃ f5_32 : Int, ∃ f6_33 : Nat, ∃ f7_34 : Int, ∃ f8_35 : Nat, ∃ f9_36 : Nat, ∃ f10_37 : Nat, ∃ f11_38 : Int, ∃ f12_39 : Int, ∃ f13_40 : Nat, ∃ f14_41 : Int, ∃ f15_42 : Nat, ∃ f16_43 : Int, w_19[a0]? = some (zob 7 [zp f0_27, .ref 0, zj f2_29, zj f3_30, zj f4_31, zj f5_32, zp f6_33, zj f7_34, zp f8_35, zp f9_36, zp f10_37, zj f11_38, zj f12_39, zp f13_40, zj f14_41, zp f15_42, zj f16_43]) ∧ ((zrg f16_43) ∧ ((f16_43 = 0 → (ov = some (zj 1) ∧ w' = w_19 ∧ c_23 = 0 ∧ s_24 = 0)) ∧ (¬ (f16_43 = 0) → (∃ f0_46 : Nat, ∃ f1_47 : Nat, ∃ f2_48 : Nat, ∃ f3_49 : Nat, ∃ f4_50 : Nat, ∃ f5_51 : Nat, ∃ f6_52 : Nat, ∃ f7_53 : Int, w_19[f0_27]? = some (zob 6 [zp f0_46, zp f1_47, zp f2_48, zp f3_49, zp f4_50, zp f5_51, zp f6_52, zj f7_53]) ∧ (∃ r_56 : Int, ∃ w_54 : List zE, Zc sc 144 [zp f0_27, zj x1, zj x2] w_19 (some (zj r_56)) w_54 0 0 ∧ ((zrg x7) ∧ ((0 ≤ x7 → ((zrg r_56 ∧ zrg x7) ∧ ((r_56 ≠ x7 → (ov = some (zj 0) ∧ w' = w_54 ∧ c_23 = 0 ∧ s_24 = 0)) ∧ (¬ (r_56 ≠ x7) → (∃ f0_60 : Nat, ∃ f2_62 : Int, ∃ f3_63 : Int, ∃ f4_64 : Int, ∃ f5_65 : Int, ∃ f6_66 : Nat, ∃ f7_67 : Int, ∃ f8_68 : Nat, ∃ f9_69 : Nat, ∃ f10_70 : Nat, ∃ f11_71 : Int, ∃ f12_72 : Int, ∃ f13_73 : Nat, ∃ f14_74 : Int, ∃ f15_75 : Nat, ∃ f16_76 : Int, w_54[a0]? = some (zob 7 [zp f0_60, .ref 0, zj f2_62, zj f3_63, zj f4_64, zj f5_65, zp f6_66, zj f7_67, zp f8_68, zp f9_69, zp f10_70, zj f11_71, zj f12_72, zp f13_73, zj f14_74, zp f15_75, zj f16_76]) ∧ (∃ f0_78 : Nat, ∃ f1_79 : Nat, ∃ f2_80 : Nat, ∃ f3_81 : Nat, ∃ f4_82 : Nat, ∃ f5_83 : Nat, ∃ f6_84 : Nat, ∃ f7_85 : Int, w_54[f0_60]? = some (zob 6 [zp f0_78, zp f1_79, zp f2_80, zp f3_81, zp f4_82, zp f5_83, zp f6_84, zj f7_85]) ∧ (∃ r_88 : Int, ∃ w_86 : List zE, Zc sc 10 [zp f0_60, zj x1] w_54 (some (zj r_88)) w_86 0 0 ∧ (∃ f0_90 : Nat, ∃ f2_92 : Int, ∃ f3_93 : Int, ∃ f4_94 : Int, ∃ f5_95 : Int, ∃ f6_96 : Nat, ∃ f7_97 : Int, ∃ f8_98 : Nat, ∃ f9_99 : Nat, ∃ f10_100 : Nat, ∃ f11_101 : Int, ∃ f12_102 : Int, ∃ f13_103 : Nat, ∃ f14_104 : Int, ∃ f15_105 : Nat, ∃ f16_106 : Int, w_86[a0]? = some (zob 7 [zp f0_90, .ref 0, zj f2_92, zj f3_93, zj f4_94, zj f5_95, zp f6_96, zj f7_97, zp f8_98, zp f9_99, zp f10_100, zj f11_101, zj f12_102, zp f13_103, zj f14_104, zp f15_105, zj f16_106]) ∧ (∃ l_109 : List Int, w_86[f8_98]? = some (za l_109) ∧ (((0 : Int) ≤ x1 ∧ x1 < (l_109.length : Int) ∧ x1 ≤ (2147483647 : Int)) ∧ ((zrg r_88 ∧ zrg (zgi l_109 x1)) ∧ ((r_88 ≠ (zgi l_109 x1) → (ov = some (zj 0) ∧ w' = w_86 ∧ c_23 = 0 ∧ s_24 = 0)) ∧ (¬ (r_88 ≠ (zgi l_109 x1)) → (∃ f0_112 : Nat, ∃ f1_113 : Nat, ∃ f2_114 : Nat, ∃ f3_115 : Nat, ∃ f4_116 : Nat, ∃ f5_117 : Nat, ∃ f6_118 : Nat, ∃ f7_119 : Int, w_86[f0_90]? = some (zob 6 [zp f0_112, zp f1_113, zp f2_114, zp f3_115, zp f4_116, zp f5_117, zp f6_118, zj f7_119]) ∧ (∃ r_122 : Int, ∃ w_120 : List zE, Zc sc 12 [zp f0_90, zj x1] w_86 (some (zj r_122)) w_120 0 0 ∧ (∃ f0_124 : Nat, ∃ f2_126 : Int, ∃ f3_127 : Int, ∃ f4_128 : Int, ∃ f5_129 : Int, ∃ f6_130 : Nat, ∃ f7_131 : Int, ∃ f8_132 : Nat, ∃ f9_133 : Nat, ∃ f10_134 : Nat, ∃ f11_135 : Int, ∃ f12_136 : Int, ∃ f13_137 : Nat, ∃ f14_138 : Int, ∃ f15_139 : Nat, ∃ f16_140 : Int, w_120[a0]? = some (zob 7 [zp f0_124, .ref 0, zj f2_126, zj f3_127, zj f4_128, zj f5_129, zp f6_130, zj f7_131, zp f8_132, zp f9_133, zp f10_134, zj f11_135, zj f12_136, zp f13_137, zj f14_138, zp f15_139, zj f16_140]) ∧ (∃ l_143 : List Int, w_120[f9_133]? = some (za l_143) ∧ (((0 : Int) ≤ x1 ∧ x1 < (l_143.length : Int) ∧ x1 ≤ (2147483647 : Int)) ∧ ((zrg r_122 ∧ zrg (zgi l_143 x1)) ∧ ((r_122 ≠ (zgi l_143 x1) → (ov = some (zj 0) ∧ w' = w_120 ∧ c_23 = 0 ∧ s_24 = 0)) ∧ (¬ (r_122 ≠ (zgi l_143 x1)) → (ov = some (zj 1) ∧ w' = w_120 ∧ c_23 = 0 ∧ s_24 = 0)))))))))))))))))))))) ∧ (¬ (0 ≤ x7) → ((zrg r_56 ∧ zrg x3) ∧ ((r_56 ≠ x3 → (ov = some (zj 0) ∧ w' = w_54 ∧ c_23 = 0 ∧ s_24 = 0)) ∧ (¬ (r_56 ≠ x3) → (∃ f0_147 : Nat, ∃ f2_149 : Int, ∃ f3_150 : Int, ∃ f4_151 : Int, ∃ f5_152 : Int, ∃ f6_153 : Nat, ∃ f7_154 : Int, ∃ f8_155 : Nat, ∃ f9_156 : Nat, ∃ f10_157 : Nat, ∃ f11_158 : Int, ∃ f12_159 : Int, ∃ f13_160 : Nat, ∃ f14_161 : Int, ∃ f15_162 : Nat, ∃ f16_163 : Int, w_54[a0]? = some (zob 7 [zp f0_147, .ref 0, zj f2_149, zj f3_150, zj f4_151, zj f5_152, zp f6_153, zj f7_154, zp f8_155, zp f9_156, zp f10_157, zj f11_158, zj f12_159, zp f13_160, zj f14_161, zp f15_162, zj f16_163]) ∧ (∃ f0_165 : Nat, ∃ f1_166 : Nat, ∃ f2_167 : Nat, ∃ f3_168 : Nat, ∃ f4_169 : Nat, ∃ f5_170 : Nat, ∃ f6_171 : Nat, ∃ f7_172 : Int, w_54[f0_147]? = some (zob 6 [zp f0_165, zp f1_166, zp f2_167, zp f3_168, zp f4_169, zp f5_170, zp f6_171, zj f7_172]) ∧ (∃ r_175 : Int, ∃ w_173 : List zE, Zc sc 10 [zp f0_147, zj x1] w_54 (some (zj r_175)) w_173 0 0 ∧ (∃ f0_177 : Nat, ∃ f2_179 : Int, ∃ f3_180 : Int, ∃ f4_181 : Int, ∃ f5_182 : Int, ∃ f6_183 : Nat, ∃ f7_184 : Int, ∃ f8_185 : Nat, ∃ f9_186 : Nat, ∃ f10_187 : Nat, ∃ f11_188 : Int, ∃ f12_189 : Int, ∃ f13_190 : Nat, ∃ f14_191 : Int, ∃ f15_192 : Nat, ∃ f16_193 : Int, w_173[a0]? = some (zob 7 [zp f0_177, .ref 0, zj f2_179, zj f3_180, zj f4_181, zj f5_182, zp f6_183, zj f7_184, zp f8_185, zp f9_186, zp f10_187, zj f11_188, zj f12_189, zp f13_190, zj f14_191, zp f15_192, zj f16_193]) ∧ (∃ l_196 : List Int, w_173[f8_185]? = some (za l_196) ∧ (((0 : Int) ≤ x1 ∧ x1 < (l_196.length : Int) ∧ x1 ≤ (2147483647 : Int)) ∧ ((zrg r_175 ∧ zrg (zgi l_196 x1)) ∧ ((r_175 ≠ (zgi l_196 x1) → (ov = some (zj 0) ∧ w' = w_173 ∧ c_23 = 0 ∧ s_24 = 0)) ∧ (¬ (r_175 ≠ (zgi l_196 x1)) → (∃ f0_199 : Nat, ∃ f1_200 : Nat, ∃ f2_201 : Nat, ∃ f3_202 : Nat, ∃ f4_203 : Nat, ∃ f5_204 : Nat, ∃ f6_205 : Nat, ∃ f7_206 : Int, w_173[f0_177]? = some (zob 6 [zp f0_199, zp f1_200, zp f2_201, zp f3_202, zp f4_203, zp f5_204, zp f6_205, zj f7_206]) ∧ (∃ r_209 : Int, ∃ w_207 : List zE, Zc sc 12 [zp f0_177, zj x1] w_173 (some (zj r_209)) w_207 0 0 ∧ (∃ f0_211 : Nat, ∃ f2_213 : Int, ∃ f3_214 : Int, ∃ f4_215 : Int, ∃ f5_216 : Int, ∃ f6_217 : Nat, ∃ f7_218 : Int, ∃ f8_219 : Nat, ∃ f9_220 : Nat, ∃ f10_221 : Nat, ∃ f11_222 : Int, ∃ f12_223 : Int, ∃ f13_224 : Nat, ∃ f14_225 : Int, ∃ f15_226 : Nat, ∃ f16_227 : Int, w_207[a0]? = some (zob 7 [zp f0_211, .ref 0, zj f2_213, zj f3_214, zj f4_215, zj f5_216, zp f6_217, zj f7_218, zp f8_219, zp f9_220, zp f10_221, zj f11_222, zj f12_223, zp f13_224, zj f14_225, zp f15_226, zj f16_227]) ∧ (∃ l_230 : List Int, w_207[f9_220]? = some (za l_230) ∧ (((0 : Int) ≤ x1 ∧ x1 < (l_230.length : Int) ∧ x1 ≤ (2147483647 : Int)) ∧ ((zrg r_209 ∧ zrg (zgi l_230 x1)) ∧ ((r_209 ≠ (zgi l_230 x1) → (ov = some (zj 0) ∧ w' = w_207 ∧ c_23 = 0 ∧ s_24 = 0)) ∧ (¬ (r_209 ≠ (zgi l_230 x1)) → (ov = some (zj 1) ∧ w' = w_207 ∧ c_23 = 0 ∧ s_24 = 0))))))))))))))))))))))))))))))))) : Zr sc 143 325 [zp a0, zj x1, zj x2, zj x3, zj x4, zj x5, zj x6, zj x7] [] w ov w' c s := by
  refine Zr_st (q := (326, [zp a0, zj x1, zj x2, zj x3, zj x4, zj x5, zj x6, zj x7], [zp a0])) rfl rfl rfl ?_
  show Zr sc 143 326 [zp a0, zj x1, zj x2, zj x3, zj x4, zj x5, zj x6, zj x7] [zp a0] w ov w' c s
  refine rl_ic rfl ?_
  show Zr sc 143 327 [zp a0, zj x1, zj x2, zj x3, zj x4, zj x5, zj x6, zj x7] [zj 2, zp a0] w ov w' c s
  refine Zr_st (q := (328, [zp a0, zj x1, zj x2, zj x3, zj x4, zj x5, zj x6, zj x7], [zj x1, zj 2, zp a0])) rfl rfl rfl ?_
  show Zr sc 143 328 [zp a0, zj x1, zj x2, zj x3, zj x4, zj x5, zj x6, zj x7] [zj x1, zj 2, zp a0] w ov w' c s
  refine Zr_st (q := (329, [zp a0, zj x1, zj x2, zj x3, zj x4, zj x5, zj x6, zj x7], [zj x2, zj x1, zj 2, zp a0])) rfl rfl rfl ?_
  show Zr sc 143 329 [zp a0, zj x1, zj x2, zj x3, zj x4, zj x5, zj x6, zj x7] [zj x2, zj x1, zj 2, zp a0] w ov w' c s
  obtain ⟨f0_2, f2_4, f3_5, f4_6, f5_7, f6_8, f7_9, f8_10, f9_11, f10_12, f11_13, f12_14, f13_15, f14_16, f15_17, f16_18, hw_1, h⟩ := h
  obtain ⟨w_19, c_21, s_22, c_23, s_24, hk_20, hc_25, h⟩ := h
  refine rl_cal (ins := .invokevirtual 136) (rest := []) rfl rfl rfl rfl (zinv_v (fs := _) hw_1 rfl rfl rfl rfl) rfl rfl hk_20 ?_ hc_25.1 hc_25.2
  show Zr sc 143 332 [zp a0, zj x1, zj x2, zj x3, zj x4, zj x5, zj x6, zj x7] [] w_19 ov w' c_23 s_24
  refine Zr_st (q := (333, [zp a0, zj x1, zj x2, zj x3, zj x4, zj x5, zj x6, zj x7], [zp a0])) rfl rfl rfl ?_
  show Zr sc 143 333 [zp a0, zj x1, zj x2, zj x3, zj x4, zj x5, zj x6, zj x7] [zp a0] w_19 ov w' c_23 s_24
  obtain ⟨f0_27, f2_29, f3_30, f4_31, f5_32, f6_33, f7_34, f8_35, f9_36, f10_37, f11_38, f12_39, f13_40, f14_41, f15_42, f16_43, hw_26, h⟩ := h
  refine rl_gf rfl hw_26 rfl rfl ?_
  show Zr sc 143 336 [zp a0, zj x1, zj x2, zj x3, zj x4, zj x5, zj x6, zj x7] [zj f16_43] w_19 ov w' c_23 s_24
  obtain ⟨hr_44, h⟩ := h
  refine Zr_b0 (p := f16_43 = 0) rfl rfl (zcmp_0 (cnd := .eq) hr_44) (fun hp => ?_) (fun hp => ?_)
  · replace h := h.1 hp
    show Zr sc 143 396 [zp a0, zj x1, zj x2, zj x3, zj x4, zj x5, zj x6, zj x7] [] w_19 ov w' c_23 s_24
    refine rl_ic rfl ?_
    show Zr sc 143 397 [zp a0, zj x1, zj x2, zj x3, zj x4, zj x5, zj x6, zj x7] [zj 1] w_19 ov w' c_23 s_24
    refine Zr_st (q := (401, [zp a0, zj x1, zj x2, zj x3, zj x4, zj x5, zj x6, zj x7], [zj 1])) rfl rfl rfl ?_
    show Zr sc 143 401 [zp a0, zj x1, zj x2, zj x3, zj x4, zj x5, zj x6, zj x7] [zj 1] w_19 ov w' c_23 s_24
    obtain ⟨h1, h2, h3, h4⟩ := h
    subst h1; subst h2; subst h3; subst h4
    exact Zr_ret (ins := .ireturn) rfl rfl
  · replace h := h.2 hp
    show Zr sc 143 339 [zp a0, zj x1, zj x2, zj x3, zj x4, zj x5, zj x6, zj x7] [] w_19 ov w' c_23 s_24
    refine Zr_st (q := (340, [zp a0, zj x1, zj x2, zj x3, zj x4, zj x5, zj x6, zj x7], [zp a0])) rfl rfl rfl ?_
    show Zr sc 143 340 [zp a0, zj x1, zj x2, zj x3, zj x4, zj x5, zj x6, zj x7] [zp a0] w_19 ov w' c_23 s_24
    refine rl_gf rfl hw_26 rfl rfl ?_
    show Zr sc 143 343 [zp a0, zj x1, zj x2, zj x3, zj x4, zj x5, zj x6, zj x7] [zp f0_27] w_19 ov w' c_23 s_24
    refine Zr_st (q := (344, [zp a0, zj x1, zj x2, zj x3, zj x4, zj x5, zj x6, zj x7], [zj x1, zp f0_27])) rfl rfl rfl ?_
    show Zr sc 143 344 [zp a0, zj x1, zj x2, zj x3, zj x4, zj x5, zj x6, zj x7] [zj x1, zp f0_27] w_19 ov w' c_23 s_24
    refine Zr_st (q := (345, [zp a0, zj x1, zj x2, zj x3, zj x4, zj x5, zj x6, zj x7], [zj x2, zj x1, zp f0_27])) rfl rfl rfl ?_
    show Zr sc 143 345 [zp a0, zj x1, zj x2, zj x3, zj x4, zj x5, zj x6, zj x7] [zj x2, zj x1, zp f0_27] w_19 ov w' c_23 s_24
    obtain ⟨f0_46, f1_47, f2_48, f3_49, f4_50, f5_51, f6_52, f7_53, hw_45, h⟩ := h
    obtain ⟨r_56, w_54, hk_55, h⟩ := h
    refine rn_cal0 (ins := .invokevirtual 157) (rest := []) rfl rfl rfl rfl (zinv_v (fs := _) hw_45 rfl rfl rfl rfl) rfl rfl hk_55 ?_
    show Zr sc 143 348 [zp a0, zj x1, zj x2, zj x3, zj x4, zj x5, zj x6, zj x7] [zj r_56] w_54 ov w' c_23 s_24
    refine Zr_st (q := (350, [zp a0, zj x1, zj x2, zj x3, zj x4, zj x5, zj x6, zj x7], [zj x7, zj r_56])) rfl rfl rfl ?_
    show Zr sc 143 350 [zp a0, zj x1, zj x2, zj x3, zj x4, zj x5, zj x6, zj x7] [zj x7, zj r_56] w_54 ov w' c_23 s_24
    obtain ⟨hr_57, h⟩ := h
    refine Zr_b0 (p := 0 ≤ x7) rfl rfl (zcmp_0 (cnd := .ge) hr_57) (fun hp => ?_) (fun hp => ?_)
    · replace h := h.1 hp
      show Zr sc 143 357 [zp a0, zj x1, zj x2, zj x3, zj x4, zj x5, zj x6, zj x7] [zj r_56] w_54 ov w' c_23 s_24
      refine Zr_st (q := (359, [zp a0, zj x1, zj x2, zj x3, zj x4, zj x5, zj x6, zj x7], [zj x7, zj r_56])) rfl rfl rfl ?_
      show Zr sc 143 359 [zp a0, zj x1, zj x2, zj x3, zj x4, zj x5, zj x6, zj x7] [zj x7, zj r_56] w_54 ov w' c_23 s_24
      obtain ⟨hr_58, h⟩ := h
      refine Zr_br (p := r_56 ≠ x7) rfl rfl (zcmp_j (cnd := .ne) hr_58.1 hr_58.2) (fun hp => ?_) (fun hp => ?_)
      · replace h := h.1 hp
        show Zr sc 143 400 [zp a0, zj x1, zj x2, zj x3, zj x4, zj x5, zj x6, zj x7] [] w_54 ov w' c_23 s_24
        refine rl_ic rfl ?_
        show Zr sc 143 401 [zp a0, zj x1, zj x2, zj x3, zj x4, zj x5, zj x6, zj x7] [zj 0] w_54 ov w' c_23 s_24
        obtain ⟨h1, h2, h3, h4⟩ := h
        subst h1; subst h2; subst h3; subst h4
        exact Zr_ret (ins := .ireturn) rfl rfl
      · replace h := h.2 hp
        show Zr sc 143 362 [zp a0, zj x1, zj x2, zj x3, zj x4, zj x5, zj x6, zj x7] [] w_54 ov w' c_23 s_24
        refine Zr_st (q := (363, [zp a0, zj x1, zj x2, zj x3, zj x4, zj x5, zj x6, zj x7], [zp a0])) rfl rfl rfl ?_
        show Zr sc 143 363 [zp a0, zj x1, zj x2, zj x3, zj x4, zj x5, zj x6, zj x7] [zp a0] w_54 ov w' c_23 s_24
        obtain ⟨f0_60, f2_62, f3_63, f4_64, f5_65, f6_66, f7_67, f8_68, f9_69, f10_70, f11_71, f12_72, f13_73, f14_74, f15_75, f16_76, hw_59, h⟩ := h
        refine rl_gf rfl hw_59 rfl rfl ?_
        show Zr sc 143 366 [zp a0, zj x1, zj x2, zj x3, zj x4, zj x5, zj x6, zj x7] [zp f0_60] w_54 ov w' c_23 s_24
        refine Zr_st (q := (367, [zp a0, zj x1, zj x2, zj x3, zj x4, zj x5, zj x6, zj x7], [zj x1, zp f0_60])) rfl rfl rfl ?_
        show Zr sc 143 367 [zp a0, zj x1, zj x2, zj x3, zj x4, zj x5, zj x6, zj x7] [zj x1, zp f0_60] w_54 ov w' c_23 s_24
        obtain ⟨f0_78, f1_79, f2_80, f3_81, f4_82, f5_83, f6_84, f7_85, hw_77, h⟩ := h
        obtain ⟨r_88, w_86, hk_87, h⟩ := h
        refine rn_cal0 (ins := .invokevirtual 160) (rest := []) rfl rfl rfl rfl (zinv_v (fs := _) hw_77 rfl rfl rfl rfl) rfl rfl hk_87 ?_
        show Zr sc 143 370 [zp a0, zj x1, zj x2, zj x3, zj x4, zj x5, zj x6, zj x7] [zj r_88] w_86 ov w' c_23 s_24
        refine Zr_st (q := (371, [zp a0, zj x1, zj x2, zj x3, zj x4, zj x5, zj x6, zj x7], [zp a0, zj r_88])) rfl rfl rfl ?_
        show Zr sc 143 371 [zp a0, zj x1, zj x2, zj x3, zj x4, zj x5, zj x6, zj x7] [zp a0, zj r_88] w_86 ov w' c_23 s_24
        obtain ⟨f0_90, f2_92, f3_93, f4_94, f5_95, f6_96, f7_97, f8_98, f9_99, f10_100, f11_101, f12_102, f13_103, f14_104, f15_105, f16_106, hw_89, h⟩ := h
        refine rl_gf rfl hw_89 rfl rfl ?_
        show Zr sc 143 374 [zp a0, zj x1, zj x2, zj x3, zj x4, zj x5, zj x6, zj x7] [zp f8_98, zj r_88] w_86 ov w' c_23 s_24
        refine Zr_st (q := (375, [zp a0, zj x1, zj x2, zj x3, zj x4, zj x5, zj x6, zj x7], [zj x1, zp f8_98, zj r_88])) rfl rfl rfl ?_
        show Zr sc 143 375 [zp a0, zj x1, zj x2, zj x3, zj x4, zj x5, zj x6, zj x7] [zj x1, zp f8_98, zj r_88] w_86 ov w' c_23 s_24
        obtain ⟨l_109, hw_108, h⟩ := h
        obtain ⟨hi_107, h⟩ := h
        refine rl_ia rfl hw_108 hi_107.1 hi_107.2.1 hi_107.2.2 ?_
        show Zr sc 143 376 [zp a0, zj x1, zj x2, zj x3, zj x4, zj x5, zj x6, zj x7] [zj (zgi l_109 x1), zj r_88] w_86 ov w' c_23 s_24
        obtain ⟨hr_110, h⟩ := h
        refine Zr_br (p := r_88 ≠ (zgi l_109 x1)) rfl rfl (zcmp_j (cnd := .ne) hr_110.1 hr_110.2) (fun hp => ?_) (fun hp => ?_)
        · replace h := h.1 hp
          show Zr sc 143 400 [zp a0, zj x1, zj x2, zj x3, zj x4, zj x5, zj x6, zj x7] [] w_86 ov w' c_23 s_24
          refine rl_ic rfl ?_
          show Zr sc 143 401 [zp a0, zj x1, zj x2, zj x3, zj x4, zj x5, zj x6, zj x7] [zj 0] w_86 ov w' c_23 s_24
          obtain ⟨h1, h2, h3, h4⟩ := h
          subst h1; subst h2; subst h3; subst h4
          exact Zr_ret (ins := .ireturn) rfl rfl
        · replace h := h.2 hp
          show Zr sc 143 379 [zp a0, zj x1, zj x2, zj x3, zj x4, zj x5, zj x6, zj x7] [] w_86 ov w' c_23 s_24
          refine Zr_st (q := (380, [zp a0, zj x1, zj x2, zj x3, zj x4, zj x5, zj x6, zj x7], [zp a0])) rfl rfl rfl ?_
          show Zr sc 143 380 [zp a0, zj x1, zj x2, zj x3, zj x4, zj x5, zj x6, zj x7] [zp a0] w_86 ov w' c_23 s_24
          refine rl_gf rfl hw_89 rfl rfl ?_
          show Zr sc 143 383 [zp a0, zj x1, zj x2, zj x3, zj x4, zj x5, zj x6, zj x7] [zp f0_90] w_86 ov w' c_23 s_24
          refine Zr_st (q := (384, [zp a0, zj x1, zj x2, zj x3, zj x4, zj x5, zj x6, zj x7], [zj x1, zp f0_90])) rfl rfl rfl ?_
          show Zr sc 143 384 [zp a0, zj x1, zj x2, zj x3, zj x4, zj x5, zj x6, zj x7] [zj x1, zp f0_90] w_86 ov w' c_23 s_24
          obtain ⟨f0_112, f1_113, f2_114, f3_115, f4_116, f5_117, f6_118, f7_119, hw_111, h⟩ := h
          obtain ⟨r_122, w_120, hk_121, h⟩ := h
          refine rn_cal0 (ins := .invokevirtual 162) (rest := []) rfl rfl rfl rfl (zinv_v (fs := _) hw_111 rfl rfl rfl rfl) rfl rfl hk_121 ?_
          show Zr sc 143 387 [zp a0, zj x1, zj x2, zj x3, zj x4, zj x5, zj x6, zj x7] [zj r_122] w_120 ov w' c_23 s_24
          refine Zr_st (q := (388, [zp a0, zj x1, zj x2, zj x3, zj x4, zj x5, zj x6, zj x7], [zp a0, zj r_122])) rfl rfl rfl ?_
          show Zr sc 143 388 [zp a0, zj x1, zj x2, zj x3, zj x4, zj x5, zj x6, zj x7] [zp a0, zj r_122] w_120 ov w' c_23 s_24
          obtain ⟨f0_124, f2_126, f3_127, f4_128, f5_129, f6_130, f7_131, f8_132, f9_133, f10_134, f11_135, f12_136, f13_137, f14_138, f15_139, f16_140, hw_123, h⟩ := h
          refine rl_gf rfl hw_123 rfl rfl ?_
          show Zr sc 143 391 [zp a0, zj x1, zj x2, zj x3, zj x4, zj x5, zj x6, zj x7] [zp f9_133, zj r_122] w_120 ov w' c_23 s_24
          refine Zr_st (q := (392, [zp a0, zj x1, zj x2, zj x3, zj x4, zj x5, zj x6, zj x7], [zj x1, zp f9_133, zj r_122])) rfl rfl rfl ?_
          show Zr sc 143 392 [zp a0, zj x1, zj x2, zj x3, zj x4, zj x5, zj x6, zj x7] [zj x1, zp f9_133, zj r_122] w_120 ov w' c_23 s_24
          obtain ⟨l_143, hw_142, h⟩ := h
          obtain ⟨hi_141, h⟩ := h
          refine rl_ia rfl hw_142 hi_141.1 hi_141.2.1 hi_141.2.2 ?_
          show Zr sc 143 393 [zp a0, zj x1, zj x2, zj x3, zj x4, zj x5, zj x6, zj x7] [zj (zgi l_143 x1), zj r_122] w_120 ov w' c_23 s_24
          obtain ⟨hr_144, h⟩ := h
          refine Zr_br (p := r_122 ≠ (zgi l_143 x1)) rfl rfl (zcmp_j (cnd := .ne) hr_144.1 hr_144.2) (fun hp => ?_) (fun hp => ?_)
          · replace h := h.1 hp
            show Zr sc 143 400 [zp a0, zj x1, zj x2, zj x3, zj x4, zj x5, zj x6, zj x7] [] w_120 ov w' c_23 s_24
            refine rl_ic rfl ?_
            show Zr sc 143 401 [zp a0, zj x1, zj x2, zj x3, zj x4, zj x5, zj x6, zj x7] [zj 0] w_120 ov w' c_23 s_24
            obtain ⟨h1, h2, h3, h4⟩ := h
            subst h1; subst h2; subst h3; subst h4
            exact Zr_ret (ins := .ireturn) rfl rfl
          · replace h := h.2 hp
            show Zr sc 143 396 [zp a0, zj x1, zj x2, zj x3, zj x4, zj x5, zj x6, zj x7] [] w_120 ov w' c_23 s_24
            refine rl_ic rfl ?_
            show Zr sc 143 397 [zp a0, zj x1, zj x2, zj x3, zj x4, zj x5, zj x6, zj x7] [zj 1] w_120 ov w' c_23 s_24
            refine Zr_st (q := (401, [zp a0, zj x1, zj x2, zj x3, zj x4, zj x5, zj x6, zj x7], [zj 1])) rfl rfl rfl ?_
            show Zr sc 143 401 [zp a0, zj x1, zj x2, zj x3, zj x4, zj x5, zj x6, zj x7] [zj 1] w_120 ov w' c_23 s_24
            obtain ⟨h1, h2, h3, h4⟩ := h
            subst h1; subst h2; subst h3; subst h4
            exact Zr_ret (ins := .ireturn) rfl rfl
    · replace h := h.2 hp
      show Zr sc 143 353 [zp a0, zj x1, zj x2, zj x3, zj x4, zj x5, zj x6, zj x7] [zj r_56] w_54 ov w' c_23 s_24
      refine Zr_st (q := (354, [zp a0, zj x1, zj x2, zj x3, zj x4, zj x5, zj x6, zj x7], [zj x3, zj r_56])) rfl rfl rfl ?_
      show Zr sc 143 354 [zp a0, zj x1, zj x2, zj x3, zj x4, zj x5, zj x6, zj x7] [zj x3, zj r_56] w_54 ov w' c_23 s_24
      refine Zr_st (q := (359, [zp a0, zj x1, zj x2, zj x3, zj x4, zj x5, zj x6, zj x7], [zj x3, zj r_56])) rfl rfl rfl ?_
      show Zr sc 143 359 [zp a0, zj x1, zj x2, zj x3, zj x4, zj x5, zj x6, zj x7] [zj x3, zj r_56] w_54 ov w' c_23 s_24
      obtain ⟨hr_145, h⟩ := h
      refine Zr_br (p := r_56 ≠ x3) rfl rfl (zcmp_j (cnd := .ne) hr_145.1 hr_145.2) (fun hp => ?_) (fun hp => ?_)
      · replace h := h.1 hp
        show Zr sc 143 400 [zp a0, zj x1, zj x2, zj x3, zj x4, zj x5, zj x6, zj x7] [] w_54 ov w' c_23 s_24
        refine rl_ic rfl ?_
        show Zr sc 143 401 [zp a0, zj x1, zj x2, zj x3, zj x4, zj x5, zj x6, zj x7] [zj 0] w_54 ov w' c_23 s_24
        obtain ⟨h1, h2, h3, h4⟩ := h
        subst h1; subst h2; subst h3; subst h4
        exact Zr_ret (ins := .ireturn) rfl rfl
      · replace h := h.2 hp
        show Zr sc 143 362 [zp a0, zj x1, zj x2, zj x3, zj x4, zj x5, zj x6, zj x7] [] w_54 ov w' c_23 s_24
        refine Zr_st (q := (363, [zp a0, zj x1, zj x2, zj x3, zj x4, zj x5, zj x6, zj x7], [zp a0])) rfl rfl rfl ?_
        show Zr sc 143 363 [zp a0, zj x1, zj x2, zj x3, zj x4, zj x5, zj x6, zj x7] [zp a0] w_54 ov w' c_23 s_24
        obtain ⟨f0_147, f2_149, f3_150, f4_151, f5_152, f6_153, f7_154, f8_155, f9_156, f10_157, f11_158, f12_159, f13_160, f14_161, f15_162, f16_163, hw_146, h⟩ := h
        refine rl_gf rfl hw_146 rfl rfl ?_
        show Zr sc 143 366 [zp a0, zj x1, zj x2, zj x3, zj x4, zj x5, zj x6, zj x7] [zp f0_147] w_54 ov w' c_23 s_24
        refine Zr_st (q := (367, [zp a0, zj x1, zj x2, zj x3, zj x4, zj x5, zj x6, zj x7], [zj x1, zp f0_147])) rfl rfl rfl ?_
        show Zr sc 143 367 [zp a0, zj x1, zj x2, zj x3, zj x4, zj x5, zj x6, zj x7] [zj x1, zp f0_147] w_54 ov w' c_23 s_24
        obtain ⟨f0_165, f1_166, f2_167, f3_168, f4_169, f5_170, f6_171, f7_172, hw_164, h⟩ := h
        obtain ⟨r_175, w_173, hk_174, h⟩ := h
        refine rn_cal0 (ins := .invokevirtual 160) (rest := []) rfl rfl rfl rfl (zinv_v (fs := _) hw_164 rfl rfl rfl rfl) rfl rfl hk_174 ?_
        show Zr sc 143 370 [zp a0, zj x1, zj x2, zj x3, zj x4, zj x5, zj x6, zj x7] [zj r_175] w_173 ov w' c_23 s_24
        refine Zr_st (q := (371, [zp a0, zj x1, zj x2, zj x3, zj x4, zj x5, zj x6, zj x7], [zp a0, zj r_175])) rfl rfl rfl ?_
        show Zr sc 143 371 [zp a0, zj x1, zj x2, zj x3, zj x4, zj x5, zj x6, zj x7] [zp a0, zj r_175] w_173 ov w' c_23 s_24
        obtain ⟨f0_177, f2_179, f3_180, f4_181, f5_182, f6_183, f7_184, f8_185, f9_186, f10_187, f11_188, f12_189, f13_190, f14_191, f15_192, f16_193, hw_176, h⟩ := h
        refine rl_gf rfl hw_176 rfl rfl ?_
        show Zr sc 143 374 [zp a0, zj x1, zj x2, zj x3, zj x4, zj x5, zj x6, zj x7] [zp f8_185, zj r_175] w_173 ov w' c_23 s_24
        refine Zr_st (q := (375, [zp a0, zj x1, zj x2, zj x3, zj x4, zj x5, zj x6, zj x7], [zj x1, zp f8_185, zj r_175])) rfl rfl rfl ?_
        show Zr sc 143 375 [zp a0, zj x1, zj x2, zj x3, zj x4, zj x5, zj x6, zj x7] [zj x1, zp f8_185, zj r_175] w_173 ov w' c_23 s_24
        obtain ⟨l_196, hw_195, h⟩ := h
        obtain ⟨hi_194, h⟩ := h
        refine rl_ia rfl hw_195 hi_194.1 hi_194.2.1 hi_194.2.2 ?_
        show Zr sc 143 376 [zp a0, zj x1, zj x2, zj x3, zj x4, zj x5, zj x6, zj x7] [zj (zgi l_196 x1), zj r_175] w_173 ov w' c_23 s_24
        obtain ⟨hr_197, h⟩ := h
        refine Zr_br (p := r_175 ≠ (zgi l_196 x1)) rfl rfl (zcmp_j (cnd := .ne) hr_197.1 hr_197.2) (fun hp => ?_) (fun hp => ?_)
        · replace h := h.1 hp
          show Zr sc 143 400 [zp a0, zj x1, zj x2, zj x3, zj x4, zj x5, zj x6, zj x7] [] w_173 ov w' c_23 s_24
          refine rl_ic rfl ?_
          show Zr sc 143 401 [zp a0, zj x1, zj x2, zj x3, zj x4, zj x5, zj x6, zj x7] [zj 0] w_173 ov w' c_23 s_24
          obtain ⟨h1, h2, h3, h4⟩ := h
          subst h1; subst h2; subst h3; subst h4
          exact Zr_ret (ins := .ireturn) rfl rfl
        · replace h := h.2 hp
          show Zr sc 143 379 [zp a0, zj x1, zj x2, zj x3, zj x4, zj x5, zj x6, zj x7] [] w_173 ov w' c_23 s_24
          refine Zr_st (q := (380, [zp a0, zj x1, zj x2, zj x3, zj x4, zj x5, zj x6, zj x7], [zp a0])) rfl rfl rfl ?_
          show Zr sc 143 380 [zp a0, zj x1, zj x2, zj x3, zj x4, zj x5, zj x6, zj x7] [zp a0] w_173 ov w' c_23 s_24
          refine rl_gf rfl hw_176 rfl rfl ?_
          show Zr sc 143 383 [zp a0, zj x1, zj x2, zj x3, zj x4, zj x5, zj x6, zj x7] [zp f0_177] w_173 ov w' c_23 s_24
          refine Zr_st (q := (384, [zp a0, zj x1, zj x2, zj x3, zj x4, zj x5, zj x6, zj x7], [zj x1, zp f0_177])) rfl rfl rfl ?_
          show Zr sc 143 384 [zp a0, zj x1, zj x2, zj x3, zj x4, zj x5, zj x6, zj x7] [zj x1, zp f0_177] w_173 ov w' c_23 s_24
          obtain ⟨f0_199, f1_200, f2_201, f3_202, f4_203, f5_204, f6_205, f7_206, hw_198, h⟩ := h
          obtain ⟨r_209, w_207, hk_208, h⟩ := h
          refine rn_cal0 (ins := .invokevirtual 162) (rest := []) rfl rfl rfl rfl (zinv_v (fs := _) hw_198 rfl rfl rfl rfl) rfl rfl hk_208 ?_
          show Zr sc 143 387 [zp a0, zj x1, zj x2, zj x3, zj x4, zj x5, zj x6, zj x7] [zj r_209] w_207 ov w' c_23 s_24
          refine Zr_st (q := (388, [zp a0, zj x1, zj x2, zj x3, zj x4, zj x5, zj x6, zj x7], [zp a0, zj r_209])) rfl rfl rfl ?_
          show Zr sc 143 388 [zp a0, zj x1, zj x2, zj x3, zj x4, zj x5, zj x6, zj x7] [zp a0, zj r_209] w_207 ov w' c_23 s_24
          obtain ⟨f0_211, f2_213, f3_214, f4_215, f5_216, f6_217, f7_218, f8_219, f9_220, f10_221, f11_222, f12_223, f13_224, f14_225, f15_226, f16_227, hw_210, h⟩ := h
          refine rl_gf rfl hw_210 rfl rfl ?_
          show Zr sc 143 391 [zp a0, zj x1, zj x2, zj x3, zj x4, zj x5, zj x6, zj x7] [zp f9_220, zj r_209] w_207 ov w' c_23 s_24
          refine Zr_st (q := (392, [zp a0, zj x1, zj x2, zj x3, zj x4, zj x5, zj x6, zj x7], [zj x1, zp f9_220, zj r_209])) rfl rfl rfl ?_
          show Zr sc 143 392 [zp a0, zj x1, zj x2, zj x3, zj x4, zj x5, zj x6, zj x7] [zj x1, zp f9_220, zj r_209] w_207 ov w' c_23 s_24
          obtain ⟨l_230, hw_229, h⟩ := h
          obtain ⟨hi_228, h⟩ := h
          refine rl_ia rfl hw_229 hi_228.1 hi_228.2.1 hi_228.2.2 ?_
          show Zr sc 143 393 [zp a0, zj x1, zj x2, zj x3, zj x4, zj x5, zj x6, zj x7] [zj (zgi l_230 x1), zj r_209] w_207 ov w' c_23 s_24
          obtain ⟨hr_231, h⟩ := h
          refine Zr_br (p := r_209 ≠ (zgi l_230 x1)) rfl rfl (zcmp_j (cnd := .ne) hr_231.1 hr_231.2) (fun hp => ?_) (fun hp => ?_)
          · replace h := h.1 hp
            show Zr sc 143 400 [zp a0, zj x1, zj x2, zj x3, zj x4, zj x5, zj x6, zj x7] [] w_207 ov w' c_23 s_24
            refine rl_ic rfl ?_
            show Zr sc 143 401 [zp a0, zj x1, zj x2, zj x3, zj x4, zj x5, zj x6, zj x7] [zj 0] w_207 ov w' c_23 s_24
            obtain ⟨h1, h2, h3, h4⟩ := h
            subst h1; subst h2; subst h3; subst h4
            exact Zr_ret (ins := .ireturn) rfl rfl
          · replace h := h.2 hp
            show Zr sc 143 396 [zp a0, zj x1, zj x2, zj x3, zj x4, zj x5, zj x6, zj x7] [] w_207 ov w' c_23 s_24
            refine rl_ic rfl ?_
            show Zr sc 143 397 [zp a0, zj x1, zj x2, zj x3, zj x4, zj x5, zj x6, zj x7] [zj 1] w_207 ov w' c_23 s_24
            refine Zr_st (q := (401, [zp a0, zj x1, zj x2, zj x3, zj x4, zj x5, zj x6, zj x7], [zj 1])) rfl rfl rfl ?_
            show Zr sc 143 401 [zp a0, zj x1, zj x2, zj x3, zj x4, zj x5, zj x6, zj x7] [zj 1] w_207 ov w' c_23 s_24
            obtain ⟨h1, h2, h3, h4⟩ := h
            subst h1; subst h2; subst h3; subst h4
            exact Zr_ret (ins := .ireturn) rfl rfl

