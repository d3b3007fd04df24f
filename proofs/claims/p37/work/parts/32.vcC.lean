/-! ===== regions: the class and the pool ===== -/
-- HeapwrightLabLaw$Pool.<init>([II)V
set_option maxRecDepth 100000 in
theorem V105_0 {sc : List Value} {w w' : List zE} {ov : Option Value} {c s : Nat} {a0 : Nat} {x2 : Int} (h : (∃ p_1 : Nat, p_1 = w.length ∧ (∃ c_3 s_4 : Nat, (c = 1 + c_3 ∧ s = 8 + s_4) ∧ (∃ w_6 : List zE, ∃ c_8 s_9 c_10 s_11 : Nat, Zc sc 106 [zp p_1] (w ++ [zob 6 [.null, .null, .null, .null, .null, .null, .null, zj 0]]) none w_6 c_8 s_9 ∧ (c_3 = c_8 + c_10 ∧ s_4 = s_9 + s_11) ∧ (∃ f0_14 : Value, ∃ f1_15 : Value, ∃ f2_16 : Int, ∃ f3_17 : Int, ∃ f4_18 : Int, ∃ f5_19 : Int, ∃ f6_20 : Value, ∃ f7_21 : Int, ∃ f8_22 : Value, ∃ f9_23 : Value, ∃ f10_24 : Value, ∃ f11_25 : Int, ∃ f12_26 : Int, ∃ f13_27 : Value, ∃ f14_28 : Int, ∃ f15_29 : Value, ∃ f16_30 : Int, w_6[a0]? = some (zob 7 [f0_14, f1_15, zj f2_16, zj f3_17, zj f4_18, zj f5_19, f6_20, zj f7_21, f8_22, f9_23, f10_24, zj f11_25, zj f12_26, f13_27, zj f14_28, f15_29, zj f16_30]) ∧ (((0 : Int) ≤ 1024 ∧ 1024 ≤ (60000 : Int)) ∧ (∃ p_31 : Nat, p_31 = (((w_6.set a0 (zob 7 [zp p_1, f1_15, zj f2_16, zj f3_17, zj f4_18, zj f5_19, f6_20, zj f7_21, f8_22, f9_23, f10_24, zj f11_25, zj f12_26, f13_27, zj f14_28, f15_29, zj f16_30])).set a0 (zob 7 [zp p_1, f1_15, zj f2_16, zj f3_17, zj 4, zj f5_19, f6_20, zj f7_21, f8_22, f9_23, f10_24, zj f11_25, zj f12_26, f13_27, zj f14_28, f15_29, zj f16_30])).set a0 (zob 7 [zp p_1, f1_15, zj f2_16, zj f3_17, zj 4, zj 2, f6_20, zj f7_21, f8_22, f9_23, f10_24, zj f11_25, zj f12_26, f13_27, zj f14_28, f15_29, zj f16_30])).length ∧ (∃ c_33 s_34 : Nat, (c_10 = 1 + c_33 ∧ s_11 = (1024 : Int).toNat + s_34) ∧ (((0 : Int) ≤ 81 ∧ 81 ≤ (60000 : Int)) ∧ (∃ p_37 : Nat, p_37 = (((((w_6.set a0 (zob 7 [zp p_1, f1_15, zj f2_16, zj f3_17, zj f4_18, zj f5_19, f6_20, zj f7_21, f8_22, f9_23, f10_24, zj f11_25, zj f12_26, f13_27, zj f14_28, f15_29, zj f16_30])).set a0 (zob 7 [zp p_1, f1_15, zj f2_16, zj f3_17, zj 4, zj f5_19, f6_20, zj f7_21, f8_22, f9_23, f10_24, zj f11_25, zj f12_26, f13_27, zj f14_28, f15_29, zj f16_30])).set a0 (zob 7 [zp p_1, f1_15, zj f2_16, zj f3_17, zj 4, zj 2, f6_20, zj f7_21, f8_22, f9_23, f10_24, zj f11_25, zj f12_26, f13_27, zj f14_28, f15_29, zj f16_30])) ++ [za (List.replicate (1024 : Int).toNat (0 : Int))]).set a0 (zob 7 [zp p_1, f1_15, zj f2_16, zj f3_17, zj 4, zj 2, zp p_31, zj f7_21, f8_22, f9_23, f10_24, zj f11_25, zj f12_26, f13_27, zj f14_28, f15_29, zj f16_30])).length ∧ (∃ c_39 s_40 : Nat, (c_33 = 1 + c_39 ∧ s_34 = (81 : Int).toNat + s_40) ∧ (((0 : Int) ≤ 81 ∧ 81 ≤ (60000 : Int)) ∧ (∃ p_43 : Nat, p_43 = (((((((w_6.set a0 (zob 7 [zp p_1, f1_15, zj f2_16, zj f3_17, zj f4_18, zj f5_19, f6_20, zj f7_21, f8_22, f9_23, f10_24, zj f11_25, zj f12_26, f13_27, zj f14_28, f15_29, zj f16_30])).set a0 (zob 7 [zp p_1, f1_15, zj f2_16, zj f3_17, zj 4, zj f5_19, f6_20, zj f7_21, f8_22, f9_23, f10_24, zj f11_25, zj f12_26, f13_27, zj f14_28, f15_29, zj f16_30])).set a0 (zob 7 [zp p_1, f1_15, zj f2_16, zj f3_17, zj 4, zj 2, f6_20, zj f7_21, f8_22, f9_23, f10_24, zj f11_25, zj f12_26, f13_27, zj f14_28, f15_29, zj f16_30])) ++ [za (List.replicate (1024 : Int).toNat (0 : Int))]).set a0 (zob 7 [zp p_1, f1_15, zj f2_16, zj f3_17, zj 4, zj 2, zp p_31, zj f7_21, f8_22, f9_23, f10_24, zj f11_25, zj f12_26, f13_27, zj f14_28, f15_29, zj f16_30])) ++ [za (List.replicate (81 : Int).toNat (0 : Int))]).set a0 (zob 7 [zp p_1, f1_15, zj f2_16, zj f3_17, zj 4, zj 2, zp p_31, zj f7_21, zp p_37, f9_23, f10_24, zj f11_25, zj f12_26, f13_27, zj f14_28, f15_29, zj f16_30])).length ∧ (∃ c_45 s_46 : Nat, (c_39 = 1 + c_45 ∧ s_40 = (81 : Int).toNat + s_46) ∧ (((0 : Int) ≤ 81 ∧ 81 ≤ (60000 : Int)) ∧ (∃ p_49 : Nat, p_49 = (((((((((w_6.set a0 (zob 7 [zp p_1, f1_15, zj f2_16, zj f3_17, zj f4_18, zj f5_19, f6_20, zj f7_21, f8_22, f9_23, f10_24, zj f11_25, zj f12_26, f13_27, zj f14_28, f15_29, zj f16_30])).set a0 (zob 7 [zp p_1, f1_15, zj f2_16, zj f3_17, zj 4, zj f5_19, f6_20, zj f7_21, f8_22, f9_23, f10_24, zj f11_25, zj f12_26, f13_27, zj f14_28, f15_29, zj f16_30])).set a0 (zob 7 [zp p_1, f1_15, zj f2_16, zj f3_17, zj 4, zj 2, f6_20, zj f7_21, f8_22, f9_23, f10_24, zj f11_25, zj f12_26, f13_27, zj f14_28, f15_29, zj f16_30])) ++ [za (List.replicate (1024 : Int).toNat (0 : Int))]).set a0 (zob 7 [zp p_1, f1_15, zj f2_16, zj f3_17, zj 4, zj 2, zp p_31, zj f7_21, f8_22, f9_23, f10_24, zj f11_25, zj f12_26, f13_27, zj f14_28, f15_29, zj f16_30])) ++ [za (List.replicate (81 : Int).toNat (0 : Int))]).set a0 (zob 7 [zp p_1, f1_15, zj f2_16, zj f3_17, zj 4, zj 2, zp p_31, zj f7_21, zp p_37, f9_23, f10_24, zj f11_25, zj f12_26, f13_27, zj f14_28, f15_29, zj f16_30])) ++ [za (List.replicate (81 : Int).toNat (0 : Int))]).set a0 (zob 7 [zp p_1, f1_15, zj f2_16, zj f3_17, zj 4, zj 2, zp p_31, zj f7_21, zp p_37, zp p_43, f10_24, zj f11_25, zj f12_26, f13_27, zj f14_28, f15_29, zj f16_30])).length ∧ (∃ c_51 s_52 : Nat, (c_45 = 1 + c_51 ∧ s_46 = (81 : Int).toNat + s_52) ∧ (((0 : Int) ≤ 5 ∧ 5 ≤ (60000 : Int)) ∧ (∃ p_55 : Nat, p_55 = (((((((((((w_6.set a0 (zob 7 [zp p_1, f1_15, zj f2_16, zj f3_17, zj f4_18, zj f5_19, f6_20, zj f7_21, f8_22, f9_23, f10_24, zj f11_25, zj f12_26, f13_27, zj f14_28, f15_29, zj f16_30])).set a0 (zob 7 [zp p_1, f1_15, zj f2_16, zj f3_17, zj 4, zj f5_19, f6_20, zj f7_21, f8_22, f9_23, f10_24, zj f11_25, zj f12_26, f13_27, zj f14_28, f15_29, zj f16_30])).set a0 (zob 7 [zp p_1, f1_15, zj f2_16, zj f3_17, zj 4, zj 2, f6_20, zj f7_21, f8_22, f9_23, f10_24, zj f11_25, zj f12_26, f13_27, zj f14_28, f15_29, zj f16_30])) ++ [za (List.replicate (1024 : Int).toNat (0 : Int))]).set a0 (zob 7 [zp p_1, f1_15, zj f2_16, zj f3_17, zj 4, zj 2, zp p_31, zj f7_21, f8_22, f9_23, f10_24, zj f11_25, zj f12_26, f13_27, zj f14_28, f15_29, zj f16_30])) ++ [za (List.replicate (81 : Int).toNat (0 : Int))]).set a0 (zob 7 [zp p_1, f1_15, zj f2_16, zj f3_17, zj 4, zj 2, zp p_31, zj f7_21, zp p_37, f9_23, f10_24, zj f11_25, zj f12_26, f13_27, zj f14_28, f15_29, zj f16_30])) ++ [za (List.replicate (81 : Int).toNat (0 : Int))]).set a0 (zob 7 [zp p_1, f1_15, zj f2_16, zj f3_17, zj 4, zj 2, zp p_31, zj f7_21, zp p_37, zp p_43, f10_24, zj f11_25, zj f12_26, f13_27, zj f14_28, f15_29, zj f16_30])) ++ [za (List.replicate (81 : Int).toNat (0 : Int))]).set a0 (zob 7 [zp p_1, f1_15, zj f2_16, zj f3_17, zj 4, zj 2, zp p_31, zj f7_21, zp p_37, zp p_43, zp p_49, zj f11_25, zj f12_26, f13_27, zj f14_28, f15_29, zj f16_30])).length ∧ (∃ c_57 s_58 : Nat, (c_51 = 1 + c_57 ∧ s_52 = (5 : Int).toNat + s_58) ∧ (((0 : Int) ≤ 0 ∧ 0 ≤ (60000 : Int)) ∧ (∃ p_61 : Nat, p_61 = (((((((((((((w_6.set a0 (zob 7 [zp p_1, f1_15, zj f2_16, zj f3_17, zj f4_18, zj f5_19, f6_20, zj f7_21, f8_22, f9_23, f10_24, zj f11_25, zj f12_26, f13_27, zj f14_28, f15_29, zj f16_30])).set a0 (zob 7 [zp p_1, f1_15, zj f2_16, zj f3_17, zj 4, zj f5_19, f6_20, zj f7_21, f8_22, f9_23, f10_24, zj f11_25, zj f12_26, f13_27, zj f14_28, f15_29, zj f16_30])).set a0 (zob 7 [zp p_1, f1_15, zj f2_16, zj f3_17, zj 4, zj 2, f6_20, zj f7_21, f8_22, f9_23, f10_24, zj f11_25, zj f12_26, f13_27, zj f14_28, f15_29, zj f16_30])) ++ [za (List.replicate (1024 : Int).toNat (0 : Int))]).set a0 (zob 7 [zp p_1, f1_15, zj f2_16, zj f3_17, zj 4, zj 2, zp p_31, zj f7_21, f8_22, f9_23, f10_24, zj f11_25, zj f12_26, f13_27, zj f14_28, f15_29, zj f16_30])) ++ [za (List.replicate (81 : Int).toNat (0 : Int))]).set a0 (zob 7 [zp p_1, f1_15, zj f2_16, zj f3_17, zj 4, zj 2, zp p_31, zj f7_21, zp p_37, f9_23, f10_24, zj f11_25, zj f12_26, f13_27, zj f14_28, f15_29, zj f16_30])) ++ [za (List.replicate (81 : Int).toNat (0 : Int))]).set a0 (zob 7 [zp p_1, f1_15, zj f2_16, zj f3_17, zj 4, zj 2, zp p_31, zj f7_21, zp p_37, zp p_43, f10_24, zj f11_25, zj f12_26, f13_27, zj f14_28, f15_29, zj f16_30])) ++ [za (List.replicate (81 : Int).toNat (0 : Int))]).set a0 (zob 7 [zp p_1, f1_15, zj f2_16, zj f3_17, zj 4, zj 2, zp p_31, zj f7_21, zp p_37, zp p_43, zp p_49, zj f11_25, zj f12_26, f13_27, zj f14_28, f15_29, zj f16_30])) ++ [za (List.replicate (5 : Int).toNat (0 : Int))]).set a0 (zob 7 [zp p_1, f1_15, zj f2_16, zj f3_17, zj 4, zj 2, zp p_31, zj f7_21, zp p_37, zp p_43, zp p_49, zj f11_25, zj f12_26, zp p_55, zj f14_28, f15_29, zj f16_30])).length ∧ (∃ c_63 s_64 : Nat, (c_57 = 1 + c_63 ∧ s_58 = (0 : Int).toNat + s_64) ∧ (∃ w_67 : List zE, Zc sc 114 [zp a0] ((((((((((((((((((w_6.set a0 (zob 7 [zp p_1, f1_15, zj f2_16, zj f3_17, zj f4_18, zj f5_19, f6_20, zj f7_21, f8_22, f9_23, f10_24, zj f11_25, zj f12_26, f13_27, zj f14_28, f15_29, zj f16_30])).set a0 (zob 7 [zp p_1, f1_15, zj f2_16, zj f3_17, zj 4, zj f5_19, f6_20, zj f7_21, f8_22, f9_23, f10_24, zj f11_25, zj f12_26, f13_27, zj f14_28, f15_29, zj f16_30])).set a0 (zob 7 [zp p_1, f1_15, zj f2_16, zj f3_17, zj 4, zj 2, f6_20, zj f7_21, f8_22, f9_23, f10_24, zj f11_25, zj f12_26, f13_27, zj f14_28, f15_29, zj f16_30])) ++ [za (List.replicate (1024 : Int).toNat (0 : Int))]).set a0 (zob 7 [zp p_1, f1_15, zj f2_16, zj f3_17, zj 4, zj 2, zp p_31, zj f7_21, f8_22, f9_23, f10_24, zj f11_25, zj f12_26, f13_27, zj f14_28, f15_29, zj f16_30])) ++ [za (List.replicate (81 : Int).toNat (0 : Int))]).set a0 (zob 7 [zp p_1, f1_15, zj f2_16, zj f3_17, zj 4, zj 2, zp p_31, zj f7_21, zp p_37, f9_23, f10_24, zj f11_25, zj f12_26, f13_27, zj f14_28, f15_29, zj f16_30])) ++ [za (List.replicate (81 : Int).toNat (0 : Int))]).set a0 (zob 7 [zp p_1, f1_15, zj f2_16, zj f3_17, zj 4, zj 2, zp p_31, zj f7_21, zp p_37, zp p_43, f10_24, zj f11_25, zj f12_26, f13_27, zj f14_28, f15_29, zj f16_30])) ++ [za (List.replicate (81 : Int).toNat (0 : Int))]).set a0 (zob 7 [zp p_1, f1_15, zj f2_16, zj f3_17, zj 4, zj 2, zp p_31, zj f7_21, zp p_37, zp p_43, zp p_49, zj f11_25, zj f12_26, f13_27, zj f14_28, f15_29, zj f16_30])) ++ [za (List.replicate (5 : Int).toNat (0 : Int))]).set a0 (zob 7 [zp p_1, f1_15, zj f2_16, zj f3_17, zj 4, zj 2, zp p_31, zj f7_21, zp p_37, zp p_43, zp p_49, zj f11_25, zj f12_26, zp p_55, zj f14_28, f15_29, zj f16_30])) ++ [za (List.replicate (0 : Int).toNat (0 : Int))]).set a0 (zob 7 [zp p_1, f1_15, zj f2_16, zj f3_17, zj 4, zj 2, zp p_31, zj f7_21, zp p_37, zp p_43, zp p_49, zj f11_25, zj f12_26, zp p_55, zj f14_28, zp p_61, zj f16_30])).set a0 (zob 7 [zp p_1, f1_15, zj f2_16, zj f3_17, zj 4, zj 2, zp p_31, zj f7_21, zp p_37, zp p_43, zp p_49, zj f11_25, zj f12_26, zp p_55, zj f14_28, zp p_61, zj 1])).set a0 (zob 7 [zp p_1, .ref 0, zj f2_16, zj f3_17, zj 4, zj 2, zp p_31, zj f7_21, zp p_37, zp p_43, zp p_49, zj f11_25, zj f12_26, zp p_55, zj f14_28, zp p_61, zj 1])).set a0 (zob 7 [zp p_1, .ref 0, zj x2, zj f3_17, zj 4, zj 2, zp p_31, zj f7_21, zp p_37, zp p_43, zp p_49, zj f11_25, zj f12_26, zp p_55, zj f14_28, zp p_61, zj 1])) none w_67 0 0 ∧ (ov = none ∧ w' = w_67 ∧ c_63 = 0 ∧ s_64 = 0))))))))))))))))))))))))) : Zr sc 105 0 [zp a0, .ref 0, zj x2] [] w ov w' c s := by
  refine Zr_st (q := (1, [zp a0, .ref 0, zj x2], [zp a0])) rfl rfl rfl ?_
  show Zr sc 105 1 [zp a0, .ref 0, zj x2] [zp a0] w ov w' c s
  refine Zr_obj (ins := .invokespecial 1) (rest := []) rfl rfl rfl rfl (zinv_s2 (rest := []) rfl rfl rfl rfl rfl) rfl ?_
  show Zr sc 105 4 [zp a0, .ref 0, zj x2] [] w ov w' c s
  refine Zr_st (q := (5, [zp a0, .ref 0, zj x2], [zp a0])) rfl rfl rfl ?_
  show Zr sc 105 5 [zp a0, .ref 0, zj x2] [zp a0] w ov w' c s
  obtain ⟨p_1, hp_2, h⟩ := h
  obtain ⟨c_3, s_4, hc_5, h⟩ := h
  refine rn_new (X := zob 6 [.null, .null, .null, .null, .null, .null, .null, zj 0]) rfl rfl hp_2 rfl hc_5.1 hc_5.2 ?_
  show Zr sc 105 8 [zp a0, .ref 0, zj x2] [zp p_1, zp a0] (w ++ [zob 6 [.null, .null, .null, .null, .null, .null, .null, zj 0]]) ov w' c_3 s_4
  refine Zr_st (q := (9, [zp a0, .ref 0, zj x2], [zp p_1, zp p_1, zp a0])) rfl rfl rfl ?_
  show Zr sc 105 9 [zp a0, .ref 0, zj x2] [zp p_1, zp p_1, zp a0] (w ++ [zob 6 [.null, .null, .null, .null, .null, .null, .null, zj 0]]) ov w' c_3 s_4
  obtain ⟨w_6, c_8, s_9, c_10, s_11, hk_7, hc_12, h⟩ := h
  refine rl_cal (ins := .invokespecial 9) (rest := [zp p_1, zp a0]) rfl rfl rfl rfl (zinv_s rfl rfl rfl rfl) rfl rfl hk_7 ?_ hc_12.1 hc_12.2
  show Zr sc 105 12 [zp a0, .ref 0, zj x2] [zp p_1, zp a0] w_6 ov w' c_10 s_11
  obtain ⟨f0_14, f1_15, f2_16, f3_17, f4_18, f5_19, f6_20, f7_21, f8_22, f9_23, f10_24, f11_25, f12_26, f13_27, f14_28, f15_29, f16_30, hw_13, h⟩ := h
  refine rl_pf rfl hw_13 rfl rfl rfl ?_
  show Zr sc 105 15 [zp a0, .ref 0, zj x2] [] (w_6.set a0 (zob 7 [zp p_1, f1_15, zj f2_16, zj f3_17, zj f4_18, zj f5_19, f6_20, zj f7_21, f8_22, f9_23, f10_24, zj f11_25, zj f12_26, f13_27, zj f14_28, f15_29, zj f16_30])) ov w' c_10 s_11
  refine Zr_st (q := (16, [zp a0, .ref 0, zj x2], [zp a0])) rfl rfl rfl ?_
  show Zr sc 105 16 [zp a0, .ref 0, zj x2] [zp a0] (w_6.set a0 (zob 7 [zp p_1, f1_15, zj f2_16, zj f3_17, zj f4_18, zj f5_19, f6_20, zj f7_21, f8_22, f9_23, f10_24, zj f11_25, zj f12_26, f13_27, zj f14_28, f15_29, zj f16_30])) ov w' c_10 s_11
  refine rl_ic rfl ?_
  show Zr sc 105 17 [zp a0, .ref 0, zj x2] [zj 4, zp a0] (w_6.set a0 (zob 7 [zp p_1, f1_15, zj f2_16, zj f3_17, zj f4_18, zj f5_19, f6_20, zj f7_21, f8_22, f9_23, f10_24, zj f11_25, zj f12_26, f13_27, zj f14_28, f15_29, zj f16_30])) ov w' c_10 s_11
  refine rl_pf rfl (zw_s hw_13) rfl rfl rfl ?_
  show Zr sc 105 20 [zp a0, .ref 0, zj x2] [] ((w_6.set a0 (zob 7 [zp p_1, f1_15, zj f2_16, zj f3_17, zj f4_18, zj f5_19, f6_20, zj f7_21, f8_22, f9_23, f10_24, zj f11_25, zj f12_26, f13_27, zj f14_28, f15_29, zj f16_30])).set a0 (zob 7 [zp p_1, f1_15, zj f2_16, zj f3_17, zj 4, zj f5_19, f6_20, zj f7_21, f8_22, f9_23, f10_24, zj f11_25, zj f12_26, f13_27, zj f14_28, f15_29, zj f16_30])) ov w' c_10 s_11
  refine Zr_st (q := (21, [zp a0, .ref 0, zj x2], [zp a0])) rfl rfl rfl ?_
  show Zr sc 105 21 [zp a0, .ref 0, zj x2] [zp a0] ((w_6.set a0 (zob 7 [zp p_1, f1_15, zj f2_16, zj f3_17, zj f4_18, zj f5_19, f6_20, zj f7_21, f8_22, f9_23, f10_24, zj f11_25, zj f12_26, f13_27, zj f14_28, f15_29, zj f16_30])).set a0 (zob 7 [zp p_1, f1_15, zj f2_16, zj f3_17, zj 4, zj f5_19, f6_20, zj f7_21, f8_22, f9_23, f10_24, zj f11_25, zj f12_26, f13_27, zj f14_28, f15_29, zj f16_30])) ov w' c_10 s_11
  refine rl_ic rfl ?_
  show Zr sc 105 22 [zp a0, .ref 0, zj x2] [zj 2, zp a0] ((w_6.set a0 (zob 7 [zp p_1, f1_15, zj f2_16, zj f3_17, zj f4_18, zj f5_19, f6_20, zj f7_21, f8_22, f9_23, f10_24, zj f11_25, zj f12_26, f13_27, zj f14_28, f15_29, zj f16_30])).set a0 (zob 7 [zp p_1, f1_15, zj f2_16, zj f3_17, zj 4, zj f5_19, f6_20, zj f7_21, f8_22, f9_23, f10_24, zj f11_25, zj f12_26, f13_27, zj f14_28, f15_29, zj f16_30])) ov w' c_10 s_11
  refine rl_pf rfl (zw_s (zw_s hw_13)) rfl rfl rfl ?_
  show Zr sc 105 25 [zp a0, .ref 0, zj x2] [] (((w_6.set a0 (zob 7 [zp p_1, f1_15, zj f2_16, zj f3_17, zj f4_18, zj f5_19, f6_20, zj f7_21, f8_22, f9_23, f10_24, zj f11_25, zj f12_26, f13_27, zj f14_28, f15_29, zj f16_30])).set a0 (zob 7 [zp p_1, f1_15, zj f2_16, zj f3_17, zj 4, zj f5_19, f6_20, zj f7_21, f8_22, f9_23, f10_24, zj f11_25, zj f12_26, f13_27, zj f14_28, f15_29, zj f16_30])).set a0 (zob 7 [zp p_1, f1_15, zj f2_16, zj f3_17, zj 4, zj 2, f6_20, zj f7_21, f8_22, f9_23, f10_24, zj f11_25, zj f12_26, f13_27, zj f14_28, f15_29, zj f16_30])) ov w' c_10 s_11
  refine Zr_st (q := (26, [zp a0, .ref 0, zj x2], [zp a0])) rfl rfl rfl ?_
  show Zr sc 105 26 [zp a0, .ref 0, zj x2] [zp a0] (((w_6.set a0 (zob 7 [zp p_1, f1_15, zj f2_16, zj f3_17, zj f4_18, zj f5_19, f6_20, zj f7_21, f8_22, f9_23, f10_24, zj f11_25, zj f12_26, f13_27, zj f14_28, f15_29, zj f16_30])).set a0 (zob 7 [zp p_1, f1_15, zj f2_16, zj f3_17, zj 4, zj f5_19, f6_20, zj f7_21, f8_22, f9_23, f10_24, zj f11_25, zj f12_26, f13_27, zj f14_28, f15_29, zj f16_30])).set a0 (zob 7 [zp p_1, f1_15, zj f2_16, zj f3_17, zj 4, zj 2, f6_20, zj f7_21, f8_22, f9_23, f10_24, zj f11_25, zj f12_26, f13_27, zj f14_28, f15_29, zj f16_30])) ov w' c_10 s_11
  refine rl_si rfl (by decide) ?_
  show Zr sc 105 29 [zp a0, .ref 0, zj x2] [zj 1024, zp a0] (((w_6.set a0 (zob 7 [zp p_1, f1_15, zj f2_16, zj f3_17, zj f4_18, zj f5_19, f6_20, zj f7_21, f8_22, f9_23, f10_24, zj f11_25, zj f12_26, f13_27, zj f14_28, f15_29, zj f16_30])).set a0 (zob 7 [zp p_1, f1_15, zj f2_16, zj f3_17, zj 4, zj f5_19, f6_20, zj f7_21, f8_22, f9_23, f10_24, zj f11_25, zj f12_26, f13_27, zj f14_28, f15_29, zj f16_30])).set a0 (zob 7 [zp p_1, f1_15, zj f2_16, zj f3_17, zj 4, zj 2, f6_20, zj f7_21, f8_22, f9_23, f10_24, zj f11_25, zj f12_26, f13_27, zj f14_28, f15_29, zj f16_30])) ov w' c_10 s_11
  obtain ⟨hx_36, h⟩ := h
  obtain ⟨p_31, hp_32, h⟩ := h
  obtain ⟨c_33, s_34, hc_35, h⟩ := h
  refine rn_na rfl hx_36.1 hx_36.2 hp_32 hc_35.1 hc_35.2 ?_
  show Zr sc 105 31 [zp a0, .ref 0, zj x2] [zp p_31, zp a0] ((((w_6.set a0 (zob 7 [zp p_1, f1_15, zj f2_16, zj f3_17, zj f4_18, zj f5_19, f6_20, zj f7_21, f8_22, f9_23, f10_24, zj f11_25, zj f12_26, f13_27, zj f14_28, f15_29, zj f16_30])).set a0 (zob 7 [zp p_1, f1_15, zj f2_16, zj f3_17, zj 4, zj f5_19, f6_20, zj f7_21, f8_22, f9_23, f10_24, zj f11_25, zj f12_26, f13_27, zj f14_28, f15_29, zj f16_30])).set a0 (zob 7 [zp p_1, f1_15, zj f2_16, zj f3_17, zj 4, zj 2, f6_20, zj f7_21, f8_22, f9_23, f10_24, zj f11_25, zj f12_26, f13_27, zj f14_28, f15_29, zj f16_30])) ++ [za (List.replicate (1024 : Int).toNat (0 : Int))]) ov w' c_33 s_34
  refine rl_pf rfl (zw_a (zw_s (zw_s (zw_s hw_13)))) rfl rfl rfl ?_
  show Zr sc 105 34 [zp a0, .ref 0, zj x2] [] (((((w_6.set a0 (zob 7 [zp p_1, f1_15, zj f2_16, zj f3_17, zj f4_18, zj f5_19, f6_20, zj f7_21, f8_22, f9_23, f10_24, zj f11_25, zj f12_26, f13_27, zj f14_28, f15_29, zj f16_30])).set a0 (zob 7 [zp p_1, f1_15, zj f2_16, zj f3_17, zj 4, zj f5_19, f6_20, zj f7_21, f8_22, f9_23, f10_24, zj f11_25, zj f12_26, f13_27, zj f14_28, f15_29, zj f16_30])).set a0 (zob 7 [zp p_1, f1_15, zj f2_16, zj f3_17, zj 4, zj 2, f6_20, zj f7_21, f8_22, f9_23, f10_24, zj f11_25, zj f12_26, f13_27, zj f14_28, f15_29, zj f16_30])) ++ [za (List.replicate (1024 : Int).toNat (0 : Int))]).set a0 (zob 7 [zp p_1, f1_15, zj f2_16, zj f3_17, zj 4, zj 2, zp p_31, zj f7_21, f8_22, f9_23, f10_24, zj f11_25, zj f12_26, f13_27, zj f14_28, f15_29, zj f16_30])) ov w' c_33 s_34
  refine Zr_st (q := (35, [zp a0, .ref 0, zj x2], [zp a0])) rfl rfl rfl ?_
  show Zr sc 105 35 [zp a0, .ref 0, zj x2] [zp a0] (((((w_6.set a0 (zob 7 [zp p_1, f1_15, zj f2_16, zj f3_17, zj f4_18, zj f5_19, f6_20, zj f7_21, f8_22, f9_23, f10_24, zj f11_25, zj f12_26, f13_27, zj f14_28, f15_29, zj f16_30])).set a0 (zob 7 [zp p_1, f1_15, zj f2_16, zj f3_17, zj 4, zj f5_19, f6_20, zj f7_21, f8_22, f9_23, f10_24, zj f11_25, zj f12_26, f13_27, zj f14_28, f15_29, zj f16_30])).set a0 (zob 7 [zp p_1, f1_15, zj f2_16, zj f3_17, zj 4, zj 2, f6_20, zj f7_21, f8_22, f9_23, f10_24, zj f11_25, zj f12_26, f13_27, zj f14_28, f15_29, zj f16_30])) ++ [za (List.replicate (1024 : Int).toNat (0 : Int))]).set a0 (zob 7 [zp p_1, f1_15, zj f2_16, zj f3_17, zj 4, zj 2, zp p_31, zj f7_21, f8_22, f9_23, f10_24, zj f11_25, zj f12_26, f13_27, zj f14_28, f15_29, zj f16_30])) ov w' c_33 s_34
  refine rl_bi rfl (by decide) ?_
  show Zr sc 105 37 [zp a0, .ref 0, zj x2] [zj 81, zp a0] (((((w_6.set a0 (zob 7 [zp p_1, f1_15, zj f2_16, zj f3_17, zj f4_18, zj f5_19, f6_20, zj f7_21, f8_22, f9_23, f10_24, zj f11_25, zj f12_26, f13_27, zj f14_28, f15_29, zj f16_30])).set a0 (zob 7 [zp p_1, f1_15, zj f2_16, zj f3_17, zj 4, zj f5_19, f6_20, zj f7_21, f8_22, f9_23, f10_24, zj f11_25, zj f12_26, f13_27, zj f14_28, f15_29, zj f16_30])).set a0 (zob 7 [zp p_1, f1_15, zj f2_16, zj f3_17, zj 4, zj 2, f6_20, zj f7_21, f8_22, f9_23, f10_24, zj f11_25, zj f12_26, f13_27, zj f14_28, f15_29, zj f16_30])) ++ [za (List.replicate (1024 : Int).toNat (0 : Int))]).set a0 (zob 7 [zp p_1, f1_15, zj f2_16, zj f3_17, zj 4, zj 2, zp p_31, zj f7_21, f8_22, f9_23, f10_24, zj f11_25, zj f12_26, f13_27, zj f14_28, f15_29, zj f16_30])) ov w' c_33 s_34
  obtain ⟨hx_42, h⟩ := h
  obtain ⟨p_37, hp_38, h⟩ := h
  obtain ⟨c_39, s_40, hc_41, h⟩ := h
  refine rn_na rfl hx_42.1 hx_42.2 hp_38 hc_41.1 hc_41.2 ?_
  show Zr sc 105 39 [zp a0, .ref 0, zj x2] [zp p_37, zp a0] ((((((w_6.set a0 (zob 7 [zp p_1, f1_15, zj f2_16, zj f3_17, zj f4_18, zj f5_19, f6_20, zj f7_21, f8_22, f9_23, f10_24, zj f11_25, zj f12_26, f13_27, zj f14_28, f15_29, zj f16_30])).set a0 (zob 7 [zp p_1, f1_15, zj f2_16, zj f3_17, zj 4, zj f5_19, f6_20, zj f7_21, f8_22, f9_23, f10_24, zj f11_25, zj f12_26, f13_27, zj f14_28, f15_29, zj f16_30])).set a0 (zob 7 [zp p_1, f1_15, zj f2_16, zj f3_17, zj 4, zj 2, f6_20, zj f7_21, f8_22, f9_23, f10_24, zj f11_25, zj f12_26, f13_27, zj f14_28, f15_29, zj f16_30])) ++ [za (List.replicate (1024 : Int).toNat (0 : Int))]).set a0 (zob 7 [zp p_1, f1_15, zj f2_16, zj f3_17, zj 4, zj 2, zp p_31, zj f7_21, f8_22, f9_23, f10_24, zj f11_25, zj f12_26, f13_27, zj f14_28, f15_29, zj f16_30])) ++ [za (List.replicate (81 : Int).toNat (0 : Int))]) ov w' c_39 s_40
  refine rl_pf rfl (zw_a (zw_s (zw_a (zw_s (zw_s (zw_s hw_13)))))) rfl rfl rfl ?_
  show Zr sc 105 42 [zp a0, .ref 0, zj x2] [] (((((((w_6.set a0 (zob 7 [zp p_1, f1_15, zj f2_16, zj f3_17, zj f4_18, zj f5_19, f6_20, zj f7_21, f8_22, f9_23, f10_24, zj f11_25, zj f12_26, f13_27, zj f14_28, f15_29, zj f16_30])).set a0 (zob 7 [zp p_1, f1_15, zj f2_16, zj f3_17, zj 4, zj f5_19, f6_20, zj f7_21, f8_22, f9_23, f10_24, zj f11_25, zj f12_26, f13_27, zj f14_28, f15_29, zj f16_30])).set a0 (zob 7 [zp p_1, f1_15, zj f2_16, zj f3_17, zj 4, zj 2, f6_20, zj f7_21, f8_22, f9_23, f10_24, zj f11_25, zj f12_26, f13_27, zj f14_28, f15_29, zj f16_30])) ++ [za (List.replicate (1024 : Int).toNat (0 : Int))]).set a0 (zob 7 [zp p_1, f1_15, zj f2_16, zj f3_17, zj 4, zj 2, zp p_31, zj f7_21, f8_22, f9_23, f10_24, zj f11_25, zj f12_26, f13_27, zj f14_28, f15_29, zj f16_30])) ++ [za (List.replicate (81 : Int).toNat (0 : Int))]).set a0 (zob 7 [zp p_1, f1_15, zj f2_16, zj f3_17, zj 4, zj 2, zp p_31, zj f7_21, zp p_37, f9_23, f10_24, zj f11_25, zj f12_26, f13_27, zj f14_28, f15_29, zj f16_30])) ov w' c_39 s_40
  refine Zr_st (q := (43, [zp a0, .ref 0, zj x2], [zp a0])) rfl rfl rfl ?_
  show Zr sc 105 43 [zp a0, .ref 0, zj x2] [zp a0] (((((((w_6.set a0 (zob 7 [zp p_1, f1_15, zj f2_16, zj f3_17, zj f4_18, zj f5_19, f6_20, zj f7_21, f8_22, f9_23, f10_24, zj f11_25, zj f12_26, f13_27, zj f14_28, f15_29, zj f16_30])).set a0 (zob 7 [zp p_1, f1_15, zj f2_16, zj f3_17, zj 4, zj f5_19, f6_20, zj f7_21, f8_22, f9_23, f10_24, zj f11_25, zj f12_26, f13_27, zj f14_28, f15_29, zj f16_30])).set a0 (zob 7 [zp p_1, f1_15, zj f2_16, zj f3_17, zj 4, zj 2, f6_20, zj f7_21, f8_22, f9_23, f10_24, zj f11_25, zj f12_26, f13_27, zj f14_28, f15_29, zj f16_30])) ++ [za (List.replicate (1024 : Int).toNat (0 : Int))]).set a0 (zob 7 [zp p_1, f1_15, zj f2_16, zj f3_17, zj 4, zj 2, zp p_31, zj f7_21, f8_22, f9_23, f10_24, zj f11_25, zj f12_26, f13_27, zj f14_28, f15_29, zj f16_30])) ++ [za (List.replicate (81 : Int).toNat (0 : Int))]).set a0 (zob 7 [zp p_1, f1_15, zj f2_16, zj f3_17, zj 4, zj 2, zp p_31, zj f7_21, zp p_37, f9_23, f10_24, zj f11_25, zj f12_26, f13_27, zj f14_28, f15_29, zj f16_30])) ov w' c_39 s_40
  refine rl_bi rfl (by decide) ?_
  show Zr sc 105 45 [zp a0, .ref 0, zj x2] [zj 81, zp a0] (((((((w_6.set a0 (zob 7 [zp p_1, f1_15, zj f2_16, zj f3_17, zj f4_18, zj f5_19, f6_20, zj f7_21, f8_22, f9_23, f10_24, zj f11_25, zj f12_26, f13_27, zj f14_28, f15_29, zj f16_30])).set a0 (zob 7 [zp p_1, f1_15, zj f2_16, zj f3_17, zj 4, zj f5_19, f6_20, zj f7_21, f8_22, f9_23, f10_24, zj f11_25, zj f12_26, f13_27, zj f14_28, f15_29, zj f16_30])).set a0 (zob 7 [zp p_1, f1_15, zj f2_16, zj f3_17, zj 4, zj 2, f6_20, zj f7_21, f8_22, f9_23, f10_24, zj f11_25, zj f12_26, f13_27, zj f14_28, f15_29, zj f16_30])) ++ [za (List.replicate (1024 : Int).toNat (0 : Int))]).set a0 (zob 7 [zp p_1, f1_15, zj f2_16, zj f3_17, zj 4, zj 2, zp p_31, zj f7_21, f8_22, f9_23, f10_24, zj f11_25, zj f12_26, f13_27, zj f14_28, f15_29, zj f16_30])) ++ [za (List.replicate (81 : Int).toNat (0 : Int))]).set a0 (zob 7 [zp p_1, f1_15, zj f2_16, zj f3_17, zj 4, zj 2, zp p_31, zj f7_21, zp p_37, f9_23, f10_24, zj f11_25, zj f12_26, f13_27, zj f14_28, f15_29, zj f16_30])) ov w' c_39 s_40
  obtain ⟨hx_48, h⟩ := h
  obtain ⟨p_43, hp_44, h⟩ := h
  obtain ⟨c_45, s_46, hc_47, h⟩ := h
  refine rn_na rfl hx_48.1 hx_48.2 hp_44 hc_47.1 hc_47.2 ?_
  show Zr sc 105 47 [zp a0, .ref 0, zj x2] [zp p_43, zp a0] ((((((((w_6.set a0 (zob 7 [zp p_1, f1_15, zj f2_16, zj f3_17, zj f4_18, zj f5_19, f6_20, zj f7_21, f8_22, f9_23, f10_24, zj f11_25, zj f12_26, f13_27, zj f14_28, f15_29, zj f16_30])).set a0 (zob 7 [zp p_1, f1_15, zj f2_16, zj f3_17, zj 4, zj f5_19, f6_20, zj f7_21, f8_22, f9_23, f10_24, zj f11_25, zj f12_26, f13_27, zj f14_28, f15_29, zj f16_30])).set a0 (zob 7 [zp p_1, f1_15, zj f2_16, zj f3_17, zj 4, zj 2, f6_20, zj f7_21, f8_22, f9_23, f10_24, zj f11_25, zj f12_26, f13_27, zj f14_28, f15_29, zj f16_30])) ++ [za (List.replicate (1024 : Int).toNat (0 : Int))]).set a0 (zob 7 [zp p_1, f1_15, zj f2_16, zj f3_17, zj 4, zj 2, zp p_31, zj f7_21, f8_22, f9_23, f10_24, zj f11_25, zj f12_26, f13_27, zj f14_28, f15_29, zj f16_30])) ++ [za (List.replicate (81 : Int).toNat (0 : Int))]).set a0 (zob 7 [zp p_1, f1_15, zj f2_16, zj f3_17, zj 4, zj 2, zp p_31, zj f7_21, zp p_37, f9_23, f10_24, zj f11_25, zj f12_26, f13_27, zj f14_28, f15_29, zj f16_30])) ++ [za (List.replicate (81 : Int).toNat (0 : Int))]) ov w' c_45 s_46
  refine rl_pf rfl (zw_a (zw_s (zw_a (zw_s (zw_a (zw_s (zw_s (zw_s hw_13)))))))) rfl rfl rfl ?_
  show Zr sc 105 50 [zp a0, .ref 0, zj x2] [] (((((((((w_6.set a0 (zob 7 [zp p_1, f1_15, zj f2_16, zj f3_17, zj f4_18, zj f5_19, f6_20, zj f7_21, f8_22, f9_23, f10_24, zj f11_25, zj f12_26, f13_27, zj f14_28, f15_29, zj f16_30])).set a0 (zob 7 [zp p_1, f1_15, zj f2_16, zj f3_17, zj 4, zj f5_19, f6_20, zj f7_21, f8_22, f9_23, f10_24, zj f11_25, zj f12_26, f13_27, zj f14_28, f15_29, zj f16_30])).set a0 (zob 7 [zp p_1, f1_15, zj f2_16, zj f3_17, zj 4, zj 2, f6_20, zj f7_21, f8_22, f9_23, f10_24, zj f11_25, zj f12_26, f13_27, zj f14_28, f15_29, zj f16_30])) ++ [za (List.replicate (1024 : Int).toNat (0 : Int))]).set a0 (zob 7 [zp p_1, f1_15, zj f2_16, zj f3_17, zj 4, zj 2, zp p_31, zj f7_21, f8_22, f9_23, f10_24, zj f11_25, zj f12_26, f13_27, zj f14_28, f15_29, zj f16_30])) ++ [za (List.replicate (81 : Int).toNat (0 : Int))]).set a0 (zob 7 [zp p_1, f1_15, zj f2_16, zj f3_17, zj 4, zj 2, zp p_31, zj f7_21, zp p_37, f9_23, f10_24, zj f11_25, zj f12_26, f13_27, zj f14_28, f15_29, zj f16_30])) ++ [za (List.replicate (81 : Int).toNat (0 : Int))]).set a0 (zob 7 [zp p_1, f1_15, zj f2_16, zj f3_17, zj 4, zj 2, zp p_31, zj f7_21, zp p_37, zp p_43, f10_24, zj f11_25, zj f12_26, f13_27, zj f14_28, f15_29, zj f16_30])) ov w' c_45 s_46
  refine Zr_st (q := (51, [zp a0, .ref 0, zj x2], [zp a0])) rfl rfl rfl ?_
  show Zr sc 105 51 [zp a0, .ref 0, zj x2] [zp a0] (((((((((w_6.set a0 (zob 7 [zp p_1, f1_15, zj f2_16, zj f3_17, zj f4_18, zj f5_19, f6_20, zj f7_21, f8_22, f9_23, f10_24, zj f11_25, zj f12_26, f13_27, zj f14_28, f15_29, zj f16_30])).set a0 (zob 7 [zp p_1, f1_15, zj f2_16, zj f3_17, zj 4, zj f5_19, f6_20, zj f7_21, f8_22, f9_23, f10_24, zj f11_25, zj f12_26, f13_27, zj f14_28, f15_29, zj f16_30])).set a0 (zob 7 [zp p_1, f1_15, zj f2_16, zj f3_17, zj 4, zj 2, f6_20, zj f7_21, f8_22, f9_23, f10_24, zj f11_25, zj f12_26, f13_27, zj f14_28, f15_29, zj f16_30])) ++ [za (List.replicate (1024 : Int).toNat (0 : Int))]).set a0 (zob 7 [zp p_1, f1_15, zj f2_16, zj f3_17, zj 4, zj 2, zp p_31, zj f7_21, f8_22, f9_23, f10_24, zj f11_25, zj f12_26, f13_27, zj f14_28, f15_29, zj f16_30])) ++ [za (List.replicate (81 : Int).toNat (0 : Int))]).set a0 (zob 7 [zp p_1, f1_15, zj f2_16, zj f3_17, zj 4, zj 2, zp p_31, zj f7_21, zp p_37, f9_23, f10_24, zj f11_25, zj f12_26, f13_27, zj f14_28, f15_29, zj f16_30])) ++ [za (List.replicate (81 : Int).toNat (0 : Int))]).set a0 (zob 7 [zp p_1, f1_15, zj f2_16, zj f3_17, zj 4, zj 2, zp p_31, zj f7_21, zp p_37, zp p_43, f10_24, zj f11_25, zj f12_26, f13_27, zj f14_28, f15_29, zj f16_30])) ov w' c_45 s_46
  refine rl_bi rfl (by decide) ?_
  show Zr sc 105 53 [zp a0, .ref 0, zj x2] [zj 81, zp a0] (((((((((w_6.set a0 (zob 7 [zp p_1, f1_15, zj f2_16, zj f3_17, zj f4_18, zj f5_19, f6_20, zj f7_21, f8_22, f9_23, f10_24, zj f11_25, zj f12_26, f13_27, zj f14_28, f15_29, zj f16_30])).set a0 (zob 7 [zp p_1, f1_15, zj f2_16, zj f3_17, zj 4, zj f5_19, f6_20, zj f7_21, f8_22, f9_23, f10_24, zj f11_25, zj f12_26, f13_27, zj f14_28, f15_29, zj f16_30])).set a0 (zob 7 [zp p_1, f1_15, zj f2_16, zj f3_17, zj 4, zj 2, f6_20, zj f7_21, f8_22, f9_23, f10_24, zj f11_25, zj f12_26, f13_27, zj f14_28, f15_29, zj f16_30])) ++ [za (List.replicate (1024 : Int).toNat (0 : Int))]).set a0 (zob 7 [zp p_1, f1_15, zj f2_16, zj f3_17, zj 4, zj 2, zp p_31, zj f7_21, f8_22, f9_23, f10_24, zj f11_25, zj f12_26, f13_27, zj f14_28, f15_29, zj f16_30])) ++ [za (List.replicate (81 : Int).toNat (0 : Int))]).set a0 (zob 7 [zp p_1, f1_15, zj f2_16, zj f3_17, zj 4, zj 2, zp p_31, zj f7_21, zp p_37, f9_23, f10_24, zj f11_25, zj f12_26, f13_27, zj f14_28, f15_29, zj f16_30])) ++ [za (List.replicate (81 : Int).toNat (0 : Int))]).set a0 (zob 7 [zp p_1, f1_15, zj f2_16, zj f3_17, zj 4, zj 2, zp p_31, zj f7_21, zp p_37, zp p_43, f10_24, zj f11_25, zj f12_26, f13_27, zj f14_28, f15_29, zj f16_30])) ov w' c_45 s_46
  obtain ⟨hx_54, h⟩ := h
  obtain ⟨p_49, hp_50, h⟩ := h
  obtain ⟨c_51, s_52, hc_53, h⟩ := h
  refine rn_na rfl hx_54.1 hx_54.2 hp_50 hc_53.1 hc_53.2 ?_
  show Zr sc 105 55 [zp a0, .ref 0, zj x2] [zp p_49, zp a0] ((((((((((w_6.set a0 (zob 7 [zp p_1, f1_15, zj f2_16, zj f3_17, zj f4_18, zj f5_19, f6_20, zj f7_21, f8_22, f9_23, f10_24, zj f11_25, zj f12_26, f13_27, zj f14_28, f15_29, zj f16_30])).set a0 (zob 7 [zp p_1, f1_15, zj f2_16, zj f3_17, zj 4, zj f5_19, f6_20, zj f7_21, f8_22, f9_23, f10_24, zj f11_25, zj f12_26, f13_27, zj f14_28, f15_29, zj f16_30])).set a0 (zob 7 [zp p_1, f1_15, zj f2_16, zj f3_17, zj 4, zj 2, f6_20, zj f7_21, f8_22, f9_23, f10_24, zj f11_25, zj f12_26, f13_27, zj f14_28, f15_29, zj f16_30])) ++ [za (List.replicate (1024 : Int).toNat (0 : Int))]).set a0 (zob 7 [zp p_1, f1_15, zj f2_16, zj f3_17, zj 4, zj 2, zp p_31, zj f7_21, f8_22, f9_23, f10_24, zj f11_25, zj f12_26, f13_27, zj f14_28, f15_29, zj f16_30])) ++ [za (List.replicate (81 : Int).toNat (0 : Int))]).set a0 (zob 7 [zp p_1, f1_15, zj f2_16, zj f3_17, zj 4, zj 2, zp p_31, zj f7_21, zp p_37, f9_23, f10_24, zj f11_25, zj f12_26, f13_27, zj f14_28, f15_29, zj f16_30])) ++ [za (List.replicate (81 : Int).toNat (0 : Int))]).set a0 (zob 7 [zp p_1, f1_15, zj f2_16, zj f3_17, zj 4, zj 2, zp p_31, zj f7_21, zp p_37, zp p_43, f10_24, zj f11_25, zj f12_26, f13_27, zj f14_28, f15_29, zj f16_30])) ++ [za (List.replicate (81 : Int).toNat (0 : Int))]) ov w' c_51 s_52
  refine rl_pf rfl (zw_a (zw_s (zw_a (zw_s (zw_a (zw_s (zw_a (zw_s (zw_s (zw_s hw_13)))))))))) rfl rfl rfl ?_
  show Zr sc 105 58 [zp a0, .ref 0, zj x2] [] (((((((((((w_6.set a0 (zob 7 [zp p_1, f1_15, zj f2_16, zj f3_17, zj f4_18, zj f5_19, f6_20, zj f7_21, f8_22, f9_23, f10_24, zj f11_25, zj f12_26, f13_27, zj f14_28, f15_29, zj f16_30])).set a0 (zob 7 [zp p_1, f1_15, zj f2_16, zj f3_17, zj 4, zj f5_19, f6_20, zj f7_21, f8_22, f9_23, f10_24, zj f11_25, zj f12_26, f13_27, zj f14_28, f15_29, zj f16_30])).set a0 (zob 7 [zp p_1, f1_15, zj f2_16, zj f3_17, zj 4, zj 2, f6_20, zj f7_21, f8_22, f9_23, f10_24, zj f11_25, zj f12_26, f13_27, zj f14_28, f15_29, zj f16_30])) ++ [za (List.replicate (1024 : Int).toNat (0 : Int))]).set a0 (zob 7 [zp p_1, f1_15, zj f2_16, zj f3_17, zj 4, zj 2, zp p_31, zj f7_21, f8_22, f9_23, f10_24, zj f11_25, zj f12_26, f13_27, zj f14_28, f15_29, zj f16_30])) ++ [za (List.replicate (81 : Int).toNat (0 : Int))]).set a0 (zob 7 [zp p_1, f1_15, zj f2_16, zj f3_17, zj 4, zj 2, zp p_31, zj f7_21, zp p_37, f9_23, f10_24, zj f11_25, zj f12_26, f13_27, zj f14_28, f15_29, zj f16_30])) ++ [za (List.replicate (81 : Int).toNat (0 : Int))]).set a0 (zob 7 [zp p_1, f1_15, zj f2_16, zj f3_17, zj 4, zj 2, zp p_31, zj f7_21, zp p_37, zp p_43, f10_24, zj f11_25, zj f12_26, f13_27, zj f14_28, f15_29, zj f16_30])) ++ [za (List.replicate (81 : Int).toNat (0 : Int))]).set a0 (zob 7 [zp p_1, f1_15, zj f2_16, zj f3_17, zj 4, zj 2, zp p_31, zj f7_21, zp p_37, zp p_43, zp p_49, zj f11_25, zj f12_26, f13_27, zj f14_28, f15_29, zj f16_30])) ov w' c_51 s_52
  refine Zr_st (q := (59, [zp a0, .ref 0, zj x2], [zp a0])) rfl rfl rfl ?_
  show Zr sc 105 59 [zp a0, .ref 0, zj x2] [zp a0] (((((((((((w_6.set a0 (zob 7 [zp p_1, f1_15, zj f2_16, zj f3_17, zj f4_18, zj f5_19, f6_20, zj f7_21, f8_22, f9_23, f10_24, zj f11_25, zj f12_26, f13_27, zj f14_28, f15_29, zj f16_30])).set a0 (zob 7 [zp p_1, f1_15, zj f2_16, zj f3_17, zj 4, zj f5_19, f6_20, zj f7_21, f8_22, f9_23, f10_24, zj f11_25, zj f12_26, f13_27, zj f14_28, f15_29, zj f16_30])).set a0 (zob 7 [zp p_1, f1_15, zj f2_16, zj f3_17, zj 4, zj 2, f6_20, zj f7_21, f8_22, f9_23, f10_24, zj f11_25, zj f12_26, f13_27, zj f14_28, f15_29, zj f16_30])) ++ [za (List.replicate (1024 : Int).toNat (0 : Int))]).set a0 (zob 7 [zp p_1, f1_15, zj f2_16, zj f3_17, zj 4, zj 2, zp p_31, zj f7_21, f8_22, f9_23, f10_24, zj f11_25, zj f12_26, f13_27, zj f14_28, f15_29, zj f16_30])) ++ [za (List.replicate (81 : Int).toNat (0 : Int))]).set a0 (zob 7 [zp p_1, f1_15, zj f2_16, zj f3_17, zj 4, zj 2, zp p_31, zj f7_21, zp p_37, f9_23, f10_24, zj f11_25, zj f12_26, f13_27, zj f14_28, f15_29, zj f16_30])) ++ [za (List.replicate (81 : Int).toNat (0 : Int))]).set a0 (zob 7 [zp p_1, f1_15, zj f2_16, zj f3_17, zj 4, zj 2, zp p_31, zj f7_21, zp p_37, zp p_43, f10_24, zj f11_25, zj f12_26, f13_27, zj f14_28, f15_29, zj f16_30])) ++ [za (List.replicate (81 : Int).toNat (0 : Int))]).set a0 (zob 7 [zp p_1, f1_15, zj f2_16, zj f3_17, zj 4, zj 2, zp p_31, zj f7_21, zp p_37, zp p_43, zp p_49, zj f11_25, zj f12_26, f13_27, zj f14_28, f15_29, zj f16_30])) ov w' c_51 s_52
  refine rl_ic rfl ?_
  show Zr sc 105 60 [zp a0, .ref 0, zj x2] [zj 5, zp a0] (((((((((((w_6.set a0 (zob 7 [zp p_1, f1_15, zj f2_16, zj f3_17, zj f4_18, zj f5_19, f6_20, zj f7_21, f8_22, f9_23, f10_24, zj f11_25, zj f12_26, f13_27, zj f14_28, f15_29, zj f16_30])).set a0 (zob 7 [zp p_1, f1_15, zj f2_16, zj f3_17, zj 4, zj f5_19, f6_20, zj f7_21, f8_22, f9_23, f10_24, zj f11_25, zj f12_26, f13_27, zj f14_28, f15_29, zj f16_30])).set a0 (zob 7 [zp p_1, f1_15, zj f2_16, zj f3_17, zj 4, zj 2, f6_20, zj f7_21, f8_22, f9_23, f10_24, zj f11_25, zj f12_26, f13_27, zj f14_28, f15_29, zj f16_30])) ++ [za (List.replicate (1024 : Int).toNat (0 : Int))]).set a0 (zob 7 [zp p_1, f1_15, zj f2_16, zj f3_17, zj 4, zj 2, zp p_31, zj f7_21, f8_22, f9_23, f10_24, zj f11_25, zj f12_26, f13_27, zj f14_28, f15_29, zj f16_30])) ++ [za (List.replicate (81 : Int).toNat (0 : Int))]).set a0 (zob 7 [zp p_1, f1_15, zj f2_16, zj f3_17, zj 4, zj 2, zp p_31, zj f7_21, zp p_37, f9_23, f10_24, zj f11_25, zj f12_26, f13_27, zj f14_28, f15_29, zj f16_30])) ++ [za (List.replicate (81 : Int).toNat (0 : Int))]).set a0 (zob 7 [zp p_1, f1_15, zj f2_16, zj f3_17, zj 4, zj 2, zp p_31, zj f7_21, zp p_37, zp p_43, f10_24, zj f11_25, zj f12_26, f13_27, zj f14_28, f15_29, zj f16_30])) ++ [za (List.replicate (81 : Int).toNat (0 : Int))]).set a0 (zob 7 [zp p_1, f1_15, zj f2_16, zj f3_17, zj 4, zj 2, zp p_31, zj f7_21, zp p_37, zp p_43, zp p_49, zj f11_25, zj f12_26, f13_27, zj f14_28, f15_29, zj f16_30])) ov w' c_51 s_52
  obtain ⟨hx_60, h⟩ := h
  obtain ⟨p_55, hp_56, h⟩ := h
  obtain ⟨c_57, s_58, hc_59, h⟩ := h
  refine rn_na rfl hx_60.1 hx_60.2 hp_56 hc_59.1 hc_59.2 ?_
  show Zr sc 105 62 [zp a0, .ref 0, zj x2] [zp p_55, zp a0] ((((((((((((w_6.set a0 (zob 7 [zp p_1, f1_15, zj f2_16, zj f3_17, zj f4_18, zj f5_19, f6_20, zj f7_21, f8_22, f9_23, f10_24, zj f11_25, zj f12_26, f13_27, zj f14_28, f15_29, zj f16_30])).set a0 (zob 7 [zp p_1, f1_15, zj f2_16, zj f3_17, zj 4, zj f5_19, f6_20, zj f7_21, f8_22, f9_23, f10_24, zj f11_25, zj f12_26, f13_27, zj f14_28, f15_29, zj f16_30])).set a0 (zob 7 [zp p_1, f1_15, zj f2_16, zj f3_17, zj 4, zj 2, f6_20, zj f7_21, f8_22, f9_23, f10_24, zj f11_25, zj f12_26, f13_27, zj f14_28, f15_29, zj f16_30])) ++ [za (List.replicate (1024 : Int).toNat (0 : Int))]).set a0 (zob 7 [zp p_1, f1_15, zj f2_16, zj f3_17, zj 4, zj 2, zp p_31, zj f7_21, f8_22, f9_23, f10_24, zj f11_25, zj f12_26, f13_27, zj f14_28, f15_29, zj f16_30])) ++ [za (List.replicate (81 : Int).toNat (0 : Int))]).set a0 (zob 7 [zp p_1, f1_15, zj f2_16, zj f3_17, zj 4, zj 2, zp p_31, zj f7_21, zp p_37, f9_23, f10_24, zj f11_25, zj f12_26, f13_27, zj f14_28, f15_29, zj f16_30])) ++ [za (List.replicate (81 : Int).toNat (0 : Int))]).set a0 (zob 7 [zp p_1, f1_15, zj f2_16, zj f3_17, zj 4, zj 2, zp p_31, zj f7_21, zp p_37, zp p_43, f10_24, zj f11_25, zj f12_26, f13_27, zj f14_28, f15_29, zj f16_30])) ++ [za (List.replicate (81 : Int).toNat (0 : Int))]).set a0 (zob 7 [zp p_1, f1_15, zj f2_16, zj f3_17, zj 4, zj 2, zp p_31, zj f7_21, zp p_37, zp p_43, zp p_49, zj f11_25, zj f12_26, f13_27, zj f14_28, f15_29, zj f16_30])) ++ [za (List.replicate (5 : Int).toNat (0 : Int))]) ov w' c_57 s_58
  refine rl_pf rfl (zw_a (zw_s (zw_a (zw_s (zw_a (zw_s (zw_a (zw_s (zw_a (zw_s (zw_s (zw_s hw_13)))))))))))) rfl rfl rfl ?_
  show Zr sc 105 65 [zp a0, .ref 0, zj x2] [] (((((((((((((w_6.set a0 (zob 7 [zp p_1, f1_15, zj f2_16, zj f3_17, zj f4_18, zj f5_19, f6_20, zj f7_21, f8_22, f9_23, f10_24, zj f11_25, zj f12_26, f13_27, zj f14_28, f15_29, zj f16_30])).set a0 (zob 7 [zp p_1, f1_15, zj f2_16, zj f3_17, zj 4, zj f5_19, f6_20, zj f7_21, f8_22, f9_23, f10_24, zj f11_25, zj f12_26, f13_27, zj f14_28, f15_29, zj f16_30])).set a0 (zob 7 [zp p_1, f1_15, zj f2_16, zj f3_17, zj 4, zj 2, f6_20, zj f7_21, f8_22, f9_23, f10_24, zj f11_25, zj f12_26, f13_27, zj f14_28, f15_29, zj f16_30])) ++ [za (List.replicate (1024 : Int).toNat (0 : Int))]).set a0 (zob 7 [zp p_1, f1_15, zj f2_16, zj f3_17, zj 4, zj 2, zp p_31, zj f7_21, f8_22, f9_23, f10_24, zj f11_25, zj f12_26, f13_27, zj f14_28, f15_29, zj f16_30])) ++ [za (List.replicate (81 : Int).toNat (0 : Int))]).set a0 (zob 7 [zp p_1, f1_15, zj f2_16, zj f3_17, zj 4, zj 2, zp p_31, zj f7_21, zp p_37, f9_23, f10_24, zj f11_25, zj f12_26, f13_27, zj f14_28, f15_29, zj f16_30])) ++ [za (List.replicate (81 : Int).toNat (0 : Int))]).set a0 (zob 7 [zp p_1, f1_15, zj f2_16, zj f3_17, zj 4, zj 2, zp p_31, zj f7_21, zp p_37, zp p_43, f10_24, zj f11_25, zj f12_26, f13_27, zj f14_28, f15_29, zj f16_30])) ++ [za (List.replicate (81 : Int).toNat (0 : Int))]).set a0 (zob 7 [zp p_1, f1_15, zj f2_16, zj f3_17, zj 4, zj 2, zp p_31, zj f7_21, zp p_37, zp p_43, zp p_49, zj f11_25, zj f12_26, f13_27, zj f14_28, f15_29, zj f16_30])) ++ [za (List.replicate (5 : Int).toNat (0 : Int))]).set a0 (zob 7 [zp p_1, f1_15, zj f2_16, zj f3_17, zj 4, zj 2, zp p_31, zj f7_21, zp p_37, zp p_43, zp p_49, zj f11_25, zj f12_26, zp p_55, zj f14_28, f15_29, zj f16_30])) ov w' c_57 s_58
  refine Zr_st (q := (66, [zp a0, .ref 0, zj x2], [zp a0])) rfl rfl rfl ?_
  show Zr sc 105 66 [zp a0, .ref 0, zj x2] [zp a0] (((((((((((((w_6.set a0 (zob 7 [zp p_1, f1_15, zj f2_16, zj f3_17, zj f4_18, zj f5_19, f6_20, zj f7_21, f8_22, f9_23, f10_24, zj f11_25, zj f12_26, f13_27, zj f14_28, f15_29, zj f16_30])).set a0 (zob 7 [zp p_1, f1_15, zj f2_16, zj f3_17, zj 4, zj f5_19, f6_20, zj f7_21, f8_22, f9_23, f10_24, zj f11_25, zj f12_26, f13_27, zj f14_28, f15_29, zj f16_30])).set a0 (zob 7 [zp p_1, f1_15, zj f2_16, zj f3_17, zj 4, zj 2, f6_20, zj f7_21, f8_22, f9_23, f10_24, zj f11_25, zj f12_26, f13_27, zj f14_28, f15_29, zj f16_30])) ++ [za (List.replicate (1024 : Int).toNat (0 : Int))]).set a0 (zob 7 [zp p_1, f1_15, zj f2_16, zj f3_17, zj 4, zj 2, zp p_31, zj f7_21, f8_22, f9_23, f10_24, zj f11_25, zj f12_26, f13_27, zj f14_28, f15_29, zj f16_30])) ++ [za (List.replicate (81 : Int).toNat (0 : Int))]).set a0 (zob 7 [zp p_1, f1_15, zj f2_16, zj f3_17, zj 4, zj 2, zp p_31, zj f7_21, zp p_37, f9_23, f10_24, zj f11_25, zj f12_26, f13_27, zj f14_28, f15_29, zj f16_30])) ++ [za (List.replicate (81 : Int).toNat (0 : Int))]).set a0 (zob 7 [zp p_1, f1_15, zj f2_16, zj f3_17, zj 4, zj 2, zp p_31, zj f7_21, zp p_37, zp p_43, f10_24, zj f11_25, zj f12_26, f13_27, zj f14_28, f15_29, zj f16_30])) ++ [za (List.replicate (81 : Int).toNat (0 : Int))]).set a0 (zob 7 [zp p_1, f1_15, zj f2_16, zj f3_17, zj 4, zj 2, zp p_31, zj f7_21, zp p_37, zp p_43, zp p_49, zj f11_25, zj f12_26, f13_27, zj f14_28, f15_29, zj f16_30])) ++ [za (List.replicate (5 : Int).toNat (0 : Int))]).set a0 (zob 7 [zp p_1, f1_15, zj f2_16, zj f3_17, zj 4, zj 2, zp p_31, zj f7_21, zp p_37, zp p_43, zp p_49, zj f11_25, zj f12_26, zp p_55, zj f14_28, f15_29, zj f16_30])) ov w' c_57 s_58
  refine rl_ic rfl ?_
  show Zr sc 105 67 [zp a0, .ref 0, zj x2] [zj 0, zp a0] (((((((((((((w_6.set a0 (zob 7 [zp p_1, f1_15, zj f2_16, zj f3_17, zj f4_18, zj f5_19, f6_20, zj f7_21, f8_22, f9_23, f10_24, zj f11_25, zj f12_26, f13_27, zj f14_28, f15_29, zj f16_30])).set a0 (zob 7 [zp p_1, f1_15, zj f2_16, zj f3_17, zj 4, zj f5_19, f6_20, zj f7_21, f8_22, f9_23, f10_24, zj f11_25, zj f12_26, f13_27, zj f14_28, f15_29, zj f16_30])).set a0 (zob 7 [zp p_1, f1_15, zj f2_16, zj f3_17, zj 4, zj 2, f6_20, zj f7_21, f8_22, f9_23, f10_24, zj f11_25, zj f12_26, f13_27, zj f14_28, f15_29, zj f16_30])) ++ [za (List.replicate (1024 : Int).toNat (0 : Int))]).set a0 (zob 7 [zp p_1, f1_15, zj f2_16, zj f3_17, zj 4, zj 2, zp p_31, zj f7_21, f8_22, f9_23, f10_24, zj f11_25, zj f12_26, f13_27, zj f14_28, f15_29, zj f16_30])) ++ [za (List.replicate (81 : Int).toNat (0 : Int))]).set a0 (zob 7 [zp p_1, f1_15, zj f2_16, zj f3_17, zj 4, zj 2, zp p_31, zj f7_21, zp p_37, f9_23, f10_24, zj f11_25, zj f12_26, f13_27, zj f14_28, f15_29, zj f16_30])) ++ [za (List.replicate (81 : Int).toNat (0 : Int))]).set a0 (zob 7 [zp p_1, f1_15, zj f2_16, zj f3_17, zj 4, zj 2, zp p_31, zj f7_21, zp p_37, zp p_43, f10_24, zj f11_25, zj f12_26, f13_27, zj f14_28, f15_29, zj f16_30])) ++ [za (List.replicate (81 : Int).toNat (0 : Int))]).set a0 (zob 7 [zp p_1, f1_15, zj f2_16, zj f3_17, zj 4, zj 2, zp p_31, zj f7_21, zp p_37, zp p_43, zp p_49, zj f11_25, zj f12_26, f13_27, zj f14_28, f15_29, zj f16_30])) ++ [za (List.replicate (5 : Int).toNat (0 : Int))]).set a0 (zob 7 [zp p_1, f1_15, zj f2_16, zj f3_17, zj 4, zj 2, zp p_31, zj f7_21, zp p_37, zp p_43, zp p_49, zj f11_25, zj f12_26, zp p_55, zj f14_28, f15_29, zj f16_30])) ov w' c_57 s_58
  obtain ⟨hx_66, h⟩ := h
  obtain ⟨p_61, hp_62, h⟩ := h
  obtain ⟨c_63, s_64, hc_65, h⟩ := h
  refine rn_na rfl hx_66.1 hx_66.2 hp_62 hc_65.1 hc_65.2 ?_
  show Zr sc 105 69 [zp a0, .ref 0, zj x2] [zp p_61, zp a0] ((((((((((((((w_6.set a0 (zob 7 [zp p_1, f1_15, zj f2_16, zj f3_17, zj f4_18, zj f5_19, f6_20, zj f7_21, f8_22, f9_23, f10_24, zj f11_25, zj f12_26, f13_27, zj f14_28, f15_29, zj f16_30])).set a0 (zob 7 [zp p_1, f1_15, zj f2_16, zj f3_17, zj 4, zj f5_19, f6_20, zj f7_21, f8_22, f9_23, f10_24, zj f11_25, zj f12_26, f13_27, zj f14_28, f15_29, zj f16_30])).set a0 (zob 7 [zp p_1, f1_15, zj f2_16, zj f3_17, zj 4, zj 2, f6_20, zj f7_21, f8_22, f9_23, f10_24, zj f11_25, zj f12_26, f13_27, zj f14_28, f15_29, zj f16_30])) ++ [za (List.replicate (1024 : Int).toNat (0 : Int))]).set a0 (zob 7 [zp p_1, f1_15, zj f2_16, zj f3_17, zj 4, zj 2, zp p_31, zj f7_21, f8_22, f9_23, f10_24, zj f11_25, zj f12_26, f13_27, zj f14_28, f15_29, zj f16_30])) ++ [za (List.replicate (81 : Int).toNat (0 : Int))]).set a0 (zob 7 [zp p_1, f1_15, zj f2_16, zj f3_17, zj 4, zj 2, zp p_31, zj f7_21, zp p_37, f9_23, f10_24, zj f11_25, zj f12_26, f13_27, zj f14_28, f15_29, zj f16_30])) ++ [za (List.replicate (81 : Int).toNat (0 : Int))]).set a0 (zob 7 [zp p_1, f1_15, zj f2_16, zj f3_17, zj 4, zj 2, zp p_31, zj f7_21, zp p_37, zp p_43, f10_24, zj f11_25, zj f12_26, f13_27, zj f14_28, f15_29, zj f16_30])) ++ [za (List.replicate (81 : Int).toNat (0 : Int))]).set a0 (zob 7 [zp p_1, f1_15, zj f2_16, zj f3_17, zj 4, zj 2, zp p_31, zj f7_21, zp p_37, zp p_43, zp p_49, zj f11_25, zj f12_26, f13_27, zj f14_28, f15_29, zj f16_30])) ++ [za (List.replicate (5 : Int).toNat (0 : Int))]).set a0 (zob 7 [zp p_1, f1_15, zj f2_16, zj f3_17, zj 4, zj 2, zp p_31, zj f7_21, zp p_37, zp p_43, zp p_49, zj f11_25, zj f12_26, zp p_55, zj f14_28, f15_29, zj f16_30])) ++ [za (List.replicate (0 : Int).toNat (0 : Int))]) ov w' c_63 s_64
  refine rl_pf rfl (zw_a (zw_s (zw_a (zw_s (zw_a (zw_s (zw_a (zw_s (zw_a (zw_s (zw_a (zw_s (zw_s (zw_s hw_13)))))))))))))) rfl rfl rfl ?_
  show Zr sc 105 72 [zp a0, .ref 0, zj x2] [] (((((((((((((((w_6.set a0 (zob 7 [zp p_1, f1_15, zj f2_16, zj f3_17, zj f4_18, zj f5_19, f6_20, zj f7_21, f8_22, f9_23, f10_24, zj f11_25, zj f12_26, f13_27, zj f14_28, f15_29, zj f16_30])).set a0 (zob 7 [zp p_1, f1_15, zj f2_16, zj f3_17, zj 4, zj f5_19, f6_20, zj f7_21, f8_22, f9_23, f10_24, zj f11_25, zj f12_26, f13_27, zj f14_28, f15_29, zj f16_30])).set a0 (zob 7 [zp p_1, f1_15, zj f2_16, zj f3_17, zj 4, zj 2, f6_20, zj f7_21, f8_22, f9_23, f10_24, zj f11_25, zj f12_26, f13_27, zj f14_28, f15_29, zj f16_30])) ++ [za (List.replicate (1024 : Int).toNat (0 : Int))]).set a0 (zob 7 [zp p_1, f1_15, zj f2_16, zj f3_17, zj 4, zj 2, zp p_31, zj f7_21, f8_22, f9_23, f10_24, zj f11_25, zj f12_26, f13_27, zj f14_28, f15_29, zj f16_30])) ++ [za (List.replicate (81 : Int).toNat (0 : Int))]).set a0 (zob 7 [zp p_1, f1_15, zj f2_16, zj f3_17, zj 4, zj 2, zp p_31, zj f7_21, zp p_37, f9_23, f10_24, zj f11_25, zj f12_26, f13_27, zj f14_28, f15_29, zj f16_30])) ++ [za (List.replicate (81 : Int).toNat (0 : Int))]).set a0 (zob 7 [zp p_1, f1_15, zj f2_16, zj f3_17, zj 4, zj 2, zp p_31, zj f7_21, zp p_37, zp p_43, f10_24, zj f11_25, zj f12_26, f13_27, zj f14_28, f15_29, zj f16_30])) ++ [za (List.replicate (81 : Int).toNat (0 : Int))]).set a0 (zob 7 [zp p_1, f1_15, zj f2_16, zj f3_17, zj 4, zj 2, zp p_31, zj f7_21, zp p_37, zp p_43, zp p_49, zj f11_25, zj f12_26, f13_27, zj f14_28, f15_29, zj f16_30])) ++ [za (List.replicate (5 : Int).toNat (0 : Int))]).set a0 (zob 7 [zp p_1, f1_15, zj f2_16, zj f3_17, zj 4, zj 2, zp p_31, zj f7_21, zp p_37, zp p_43, zp p_49, zj f11_25, zj f12_26, zp p_55, zj f14_28, f15_29, zj f16_30])) ++ [za (List.replicate (0 : Int).toNat (0 : Int))]).set a0 (zob 7 [zp p_1, f1_15, zj f2_16, zj f3_17, zj 4, zj 2, zp p_31, zj f7_21, zp p_37, zp p_43, zp p_49, zj f11_25, zj f12_26, zp p_55, zj f14_28, zp p_61, zj f16_30])) ov w' c_63 s_64
  refine Zr_st (q := (73, [zp a0, .ref 0, zj x2], [zp a0])) rfl rfl rfl ?_
  show Zr sc 105 73 [zp a0, .ref 0, zj x2] [zp a0] (((((((((((((((w_6.set a0 (zob 7 [zp p_1, f1_15, zj f2_16, zj f3_17, zj f4_18, zj f5_19, f6_20, zj f7_21, f8_22, f9_23, f10_24, zj f11_25, zj f12_26, f13_27, zj f14_28, f15_29, zj f16_30])).set a0 (zob 7 [zp p_1, f1_15, zj f2_16, zj f3_17, zj 4, zj f5_19, f6_20, zj f7_21, f8_22, f9_23, f10_24, zj f11_25, zj f12_26, f13_27, zj f14_28, f15_29, zj f16_30])).set a0 (zob 7 [zp p_1, f1_15, zj f2_16, zj f3_17, zj 4, zj 2, f6_20, zj f7_21, f8_22, f9_23, f10_24, zj f11_25, zj f12_26, f13_27, zj f14_28, f15_29, zj f16_30])) ++ [za (List.replicate (1024 : Int).toNat (0 : Int))]).set a0 (zob 7 [zp p_1, f1_15, zj f2_16, zj f3_17, zj 4, zj 2, zp p_31, zj f7_21, f8_22, f9_23, f10_24, zj f11_25, zj f12_26, f13_27, zj f14_28, f15_29, zj f16_30])) ++ [za (List.replicate (81 : Int).toNat (0 : Int))]).set a0 (zob 7 [zp p_1, f1_15, zj f2_16, zj f3_17, zj 4, zj 2, zp p_31, zj f7_21, zp p_37, f9_23, f10_24, zj f11_25, zj f12_26, f13_27, zj f14_28, f15_29, zj f16_30])) ++ [za (List.replicate (81 : Int).toNat (0 : Int))]).set a0 (zob 7 [zp p_1, f1_15, zj f2_16, zj f3_17, zj 4, zj 2, zp p_31, zj f7_21, zp p_37, zp p_43, f10_24, zj f11_25, zj f12_26, f13_27, zj f14_28, f15_29, zj f16_30])) ++ [za (List.replicate (81 : Int).toNat (0 : Int))]).set a0 (zob 7 [zp p_1, f1_15, zj f2_16, zj f3_17, zj 4, zj 2, zp p_31, zj f7_21, zp p_37, zp p_43, zp p_49, zj f11_25, zj f12_26, f13_27, zj f14_28, f15_29, zj f16_30])) ++ [za (List.replicate (5 : Int).toNat (0 : Int))]).set a0 (zob 7 [zp p_1, f1_15, zj f2_16, zj f3_17, zj 4, zj 2, zp p_31, zj f7_21, zp p_37, zp p_43, zp p_49, zj f11_25, zj f12_26, zp p_55, zj f14_28, f15_29, zj f16_30])) ++ [za (List.replicate (0 : Int).toNat (0 : Int))]).set a0 (zob 7 [zp p_1, f1_15, zj f2_16, zj f3_17, zj 4, zj 2, zp p_31, zj f7_21, zp p_37, zp p_43, zp p_49, zj f11_25, zj f12_26, zp p_55, zj f14_28, zp p_61, zj f16_30])) ov w' c_63 s_64
  refine rl_ic rfl ?_
  show Zr sc 105 74 [zp a0, .ref 0, zj x2] [zj 1, zp a0] (((((((((((((((w_6.set a0 (zob 7 [zp p_1, f1_15, zj f2_16, zj f3_17, zj f4_18, zj f5_19, f6_20, zj f7_21, f8_22, f9_23, f10_24, zj f11_25, zj f12_26, f13_27, zj f14_28, f15_29, zj f16_30])).set a0 (zob 7 [zp p_1, f1_15, zj f2_16, zj f3_17, zj 4, zj f5_19, f6_20, zj f7_21, f8_22, f9_23, f10_24, zj f11_25, zj f12_26, f13_27, zj f14_28, f15_29, zj f16_30])).set a0 (zob 7 [zp p_1, f1_15, zj f2_16, zj f3_17, zj 4, zj 2, f6_20, zj f7_21, f8_22, f9_23, f10_24, zj f11_25, zj f12_26, f13_27, zj f14_28, f15_29, zj f16_30])) ++ [za (List.replicate (1024 : Int).toNat (0 : Int))]).set a0 (zob 7 [zp p_1, f1_15, zj f2_16, zj f3_17, zj 4, zj 2, zp p_31, zj f7_21, f8_22, f9_23, f10_24, zj f11_25, zj f12_26, f13_27, zj f14_28, f15_29, zj f16_30])) ++ [za (List.replicate (81 : Int).toNat (0 : Int))]).set a0 (zob 7 [zp p_1, f1_15, zj f2_16, zj f3_17, zj 4, zj 2, zp p_31, zj f7_21, zp p_37, f9_23, f10_24, zj f11_25, zj f12_26, f13_27, zj f14_28, f15_29, zj f16_30])) ++ [za (List.replicate (81 : Int).toNat (0 : Int))]).set a0 (zob 7 [zp p_1, f1_15, zj f2_16, zj f3_17, zj 4, zj 2, zp p_31, zj f7_21, zp p_37, zp p_43, f10_24, zj f11_25, zj f12_26, f13_27, zj f14_28, f15_29, zj f16_30])) ++ [za (List.replicate (81 : Int).toNat (0 : Int))]).set a0 (zob 7 [zp p_1, f1_15, zj f2_16, zj f3_17, zj 4, zj 2, zp p_31, zj f7_21, zp p_37, zp p_43, zp p_49, zj f11_25, zj f12_26, f13_27, zj f14_28, f15_29, zj f16_30])) ++ [za (List.replicate (5 : Int).toNat (0 : Int))]).set a0 (zob 7 [zp p_1, f1_15, zj f2_16, zj f3_17, zj 4, zj 2, zp p_31, zj f7_21, zp p_37, zp p_43, zp p_49, zj f11_25, zj f12_26, zp p_55, zj f14_28, f15_29, zj f16_30])) ++ [za (List.replicate (0 : Int).toNat (0 : Int))]).set a0 (zob 7 [zp p_1, f1_15, zj f2_16, zj f3_17, zj 4, zj 2, zp p_31, zj f7_21, zp p_37, zp p_43, zp p_49, zj f11_25, zj f12_26, zp p_55, zj f14_28, zp p_61, zj f16_30])) ov w' c_63 s_64
  refine rl_pf rfl (zw_s (zw_a (zw_s (zw_a (zw_s (zw_a (zw_s (zw_a (zw_s (zw_a (zw_s (zw_a (zw_s (zw_s (zw_s hw_13))))))))))))))) rfl rfl rfl ?_
  show Zr sc 105 77 [zp a0, .ref 0, zj x2] [] ((((((((((((((((w_6.set a0 (zob 7 [zp p_1, f1_15, zj f2_16, zj f3_17, zj f4_18, zj f5_19, f6_20, zj f7_21, f8_22, f9_23, f10_24, zj f11_25, zj f12_26, f13_27, zj f14_28, f15_29, zj f16_30])).set a0 (zob 7 [zp p_1, f1_15, zj f2_16, zj f3_17, zj 4, zj f5_19, f6_20, zj f7_21, f8_22, f9_23, f10_24, zj f11_25, zj f12_26, f13_27, zj f14_28, f15_29, zj f16_30])).set a0 (zob 7 [zp p_1, f1_15, zj f2_16, zj f3_17, zj 4, zj 2, f6_20, zj f7_21, f8_22, f9_23, f10_24, zj f11_25, zj f12_26, f13_27, zj f14_28, f15_29, zj f16_30])) ++ [za (List.replicate (1024 : Int).toNat (0 : Int))]).set a0 (zob 7 [zp p_1, f1_15, zj f2_16, zj f3_17, zj 4, zj 2, zp p_31, zj f7_21, f8_22, f9_23, f10_24, zj f11_25, zj f12_26, f13_27, zj f14_28, f15_29, zj f16_30])) ++ [za (List.replicate (81 : Int).toNat (0 : Int))]).set a0 (zob 7 [zp p_1, f1_15, zj f2_16, zj f3_17, zj 4, zj 2, zp p_31, zj f7_21, zp p_37, f9_23, f10_24, zj f11_25, zj f12_26, f13_27, zj f14_28, f15_29, zj f16_30])) ++ [za (List.replicate (81 : Int).toNat (0 : Int))]).set a0 (zob 7 [zp p_1, f1_15, zj f2_16, zj f3_17, zj 4, zj 2, zp p_31, zj f7_21, zp p_37, zp p_43, f10_24, zj f11_25, zj f12_26, f13_27, zj f14_28, f15_29, zj f16_30])) ++ [za (List.replicate (81 : Int).toNat (0 : Int))]).set a0 (zob 7 [zp p_1, f1_15, zj f2_16, zj f3_17, zj 4, zj 2, zp p_31, zj f7_21, zp p_37, zp p_43, zp p_49, zj f11_25, zj f12_26, f13_27, zj f14_28, f15_29, zj f16_30])) ++ [za (List.replicate (5 : Int).toNat (0 : Int))]).set a0 (zob 7 [zp p_1, f1_15, zj f2_16, zj f3_17, zj 4, zj 2, zp p_31, zj f7_21, zp p_37, zp p_43, zp p_49, zj f11_25, zj f12_26, zp p_55, zj f14_28, f15_29, zj f16_30])) ++ [za (List.replicate (0 : Int).toNat (0 : Int))]).set a0 (zob 7 [zp p_1, f1_15, zj f2_16, zj f3_17, zj 4, zj 2, zp p_31, zj f7_21, zp p_37, zp p_43, zp p_49, zj f11_25, zj f12_26, zp p_55, zj f14_28, zp p_61, zj f16_30])).set a0 (zob 7 [zp p_1, f1_15, zj f2_16, zj f3_17, zj 4, zj 2, zp p_31, zj f7_21, zp p_37, zp p_43, zp p_49, zj f11_25, zj f12_26, zp p_55, zj f14_28, zp p_61, zj 1])) ov w' c_63 s_64
  refine Zr_st (q := (78, [zp a0, .ref 0, zj x2], [zp a0])) rfl rfl rfl ?_
  show Zr sc 105 78 [zp a0, .ref 0, zj x2] [zp a0] ((((((((((((((((w_6.set a0 (zob 7 [zp p_1, f1_15, zj f2_16, zj f3_17, zj f4_18, zj f5_19, f6_20, zj f7_21, f8_22, f9_23, f10_24, zj f11_25, zj f12_26, f13_27, zj f14_28, f15_29, zj f16_30])).set a0 (zob 7 [zp p_1, f1_15, zj f2_16, zj f3_17, zj 4, zj f5_19, f6_20, zj f7_21, f8_22, f9_23, f10_24, zj f11_25, zj f12_26, f13_27, zj f14_28, f15_29, zj f16_30])).set a0 (zob 7 [zp p_1, f1_15, zj f2_16, zj f3_17, zj 4, zj 2, f6_20, zj f7_21, f8_22, f9_23, f10_24, zj f11_25, zj f12_26, f13_27, zj f14_28, f15_29, zj f16_30])) ++ [za (List.replicate (1024 : Int).toNat (0 : Int))]).set a0 (zob 7 [zp p_1, f1_15, zj f2_16, zj f3_17, zj 4, zj 2, zp p_31, zj f7_21, f8_22, f9_23, f10_24, zj f11_25, zj f12_26, f13_27, zj f14_28, f15_29, zj f16_30])) ++ [za (List.replicate (81 : Int).toNat (0 : Int))]).set a0 (zob 7 [zp p_1, f1_15, zj f2_16, zj f3_17, zj 4, zj 2, zp p_31, zj f7_21, zp p_37, f9_23, f10_24, zj f11_25, zj f12_26, f13_27, zj f14_28, f15_29, zj f16_30])) ++ [za (List.replicate (81 : Int).toNat (0 : Int))]).set a0 (zob 7 [zp p_1, f1_15, zj f2_16, zj f3_17, zj 4, zj 2, zp p_31, zj f7_21, zp p_37, zp p_43, f10_24, zj f11_25, zj f12_26, f13_27, zj f14_28, f15_29, zj f16_30])) ++ [za (List.replicate (81 : Int).toNat (0 : Int))]).set a0 (zob 7 [zp p_1, f1_15, zj f2_16, zj f3_17, zj 4, zj 2, zp p_31, zj f7_21, zp p_37, zp p_43, zp p_49, zj f11_25, zj f12_26, f13_27, zj f14_28, f15_29, zj f16_30])) ++ [za (List.replicate (5 : Int).toNat (0 : Int))]).set a0 (zob 7 [zp p_1, f1_15, zj f2_16, zj f3_17, zj 4, zj 2, zp p_31, zj f7_21, zp p_37, zp p_43, zp p_49, zj f11_25, zj f12_26, zp p_55, zj f14_28, f15_29, zj f16_30])) ++ [za (List.replicate (0 : Int).toNat (0 : Int))]).set a0 (zob 7 [zp p_1, f1_15, zj f2_16, zj f3_17, zj 4, zj 2, zp p_31, zj f7_21, zp p_37, zp p_43, zp p_49, zj f11_25, zj f12_26, zp p_55, zj f14_28, zp p_61, zj f16_30])).set a0 (zob 7 [zp p_1, f1_15, zj f2_16, zj f3_17, zj 4, zj 2, zp p_31, zj f7_21, zp p_37, zp p_43, zp p_49, zj f11_25, zj f12_26, zp p_55, zj f14_28, zp p_61, zj 1])) ov w' c_63 s_64
  refine Zr_st (q := (79, [zp a0, .ref 0, zj x2], [.ref 0, zp a0])) rfl rfl rfl ?_
  show Zr sc 105 79 [zp a0, .ref 0, zj x2] [.ref 0, zp a0] ((((((((((((((((w_6.set a0 (zob 7 [zp p_1, f1_15, zj f2_16, zj f3_17, zj f4_18, zj f5_19, f6_20, zj f7_21, f8_22, f9_23, f10_24, zj f11_25, zj f12_26, f13_27, zj f14_28, f15_29, zj f16_30])).set a0 (zob 7 [zp p_1, f1_15, zj f2_16, zj f3_17, zj 4, zj f5_19, f6_20, zj f7_21, f8_22, f9_23, f10_24, zj f11_25, zj f12_26, f13_27, zj f14_28, f15_29, zj f16_30])).set a0 (zob 7 [zp p_1, f1_15, zj f2_16, zj f3_17, zj 4, zj 2, f6_20, zj f7_21, f8_22, f9_23, f10_24, zj f11_25, zj f12_26, f13_27, zj f14_28, f15_29, zj f16_30])) ++ [za (List.replicate (1024 : Int).toNat (0 : Int))]).set a0 (zob 7 [zp p_1, f1_15, zj f2_16, zj f3_17, zj 4, zj 2, zp p_31, zj f7_21, f8_22, f9_23, f10_24, zj f11_25, zj f12_26, f13_27, zj f14_28, f15_29, zj f16_30])) ++ [za (List.replicate (81 : Int).toNat (0 : Int))]).set a0 (zob 7 [zp p_1, f1_15, zj f2_16, zj f3_17, zj 4, zj 2, zp p_31, zj f7_21, zp p_37, f9_23, f10_24, zj f11_25, zj f12_26, f13_27, zj f14_28, f15_29, zj f16_30])) ++ [za (List.replicate (81 : Int).toNat (0 : Int))]).set a0 (zob 7 [zp p_1, f1_15, zj f2_16, zj f3_17, zj 4, zj 2, zp p_31, zj f7_21, zp p_37, zp p_43, f10_24, zj f11_25, zj f12_26, f13_27, zj f14_28, f15_29, zj f16_30])) ++ [za (List.replicate (81 : Int).toNat (0 : Int))]).set a0 (zob 7 [zp p_1, f1_15, zj f2_16, zj f3_17, zj 4, zj 2, zp p_31, zj f7_21, zp p_37, zp p_43, zp p_49, zj f11_25, zj f12_26, f13_27, zj f14_28, f15_29, zj f16_30])) ++ [za (List.replicate (5 : Int).toNat (0 : Int))]).set a0 (zob 7 [zp p_1, f1_15, zj f2_16, zj f3_17, zj 4, zj 2, zp p_31, zj f7_21, zp p_37, zp p_43, zp p_49, zj f11_25, zj f12_26, zp p_55, zj f14_28, f15_29, zj f16_30])) ++ [za (List.replicate (0 : Int).toNat (0 : Int))]).set a0 (zob 7 [zp p_1, f1_15, zj f2_16, zj f3_17, zj 4, zj 2, zp p_31, zj f7_21, zp p_37, zp p_43, zp p_49, zj f11_25, zj f12_26, zp p_55, zj f14_28, zp p_61, zj f16_30])).set a0 (zob 7 [zp p_1, f1_15, zj f2_16, zj f3_17, zj 4, zj 2, zp p_31, zj f7_21, zp p_37, zp p_43, zp p_49, zj f11_25, zj f12_26, zp p_55, zj f14_28, zp p_61, zj 1])) ov w' c_63 s_64
  refine rl_pf rfl (zw_s (zw_s (zw_a (zw_s (zw_a (zw_s (zw_a (zw_s (zw_a (zw_s (zw_a (zw_s (zw_a (zw_s (zw_s (zw_s hw_13)))))))))))))))) rfl rfl rfl ?_
  show Zr sc 105 82 [zp a0, .ref 0, zj x2] [] (((((((((((((((((w_6.set a0 (zob 7 [zp p_1, f1_15, zj f2_16, zj f3_17, zj f4_18, zj f5_19, f6_20, zj f7_21, f8_22, f9_23, f10_24, zj f11_25, zj f12_26, f13_27, zj f14_28, f15_29, zj f16_30])).set a0 (zob 7 [zp p_1, f1_15, zj f2_16, zj f3_17, zj 4, zj f5_19, f6_20, zj f7_21, f8_22, f9_23, f10_24, zj f11_25, zj f12_26, f13_27, zj f14_28, f15_29, zj f16_30])).set a0 (zob 7 [zp p_1, f1_15, zj f2_16, zj f3_17, zj 4, zj 2, f6_20, zj f7_21, f8_22, f9_23, f10_24, zj f11_25, zj f12_26, f13_27, zj f14_28, f15_29, zj f16_30])) ++ [za (List.replicate (1024 : Int).toNat (0 : Int))]).set a0 (zob 7 [zp p_1, f1_15, zj f2_16, zj f3_17, zj 4, zj 2, zp p_31, zj f7_21, f8_22, f9_23, f10_24, zj f11_25, zj f12_26, f13_27, zj f14_28, f15_29, zj f16_30])) ++ [za (List.replicate (81 : Int).toNat (0 : Int))]).set a0 (zob 7 [zp p_1, f1_15, zj f2_16, zj f3_17, zj 4, zj 2, zp p_31, zj f7_21, zp p_37, f9_23, f10_24, zj f11_25, zj f12_26, f13_27, zj f14_28, f15_29, zj f16_30])) ++ [za (List.replicate (81 : Int).toNat (0 : Int))]).set a0 (zob 7 [zp p_1, f1_15, zj f2_16, zj f3_17, zj 4, zj 2, zp p_31, zj f7_21, zp p_37, zp p_43, f10_24, zj f11_25, zj f12_26, f13_27, zj f14_28, f15_29, zj f16_30])) ++ [za (List.replicate (81 : Int).toNat (0 : Int))]).set a0 (zob 7 [zp p_1, f1_15, zj f2_16, zj f3_17, zj 4, zj 2, zp p_31, zj f7_21, zp p_37, zp p_43, zp p_49, zj f11_25, zj f12_26, f13_27, zj f14_28, f15_29, zj f16_30])) ++ [za (List.replicate (5 : Int).toNat (0 : Int))]).set a0 (zob 7 [zp p_1, f1_15, zj f2_16, zj f3_17, zj 4, zj 2, zp p_31, zj f7_21, zp p_37, zp p_43, zp p_49, zj f11_25, zj f12_26, zp p_55, zj f14_28, f15_29, zj f16_30])) ++ [za (List.replicate (0 : Int).toNat (0 : Int))]).set a0 (zob 7 [zp p_1, f1_15, zj f2_16, zj f3_17, zj 4, zj 2, zp p_31, zj f7_21, zp p_37, zp p_43, zp p_49, zj f11_25, zj f12_26, zp p_55, zj f14_28, zp p_61, zj f16_30])).set a0 (zob 7 [zp p_1, f1_15, zj f2_16, zj f3_17, zj 4, zj 2, zp p_31, zj f7_21, zp p_37, zp p_43, zp p_49, zj f11_25, zj f12_26, zp p_55, zj f14_28, zp p_61, zj 1])).set a0 (zob 7 [zp p_1, .ref 0, zj f2_16, zj f3_17, zj 4, zj 2, zp p_31, zj f7_21, zp p_37, zp p_43, zp p_49, zj f11_25, zj f12_26, zp p_55, zj f14_28, zp p_61, zj 1])) ov w' c_63 s_64
  refine Zr_st (q := (83, [zp a0, .ref 0, zj x2], [zp a0])) rfl rfl rfl ?_
  show Zr sc 105 83 [zp a0, .ref 0, zj x2] [zp a0] (((((((((((((((((w_6.set a0 (zob 7 [zp p_1, f1_15, zj f2_16, zj f3_17, zj f4_18, zj f5_19, f6_20, zj f7_21, f8_22, f9_23, f10_24, zj f11_25, zj f12_26, f13_27, zj f14_28, f15_29, zj f16_30])).set a0 (zob 7 [zp p_1, f1_15, zj f2_16, zj f3_17, zj 4, zj f5_19, f6_20, zj f7_21, f8_22, f9_23, f10_24, zj f11_25, zj f12_26, f13_27, zj f14_28, f15_29, zj f16_30])).set a0 (zob 7 [zp p_1, f1_15, zj f2_16, zj f3_17, zj 4, zj 2, f6_20, zj f7_21, f8_22, f9_23, f10_24, zj f11_25, zj f12_26, f13_27, zj f14_28, f15_29, zj f16_30])) ++ [za (List.replicate (1024 : Int).toNat (0 : Int))]).set a0 (zob 7 [zp p_1, f1_15, zj f2_16, zj f3_17, zj 4, zj 2, zp p_31, zj f7_21, f8_22, f9_23, f10_24, zj f11_25, zj f12_26, f13_27, zj f14_28, f15_29, zj f16_30])) ++ [za (List.replicate (81 : Int).toNat (0 : Int))]).set a0 (zob 7 [zp p_1, f1_15, zj f2_16, zj f3_17, zj 4, zj 2, zp p_31, zj f7_21, zp p_37, f9_23, f10_24, zj f11_25, zj f12_26, f13_27, zj f14_28, f15_29, zj f16_30])) ++ [za (List.replicate (81 : Int).toNat (0 : Int))]).set a0 (zob 7 [zp p_1, f1_15, zj f2_16, zj f3_17, zj 4, zj 2, zp p_31, zj f7_21, zp p_37, zp p_43, f10_24, zj f11_25, zj f12_26, f13_27, zj f14_28, f15_29, zj f16_30])) ++ [za (List.replicate (81 : Int).toNat (0 : Int))]).set a0 (zob 7 [zp p_1, f1_15, zj f2_16, zj f3_17, zj 4, zj 2, zp p_31, zj f7_21, zp p_37, zp p_43, zp p_49, zj f11_25, zj f12_26, f13_27, zj f14_28, f15_29, zj f16_30])) ++ [za (List.replicate (5 : Int).toNat (0 : Int))]).set a0 (zob 7 [zp p_1, f1_15, zj f2_16, zj f3_17, zj 4, zj 2, zp p_31, zj f7_21, zp p_37, zp p_43, zp p_49, zj f11_25, zj f12_26, zp p_55, zj f14_28, f15_29, zj f16_30])) ++ [za (List.replicate (0 : Int).toNat (0 : Int))]).set a0 (zob 7 [zp p_1, f1_15, zj f2_16, zj f3_17, zj 4, zj 2, zp p_31, zj f7_21, zp p_37, zp p_43, zp p_49, zj f11_25, zj f12_26, zp p_55, zj f14_28, zp p_61, zj f16_30])).set a0 (zob 7 [zp p_1, f1_15, zj f2_16, zj f3_17, zj 4, zj 2, zp p_31, zj f7_21, zp p_37, zp p_43, zp p_49, zj f11_25, zj f12_26, zp p_55, zj f14_28, zp p_61, zj 1])).set a0 (zob 7 [zp p_1, .ref 0, zj f2_16, zj f3_17, zj 4, zj 2, zp p_31, zj f7_21, zp p_37, zp p_43, zp p_49, zj f11_25, zj f12_26, zp p_55, zj f14_28, zp p_61, zj 1])) ov w' c_63 s_64
  refine Zr_st (q := (84, [zp a0, .ref 0, zj x2], [zj x2, zp a0])) rfl rfl rfl ?_
  show Zr sc 105 84 [zp a0, .ref 0, zj x2] [zj x2, zp a0] (((((((((((((((((w_6.set a0 (zob 7 [zp p_1, f1_15, zj f2_16, zj f3_17, zj f4_18, zj f5_19, f6_20, zj f7_21, f8_22, f9_23, f10_24, zj f11_25, zj f12_26, f13_27, zj f14_28, f15_29, zj f16_30])).set a0 (zob 7 [zp p_1, f1_15, zj f2_16, zj f3_17, zj 4, zj f5_19, f6_20, zj f7_21, f8_22, f9_23, f10_24, zj f11_25, zj f12_26, f13_27, zj f14_28, f15_29, zj f16_30])).set a0 (zob 7 [zp p_1, f1_15, zj f2_16, zj f3_17, zj 4, zj 2, f6_20, zj f7_21, f8_22, f9_23, f10_24, zj f11_25, zj f12_26, f13_27, zj f14_28, f15_29, zj f16_30])) ++ [za (List.replicate (1024 : Int).toNat (0 : Int))]).set a0 (zob 7 [zp p_1, f1_15, zj f2_16, zj f3_17, zj 4, zj 2, zp p_31, zj f7_21, f8_22, f9_23, f10_24, zj f11_25, zj f12_26, f13_27, zj f14_28, f15_29, zj f16_30])) ++ [za (List.replicate (81 : Int).toNat (0 : Int))]).set a0 (zob 7 [zp p_1, f1_15, zj f2_16, zj f3_17, zj 4, zj 2, zp p_31, zj f7_21, zp p_37, f9_23, f10_24, zj f11_25, zj f12_26, f13_27, zj f14_28, f15_29, zj f16_30])) ++ [za (List.replicate (81 : Int).toNat (0 : Int))]).set a0 (zob 7 [zp p_1, f1_15, zj f2_16, zj f3_17, zj 4, zj 2, zp p_31, zj f7_21, zp p_37, zp p_43, f10_24, zj f11_25, zj f12_26, f13_27, zj f14_28, f15_29, zj f16_30])) ++ [za (List.replicate (81 : Int).toNat (0 : Int))]).set a0 (zob 7 [zp p_1, f1_15, zj f2_16, zj f3_17, zj 4, zj 2, zp p_31, zj f7_21, zp p_37, zp p_43, zp p_49, zj f11_25, zj f12_26, f13_27, zj f14_28, f15_29, zj f16_30])) ++ [za (List.replicate (5 : Int).toNat (0 : Int))]).set a0 (zob 7 [zp p_1, f1_15, zj f2_16, zj f3_17, zj 4, zj 2, zp p_31, zj f7_21, zp p_37, zp p_43, zp p_49, zj f11_25, zj f12_26, zp p_55, zj f14_28, f15_29, zj f16_30])) ++ [za (List.replicate (0 : Int).toNat (0 : Int))]).set a0 (zob 7 [zp p_1, f1_15, zj f2_16, zj f3_17, zj 4, zj 2, zp p_31, zj f7_21, zp p_37, zp p_43, zp p_49, zj f11_25, zj f12_26, zp p_55, zj f14_28, zp p_61, zj f16_30])).set a0 (zob 7 [zp p_1, f1_15, zj f2_16, zj f3_17, zj 4, zj 2, zp p_31, zj f7_21, zp p_37, zp p_43, zp p_49, zj f11_25, zj f12_26, zp p_55, zj f14_28, zp p_61, zj 1])).set a0 (zob 7 [zp p_1, .ref 0, zj f2_16, zj f3_17, zj 4, zj 2, zp p_31, zj f7_21, zp p_37, zp p_43, zp p_49, zj f11_25, zj f12_26, zp p_55, zj f14_28, zp p_61, zj 1])) ov w' c_63 s_64
  refine rl_pf rfl (zw_s (zw_s (zw_s (zw_a (zw_s (zw_a (zw_s (zw_a (zw_s (zw_a (zw_s (zw_a (zw_s (zw_a (zw_s (zw_s (zw_s hw_13))))))))))))))))) rfl rfl rfl ?_
  show Zr sc 105 87 [zp a0, .ref 0, zj x2] [] ((((((((((((((((((w_6.set a0 (zob 7 [zp p_1, f1_15, zj f2_16, zj f3_17, zj f4_18, zj f5_19, f6_20, zj f7_21, f8_22, f9_23, f10_24, zj f11_25, zj f12_26, f13_27, zj f14_28, f15_29, zj f16_30])).set a0 (zob 7 [zp p_1, f1_15, zj f2_16, zj f3_17, zj 4, zj f5_19, f6_20, zj f7_21, f8_22, f9_23, f10_24, zj f11_25, zj f12_26, f13_27, zj f14_28, f15_29, zj f16_30])).set a0 (zob 7 [zp p_1, f1_15, zj f2_16, zj f3_17, zj 4, zj 2, f6_20, zj f7_21, f8_22, f9_23, f10_24, zj f11_25, zj f12_26, f13_27, zj f14_28, f15_29, zj f16_30])) ++ [za (List.replicate (1024 : Int).toNat (0 : Int))]).set a0 (zob 7 [zp p_1, f1_15, zj f2_16, zj f3_17, zj 4, zj 2, zp p_31, zj f7_21, f8_22, f9_23, f10_24, zj f11_25, zj f12_26, f13_27, zj f14_28, f15_29, zj f16_30])) ++ [za (List.replicate (81 : Int).toNat (0 : Int))]).set a0 (zob 7 [zp p_1, f1_15, zj f2_16, zj f3_17, zj 4, zj 2, zp p_31, zj f7_21, zp p_37, f9_23, f10_24, zj f11_25, zj f12_26, f13_27, zj f14_28, f15_29, zj f16_30])) ++ [za (List.replicate (81 : Int).toNat (0 : Int))]).set a0 (zob 7 [zp p_1, f1_15, zj f2_16, zj f3_17, zj 4, zj 2, zp p_31, zj f7_21, zp p_37, zp p_43, f10_24, zj f11_25, zj f12_26, f13_27, zj f14_28, f15_29, zj f16_30])) ++ [za (List.replicate (81 : Int).toNat (0 : Int))]).set a0 (zob 7 [zp p_1, f1_15, zj f2_16, zj f3_17, zj 4, zj 2, zp p_31, zj f7_21, zp p_37, zp p_43, zp p_49, zj f11_25, zj f12_26, f13_27, zj f14_28, f15_29, zj f16_30])) ++ [za (List.replicate (5 : Int).toNat (0 : Int))]).set a0 (zob 7 [zp p_1, f1_15, zj f2_16, zj f3_17, zj 4, zj 2, zp p_31, zj f7_21, zp p_37, zp p_43, zp p_49, zj f11_25, zj f12_26, zp p_55, zj f14_28, f15_29, zj f16_30])) ++ [za (List.replicate (0 : Int).toNat (0 : Int))]).set a0 (zob 7 [zp p_1, f1_15, zj f2_16, zj f3_17, zj 4, zj 2, zp p_31, zj f7_21, zp p_37, zp p_43, zp p_49, zj f11_25, zj f12_26, zp p_55, zj f14_28, zp p_61, zj f16_30])).set a0 (zob 7 [zp p_1, f1_15, zj f2_16, zj f3_17, zj 4, zj 2, zp p_31, zj f7_21, zp p_37, zp p_43, zp p_49, zj f11_25, zj f12_26, zp p_55, zj f14_28, zp p_61, zj 1])).set a0 (zob 7 [zp p_1, .ref 0, zj f2_16, zj f3_17, zj 4, zj 2, zp p_31, zj f7_21, zp p_37, zp p_43, zp p_49, zj f11_25, zj f12_26, zp p_55, zj f14_28, zp p_61, zj 1])).set a0 (zob 7 [zp p_1, .ref 0, zj x2, zj f3_17, zj 4, zj 2, zp p_31, zj f7_21, zp p_37, zp p_43, zp p_49, zj f11_25, zj f12_26, zp p_55, zj f14_28, zp p_61, zj 1])) ov w' c_63 s_64
  refine Zr_st (q := (88, [zp a0, .ref 0, zj x2], [zp a0])) rfl rfl rfl ?_
  show Zr sc 105 88 [zp a0, .ref 0, zj x2] [zp a0] ((((((((((((((((((w_6.set a0 (zob 7 [zp p_1, f1_15, zj f2_16, zj f3_17, zj f4_18, zj f5_19, f6_20, zj f7_21, f8_22, f9_23, f10_24, zj f11_25, zj f12_26, f13_27, zj f14_28, f15_29, zj f16_30])).set a0 (zob 7 [zp p_1, f1_15, zj f2_16, zj f3_17, zj 4, zj f5_19, f6_20, zj f7_21, f8_22, f9_23, f10_24, zj f11_25, zj f12_26, f13_27, zj f14_28, f15_29, zj f16_30])).set a0 (zob 7 [zp p_1, f1_15, zj f2_16, zj f3_17, zj 4, zj 2, f6_20, zj f7_21, f8_22, f9_23, f10_24, zj f11_25, zj f12_26, f13_27, zj f14_28, f15_29, zj f16_30])) ++ [za (List.replicate (1024 : Int).toNat (0 : Int))]).set a0 (zob 7 [zp p_1, f1_15, zj f2_16, zj f3_17, zj 4, zj 2, zp p_31, zj f7_21, f8_22, f9_23, f10_24, zj f11_25, zj f12_26, f13_27, zj f14_28, f15_29, zj f16_30])) ++ [za (List.replicate (81 : Int).toNat (0 : Int))]).set a0 (zob 7 [zp p_1, f1_15, zj f2_16, zj f3_17, zj 4, zj 2, zp p_31, zj f7_21, zp p_37, f9_23, f10_24, zj f11_25, zj f12_26, f13_27, zj f14_28, f15_29, zj f16_30])) ++ [za (List.replicate (81 : Int).toNat (0 : Int))]).set a0 (zob 7 [zp p_1, f1_15, zj f2_16, zj f3_17, zj 4, zj 2, zp p_31, zj f7_21, zp p_37, zp p_43, f10_24, zj f11_25, zj f12_26, f13_27, zj f14_28, f15_29, zj f16_30])) ++ [za (List.replicate (81 : Int).toNat (0 : Int))]).set a0 (zob 7 [zp p_1, f1_15, zj f2_16, zj f3_17, zj 4, zj 2, zp p_31, zj f7_21, zp p_37, zp p_43, zp p_49, zj f11_25, zj f12_26, f13_27, zj f14_28, f15_29, zj f16_30])) ++ [za (List.replicate (5 : Int).toNat (0 : Int))]).set a0 (zob 7 [zp p_1, f1_15, zj f2_16, zj f3_17, zj 4, zj 2, zp p_31, zj f7_21, zp p_37, zp p_43, zp p_49, zj f11_25, zj f12_26, zp p_55, zj f14_28, f15_29, zj f16_30])) ++ [za (List.replicate (0 : Int).toNat (0 : Int))]).set a0 (zob 7 [zp p_1, f1_15, zj f2_16, zj f3_17, zj 4, zj 2, zp p_31, zj f7_21, zp p_37, zp p_43, zp p_49, zj f11_25, zj f12_26, zp p_55, zj f14_28, zp p_61, zj f16_30])).set a0 (zob 7 [zp p_1, f1_15, zj f2_16, zj f3_17, zj 4, zj 2, zp p_31, zj f7_21, zp p_37, zp p_43, zp p_49, zj f11_25, zj f12_26, zp p_55, zj f14_28, zp p_61, zj 1])).set a0 (zob 7 [zp p_1, .ref 0, zj f2_16, zj f3_17, zj 4, zj 2, zp p_31, zj f7_21, zp p_37, zp p_43, zp p_49, zj f11_25, zj f12_26, zp p_55, zj f14_28, zp p_61, zj 1])).set a0 (zob 7 [zp p_1, .ref 0, zj x2, zj f3_17, zj 4, zj 2, zp p_31, zj f7_21, zp p_37, zp p_43, zp p_49, zj f11_25, zj f12_26, zp p_55, zj f14_28, zp p_61, zj 1])) ov w' c_63 s_64
  obtain ⟨w_67, hk_68, h⟩ := h
  refine rn_cal0 (ins := .invokevirtual 52) (rest := []) rfl rfl rfl rfl (zinv_v (fs := _) (zw_s (zw_s (zw_s (zw_s (zw_a (zw_s (zw_a (zw_s (zw_a (zw_s (zw_a (zw_s (zw_a (zw_s (zw_a (zw_s (zw_s (zw_s hw_13)))))))))))))))))) rfl rfl rfl rfl) rfl rfl hk_68 ?_
  show Zr sc 105 91 [zp a0, .ref 0, zj x2] [] w_67 ov w' c_63 s_64
  obtain ⟨h1, h2, h3, h4⟩ := h
  subst h1; subst h2; subst h3; subst h4
  exact Zr_ret (ins := .return_) rfl rfl

-- HeapwrightLab.<init>()V
set_option maxRecDepth 100000 in
theorem V106_0 {sc : List Value} {w w' : List zE} {ov : Option Value} {c s : Nat} {a0 : Nat} (h : (∃ p_1 : Nat, p_1 = w.length ∧ (∃ c_3 s_4 : Nat, (c = 1 + c_3 ∧ s = 4 + s_4) ∧ (∃ w_6 : List zE, ∃ c_8 s_9 c_10 s_11 : Nat, Zc sc 107 [zp p_1] (w ++ [zob 5 [.null, .null, .null, zj 0]]) none w_6 c_8 s_9 ∧ (c_3 = c_8 + c_10 ∧ s_4 = s_9 + s_11) ∧ (∃ f0_14 : Value, ∃ f1_15 : Value, ∃ f2_16 : Value, ∃ f3_17 : Value, ∃ f4_18 : Value, ∃ f5_19 : Value, ∃ f6_20 : Value, ∃ f7_21 : Int, w_6[a0]? = some (zob 6 [f0_14, f1_15, f2_16, f3_17, f4_18, f5_19, f6_20, zj f7_21]) ∧ (∃ p_22 : Nat, p_22 = (w_6.set a0 (zob 6 [zp p_1, f1_15, f2_16, f3_17, f4_18, f5_19, f6_20, zj f7_21])).length ∧ (∃ c_24 s_25 : Nat, (c_10 = 1 + c_24 ∧ s_11 = 13 + s_25) ∧ (∃ w_27 : List zE, ∃ c_29 s_30 c_31 s_32 : Nat, Zc sc 108 [zp p_22, zj 0] ((w_6.set a0 (zob 6 [zp p_1, f1_15, f2_16, f3_17, f4_18, f5_19, f6_20, zj f7_21])) ++ [zob 2 [.null, .null, zj 0, zj 0, zj 0, zj 0, zj 0, .null, .null, zj 0, zj 0, zj 0, zj 0]]) none w_27 c_29 s_30 ∧ (c_24 = c_29 + c_31 ∧ s_25 = s_30 + s_32) ∧ (∃ f0_35 : Value, ∃ f1_36 : Value, ∃ f2_37 : Value, ∃ f3_38 : Value, ∃ f4_39 : Value, ∃ f5_40 : Value, ∃ f6_41 : Value, ∃ f7_42 : Int, w_27[a0]? = some (zob 6 [f0_35, f1_36, f2_37, f3_38, f4_39, f5_40, f6_41, zj f7_42]) ∧ (∃ p_43 : Nat, p_43 = (w_27.set a0 (zob 6 [f0_35, zp p_22, f2_37, f3_38, f4_39, f5_40, f6_41, zj f7_42])).length ∧ (∃ c_45 s_46 : Nat, (c_31 = 1 + c_45 ∧ s_32 = 13 + s_46) ∧ (∃ w_48 : List zE, ∃ c_50 s_51 c_52 s_53 : Nat, Zc sc 108 [zp p_43, zj 1] ((w_27.set a0 (zob 6 [f0_35, zp p_22, f2_37, f3_38, f4_39, f5_40, f6_41, zj f7_42])) ++ [zob 2 [.null, .null, zj 0, zj 0, zj 0, zj 0, zj 0, .null, .null, zj 0, zj 0, zj 0, zj 0]]) none w_48 c_50 s_51 ∧ (c_45 = c_50 + c_52 ∧ s_46 = s_51 + s_53) ∧ (∃ f0_56 : Value, ∃ f1_57 : Value, ∃ f2_58 : Value, ∃ f3_59 : Value, ∃ f4_60 : Value, ∃ f5_61 : Value, ∃ f6_62 : Value, ∃ f7_63 : Int, w_48[a0]? = some (zob 6 [f0_56, f1_57, f2_58, f3_59, f4_60, f5_61, f6_62, zj f7_63]) ∧ (∃ p_64 : Nat, p_64 = (w_48.set a0 (zob 6 [f0_56, f1_57, zp p_43, f3_59, f4_60, f5_61, f6_62, zj f7_63])).length ∧ (∃ c_66 s_67 : Nat, (c_52 = 1 + c_66 ∧ s_53 = 13 + s_67) ∧ (∃ w_69 : List zE, ∃ c_71 s_72 c_73 s_74 : Nat, Zc sc 108 [zp p_64, zj 2] ((w_48.set a0 (zob 6 [f0_56, f1_57, zp p_43, f3_59, f4_60, f5_61, f6_62, zj f7_63])) ++ [zob 2 [.null, .null, zj 0, zj 0, zj 0, zj 0, zj 0, .null, .null, zj 0, zj 0, zj 0, zj 0]]) none w_69 c_71 s_72 ∧ (c_66 = c_71 + c_73 ∧ s_67 = s_72 + s_74) ∧ (∃ f0_77 : Value, ∃ f1_78 : Value, ∃ f2_79 : Value, ∃ f3_80 : Value, ∃ f4_81 : Value, ∃ f5_82 : Value, ∃ f6_83 : Value, ∃ f7_84 : Int, w_69[a0]? = some (zob 6 [f0_77, f1_78, f2_79, f3_80, f4_81, f5_82, f6_83, zj f7_84]) ∧ (∃ p_85 : Nat, p_85 = (w_69.set a0 (zob 6 [f0_77, f1_78, f2_79, zp p_64, f4_81, f5_82, f6_83, zj f7_84])).length ∧ (∃ c_87 s_88 : Nat, (c_73 = 1 + c_87 ∧ s_74 = 13 + s_88) ∧ (∃ w_90 : List zE, ∃ c_92 s_93 c_94 s_95 : Nat, Zc sc 108 [zp p_85, zj 3] ((w_69.set a0 (zob 6 [f0_77, f1_78, f2_79, zp p_64, f4_81, f5_82, f6_83, zj f7_84])) ++ [zob 2 [.null, .null, zj 0, zj 0, zj 0, zj 0, zj 0, .null, .null, zj 0, zj 0, zj 0, zj 0]]) none w_90 c_92 s_93 ∧ (c_87 = c_92 + c_94 ∧ s_88 = s_93 + s_95) ∧ (∃ f0_98 : Value, ∃ f1_99 : Value, ∃ f2_100 : Value, ∃ f3_101 : Value, ∃ f4_102 : Value, ∃ f5_103 : Value, ∃ f6_104 : Value, ∃ f7_105 : Int, w_90[a0]? = some (zob 6 [f0_98, f1_99, f2_100, f3_101, f4_102, f5_103, f6_104, zj f7_105]) ∧ (∃ p_106 : Nat, p_106 = (w_90.set a0 (zob 6 [f0_98, f1_99, f2_100, f3_101, zp p_85, f5_103, f6_104, zj f7_105])).length ∧ (∃ c_108 s_109 : Nat, (c_94 = 1 + c_108 ∧ s_95 = 13 + s_109) ∧ (∃ w_111 : List zE, ∃ c_113 s_114 c_115 s_116 : Nat, Zc sc 112 [zp p_106] ((w_90.set a0 (zob 6 [f0_98, f1_99, f2_100, f3_101, zp p_85, f5_103, f6_104, zj f7_105])) ++ [zob 1 [.null, .null, zj 0, zj 0, zj 0, zj 0, zj 0, .null, .null, zj 0, zj 0, zj 0, zj 0]]) none w_111 c_113 s_114 ∧ (c_108 = c_113 + c_115 ∧ s_109 = s_114 + s_116) ∧ (∃ f0_119 : Value, ∃ f1_120 : Value, ∃ f2_121 : Value, ∃ f3_122 : Value, ∃ f4_123 : Value, ∃ f5_124 : Value, ∃ f6_125 : Value, ∃ f7_126 : Int, w_111[a0]? = some (zob 6 [f0_119, f1_120, f2_121, f3_122, f4_123, f5_124, f6_125, zj f7_126]) ∧ (∃ p_127 : Nat, p_127 = (w_111.set a0 (zob 6 [f0_119, f1_120, f2_121, f3_122, f4_123, zp p_106, f6_125, zj f7_126])).length ∧ (∃ c_129 s_130 : Nat, (c_115 = 1 + c_129 ∧ s_116 = 14 + s_130) ∧ (∃ w_132 : List zE, ∃ c_134 s_135 c_136 s_137 : Nat, Zc sc 113 [zp p_127] ((w_111.set a0 (zob 6 [f0_119, f1_120, f2_121, f3_122, f4_123, zp p_106, f6_125, zj f7_126])) ++ [zob 4 [.null, .null, zj 0, zj 0, zj 0, zj 0, zj 0, .null, .null, zj 0, zj 0, zj 0, zj 0, .null]]) none w_132 c_134 s_135 ∧ (c_129 = c_134 + c_136 ∧ s_130 = s_135 + s_137) ∧ (∃ f0_140 : Value, ∃ f1_141 : Value, ∃ f2_142 : Value, ∃ f3_143 : Value, ∃ f4_144 : Value, ∃ f5_145 : Value, ∃ f6_146 : Value, ∃ f7_147 : Int, w_132[a0]? = some (zob 6 [f0_140, f1_141, f2_142, f3_143, f4_144, f5_145, f6_146, zj f7_147]) ∧ (ov = none ∧ w' = ((w_132.set a0 (zob 6 [f0_140, f1_141, f2_142, f3_143, f4_144, f5_145, zp p_127, zj f7_147])).set a0 (zob 6 [f0_140, f1_141, f2_142, f3_143, f4_144, f5_145, zp p_127, zj 0])) ∧ c_136 = 0 ∧ s_137 = 0)))))))))))))))))))))))))))))) : Zr sc 106 0 [zp a0] [] w ov w' c s := by
  refine Zr_st (q := (1, [zp a0], [zp a0])) rfl rfl rfl ?_
  show Zr sc 106 1 [zp a0] [zp a0] w ov w' c s
  refine Zr_obj (ins := .invokespecial 3) (rest := []) rfl rfl rfl rfl (zinv_s2 (rest := []) rfl rfl rfl rfl rfl) rfl ?_
  show Zr sc 106 4 [zp a0] [] w ov w' c s
  refine Zr_st (q := (5, [zp a0], [zp a0])) rfl rfl rfl ?_
  show Zr sc 106 5 [zp a0] [zp a0] w ov w' c s
  obtain ⟨p_1, hp_2, h⟩ := h
  obtain ⟨c_3, s_4, hc_5, h⟩ := h
  refine rn_new (X := zob 5 [.null, .null, .null, zj 0]) rfl rfl hp_2 rfl hc_5.1 hc_5.2 ?_
  show Zr sc 106 8 [zp a0] [zp p_1, zp a0] (w ++ [zob 5 [.null, .null, .null, zj 0]]) ov w' c_3 s_4
  refine Zr_st (q := (9, [zp a0], [zp p_1, zp p_1, zp a0])) rfl rfl rfl ?_
  show Zr sc 106 9 [zp a0] [zp p_1, zp p_1, zp a0] (w ++ [zob 5 [.null, .null, .null, zj 0]]) ov w' c_3 s_4
  obtain ⟨w_6, c_8, s_9, c_10, s_11, hk_7, hc_12, h⟩ := h
  refine rl_cal (ins := .invokespecial 11) (rest := [zp p_1, zp a0]) rfl rfl rfl rfl (zinv_s rfl rfl rfl rfl) rfl rfl hk_7 ?_ hc_12.1 hc_12.2
  show Zr sc 106 12 [zp a0] [zp p_1, zp a0] w_6 ov w' c_10 s_11
  obtain ⟨f0_14, f1_15, f2_16, f3_17, f4_18, f5_19, f6_20, f7_21, hw_13, h⟩ := h
  refine rl_pf rfl hw_13 rfl rfl rfl ?_
  show Zr sc 106 15 [zp a0] [] (w_6.set a0 (zob 6 [zp p_1, f1_15, f2_16, f3_17, f4_18, f5_19, f6_20, zj f7_21])) ov w' c_10 s_11
  refine Zr_st (q := (16, [zp a0], [zp a0])) rfl rfl rfl ?_
  show Zr sc 106 16 [zp a0] [zp a0] (w_6.set a0 (zob 6 [zp p_1, f1_15, f2_16, f3_17, f4_18, f5_19, f6_20, zj f7_21])) ov w' c_10 s_11
  obtain ⟨p_22, hp_23, h⟩ := h
  obtain ⟨c_24, s_25, hc_26, h⟩ := h
  refine rn_new (X := zob 2 [.null, .null, zj 0, zj 0, zj 0, zj 0, zj 0, .null, .null, zj 0, zj 0, zj 0, zj 0]) rfl rfl hp_23 rfl hc_26.1 hc_26.2 ?_
  show Zr sc 106 19 [zp a0] [zp p_22, zp a0] ((w_6.set a0 (zob 6 [zp p_1, f1_15, f2_16, f3_17, f4_18, f5_19, f6_20, zj f7_21])) ++ [zob 2 [.null, .null, zj 0, zj 0, zj 0, zj 0, zj 0, .null, .null, zj 0, zj 0, zj 0, zj 0]]) ov w' c_24 s_25
  refine Zr_st (q := (20, [zp a0], [zp p_22, zp p_22, zp a0])) rfl rfl rfl ?_
  show Zr sc 106 20 [zp a0] [zp p_22, zp p_22, zp a0] ((w_6.set a0 (zob 6 [zp p_1, f1_15, f2_16, f3_17, f4_18, f5_19, f6_20, zj f7_21])) ++ [zob 2 [.null, .null, zj 0, zj 0, zj 0, zj 0, zj 0, .null, .null, zj 0, zj 0, zj 0, zj 0]]) ov w' c_24 s_25
  refine rl_ic rfl ?_
  show Zr sc 106 21 [zp a0] [zj 0, zp p_22, zp p_22, zp a0] ((w_6.set a0 (zob 6 [zp p_1, f1_15, f2_16, f3_17, f4_18, f5_19, f6_20, zj f7_21])) ++ [zob 2 [.null, .null, zj 0, zj 0, zj 0, zj 0, zj 0, .null, .null, zj 0, zj 0, zj 0, zj 0]]) ov w' c_24 s_25
  obtain ⟨w_27, c_29, s_30, c_31, s_32, hk_28, hc_33, h⟩ := h
  refine rl_cal (ins := .invokespecial 18) (rest := [zp p_22, zp a0]) rfl rfl rfl rfl (zinv_s rfl rfl rfl rfl) rfl rfl hk_28 ?_ hc_33.1 hc_33.2
  show Zr sc 106 24 [zp a0] [zp p_22, zp a0] w_27 ov w' c_31 s_32
  obtain ⟨f0_35, f1_36, f2_37, f3_38, f4_39, f5_40, f6_41, f7_42, hw_34, h⟩ := h
  refine rl_pf rfl hw_34 rfl rfl rfl ?_
  show Zr sc 106 27 [zp a0] [] (w_27.set a0 (zob 6 [f0_35, zp p_22, f2_37, f3_38, f4_39, f5_40, f6_41, zj f7_42])) ov w' c_31 s_32
  refine Zr_st (q := (28, [zp a0], [zp a0])) rfl rfl rfl ?_
  show Zr sc 106 28 [zp a0] [zp a0] (w_27.set a0 (zob 6 [f0_35, zp p_22, f2_37, f3_38, f4_39, f5_40, f6_41, zj f7_42])) ov w' c_31 s_32
  obtain ⟨p_43, hp_44, h⟩ := h
  obtain ⟨c_45, s_46, hc_47, h⟩ := h
  refine rn_new (X := zob 2 [.null, .null, zj 0, zj 0, zj 0, zj 0, zj 0, .null, .null, zj 0, zj 0, zj 0, zj 0]) rfl rfl hp_44 rfl hc_47.1 hc_47.2 ?_
  show Zr sc 106 31 [zp a0] [zp p_43, zp a0] ((w_27.set a0 (zob 6 [f0_35, zp p_22, f2_37, f3_38, f4_39, f5_40, f6_41, zj f7_42])) ++ [zob 2 [.null, .null, zj 0, zj 0, zj 0, zj 0, zj 0, .null, .null, zj 0, zj 0, zj 0, zj 0]]) ov w' c_45 s_46
  refine Zr_st (q := (32, [zp a0], [zp p_43, zp p_43, zp a0])) rfl rfl rfl ?_
  show Zr sc 106 32 [zp a0] [zp p_43, zp p_43, zp a0] ((w_27.set a0 (zob 6 [f0_35, zp p_22, f2_37, f3_38, f4_39, f5_40, f6_41, zj f7_42])) ++ [zob 2 [.null, .null, zj 0, zj 0, zj 0, zj 0, zj 0, .null, .null, zj 0, zj 0, zj 0, zj 0]]) ov w' c_45 s_46
  refine rl_ic rfl ?_
  show Zr sc 106 33 [zp a0] [zj 1, zp p_43, zp p_43, zp a0] ((w_27.set a0 (zob 6 [f0_35, zp p_22, f2_37, f3_38, f4_39, f5_40, f6_41, zj f7_42])) ++ [zob 2 [.null, .null, zj 0, zj 0, zj 0, zj 0, zj 0, .null, .null, zj 0, zj 0, zj 0, zj 0]]) ov w' c_45 s_46
  obtain ⟨w_48, c_50, s_51, c_52, s_53, hk_49, hc_54, h⟩ := h
  refine rl_cal (ins := .invokespecial 18) (rest := [zp p_43, zp a0]) rfl rfl rfl rfl (zinv_s rfl rfl rfl rfl) rfl rfl hk_49 ?_ hc_54.1 hc_54.2
  show Zr sc 106 36 [zp a0] [zp p_43, zp a0] w_48 ov w' c_52 s_53
  obtain ⟨f0_56, f1_57, f2_58, f3_59, f4_60, f5_61, f6_62, f7_63, hw_55, h⟩ := h
  refine rl_pf rfl hw_55 rfl rfl rfl ?_
  show Zr sc 106 39 [zp a0] [] (w_48.set a0 (zob 6 [f0_56, f1_57, zp p_43, f3_59, f4_60, f5_61, f6_62, zj f7_63])) ov w' c_52 s_53
  refine Zr_st (q := (40, [zp a0], [zp a0])) rfl rfl rfl ?_
  show Zr sc 106 40 [zp a0] [zp a0] (w_48.set a0 (zob 6 [f0_56, f1_57, zp p_43, f3_59, f4_60, f5_61, f6_62, zj f7_63])) ov w' c_52 s_53
  obtain ⟨p_64, hp_65, h⟩ := h
  obtain ⟨c_66, s_67, hc_68, h⟩ := h
  refine rn_new (X := zob 2 [.null, .null, zj 0, zj 0, zj 0, zj 0, zj 0, .null, .null, zj 0, zj 0, zj 0, zj 0]) rfl rfl hp_65 rfl hc_68.1 hc_68.2 ?_
  show Zr sc 106 43 [zp a0] [zp p_64, zp a0] ((w_48.set a0 (zob 6 [f0_56, f1_57, zp p_43, f3_59, f4_60, f5_61, f6_62, zj f7_63])) ++ [zob 2 [.null, .null, zj 0, zj 0, zj 0, zj 0, zj 0, .null, .null, zj 0, zj 0, zj 0, zj 0]]) ov w' c_66 s_67
  refine Zr_st (q := (44, [zp a0], [zp p_64, zp p_64, zp a0])) rfl rfl rfl ?_
  show Zr sc 106 44 [zp a0] [zp p_64, zp p_64, zp a0] ((w_48.set a0 (zob 6 [f0_56, f1_57, zp p_43, f3_59, f4_60, f5_61, f6_62, zj f7_63])) ++ [zob 2 [.null, .null, zj 0, zj 0, zj 0, zj 0, zj 0, .null, .null, zj 0, zj 0, zj 0, zj 0]]) ov w' c_66 s_67
  refine rl_ic rfl ?_
  show Zr sc 106 45 [zp a0] [zj 2, zp p_64, zp p_64, zp a0] ((w_48.set a0 (zob 6 [f0_56, f1_57, zp p_43, f3_59, f4_60, f5_61, f6_62, zj f7_63])) ++ [zob 2 [.null, .null, zj 0, zj 0, zj 0, zj 0, zj 0, .null, .null, zj 0, zj 0, zj 0, zj 0]]) ov w' c_66 s_67
  obtain ⟨w_69, c_71, s_72, c_73, s_74, hk_70, hc_75, h⟩ := h
  refine rl_cal (ins := .invokespecial 18) (rest := [zp p_64, zp a0]) rfl rfl rfl rfl (zinv_s rfl rfl rfl rfl) rfl rfl hk_70 ?_ hc_75.1 hc_75.2
  show Zr sc 106 48 [zp a0] [zp p_64, zp a0] w_69 ov w' c_73 s_74
  obtain ⟨f0_77, f1_78, f2_79, f3_80, f4_81, f5_82, f6_83, f7_84, hw_76, h⟩ := h
  refine rl_pf rfl hw_76 rfl rfl rfl ?_
  show Zr sc 106 51 [zp a0] [] (w_69.set a0 (zob 6 [f0_77, f1_78, f2_79, zp p_64, f4_81, f5_82, f6_83, zj f7_84])) ov w' c_73 s_74
  refine Zr_st (q := (52, [zp a0], [zp a0])) rfl rfl rfl ?_
  show Zr sc 106 52 [zp a0] [zp a0] (w_69.set a0 (zob 6 [f0_77, f1_78, f2_79, zp p_64, f4_81, f5_82, f6_83, zj f7_84])) ov w' c_73 s_74
  obtain ⟨p_85, hp_86, h⟩ := h
  obtain ⟨c_87, s_88, hc_89, h⟩ := h
  refine rn_new (X := zob 2 [.null, .null, zj 0, zj 0, zj 0, zj 0, zj 0, .null, .null, zj 0, zj 0, zj 0, zj 0]) rfl rfl hp_86 rfl hc_89.1 hc_89.2 ?_
  show Zr sc 106 55 [zp a0] [zp p_85, zp a0] ((w_69.set a0 (zob 6 [f0_77, f1_78, f2_79, zp p_64, f4_81, f5_82, f6_83, zj f7_84])) ++ [zob 2 [.null, .null, zj 0, zj 0, zj 0, zj 0, zj 0, .null, .null, zj 0, zj 0, zj 0, zj 0]]) ov w' c_87 s_88
  refine Zr_st (q := (56, [zp a0], [zp p_85, zp p_85, zp a0])) rfl rfl rfl ?_
  show Zr sc 106 56 [zp a0] [zp p_85, zp p_85, zp a0] ((w_69.set a0 (zob 6 [f0_77, f1_78, f2_79, zp p_64, f4_81, f5_82, f6_83, zj f7_84])) ++ [zob 2 [.null, .null, zj 0, zj 0, zj 0, zj 0, zj 0, .null, .null, zj 0, zj 0, zj 0, zj 0]]) ov w' c_87 s_88
  refine rl_ic rfl ?_
  show Zr sc 106 57 [zp a0] [zj 3, zp p_85, zp p_85, zp a0] ((w_69.set a0 (zob 6 [f0_77, f1_78, f2_79, zp p_64, f4_81, f5_82, f6_83, zj f7_84])) ++ [zob 2 [.null, .null, zj 0, zj 0, zj 0, zj 0, zj 0, .null, .null, zj 0, zj 0, zj 0, zj 0]]) ov w' c_87 s_88
  obtain ⟨w_90, c_92, s_93, c_94, s_95, hk_91, hc_96, h⟩ := h
  refine rl_cal (ins := .invokespecial 18) (rest := [zp p_85, zp a0]) rfl rfl rfl rfl (zinv_s rfl rfl rfl rfl) rfl rfl hk_91 ?_ hc_96.1 hc_96.2
  show Zr sc 106 60 [zp a0] [zp p_85, zp a0] w_90 ov w' c_94 s_95
  obtain ⟨f0_98, f1_99, f2_100, f3_101, f4_102, f5_103, f6_104, f7_105, hw_97, h⟩ := h
  refine rl_pf rfl hw_97 rfl rfl rfl ?_
  show Zr sc 106 63 [zp a0] [] (w_90.set a0 (zob 6 [f0_98, f1_99, f2_100, f3_101, zp p_85, f5_103, f6_104, zj f7_105])) ov w' c_94 s_95
  refine Zr_st (q := (64, [zp a0], [zp a0])) rfl rfl rfl ?_
  show Zr sc 106 64 [zp a0] [zp a0] (w_90.set a0 (zob 6 [f0_98, f1_99, f2_100, f3_101, zp p_85, f5_103, f6_104, zj f7_105])) ov w' c_94 s_95
  obtain ⟨p_106, hp_107, h⟩ := h
  obtain ⟨c_108, s_109, hc_110, h⟩ := h
  refine rn_new (X := zob 1 [.null, .null, zj 0, zj 0, zj 0, zj 0, zj 0, .null, .null, zj 0, zj 0, zj 0, zj 0]) rfl rfl hp_107 rfl hc_110.1 hc_110.2 ?_
  show Zr sc 106 67 [zp a0] [zp p_106, zp a0] ((w_90.set a0 (zob 6 [f0_98, f1_99, f2_100, f3_101, zp p_85, f5_103, f6_104, zj f7_105])) ++ [zob 1 [.null, .null, zj 0, zj 0, zj 0, zj 0, zj 0, .null, .null, zj 0, zj 0, zj 0, zj 0]]) ov w' c_108 s_109
  refine Zr_st (q := (68, [zp a0], [zp p_106, zp p_106, zp a0])) rfl rfl rfl ?_
  show Zr sc 106 68 [zp a0] [zp p_106, zp p_106, zp a0] ((w_90.set a0 (zob 6 [f0_98, f1_99, f2_100, f3_101, zp p_85, f5_103, f6_104, zj f7_105])) ++ [zob 1 [.null, .null, zj 0, zj 0, zj 0, zj 0, zj 0, .null, .null, zj 0, zj 0, zj 0, zj 0]]) ov w' c_108 s_109
  obtain ⟨w_111, c_113, s_114, c_115, s_116, hk_112, hc_117, h⟩ := h
  refine rl_cal (ins := .invokespecial 36) (rest := [zp p_106, zp a0]) rfl rfl rfl rfl (zinv_s rfl rfl rfl rfl) rfl rfl hk_112 ?_ hc_117.1 hc_117.2
  show Zr sc 106 71 [zp a0] [zp p_106, zp a0] w_111 ov w' c_115 s_116
  obtain ⟨f0_119, f1_120, f2_121, f3_122, f4_123, f5_124, f6_125, f7_126, hw_118, h⟩ := h
  refine rl_pf rfl hw_118 rfl rfl rfl ?_
  show Zr sc 106 74 [zp a0] [] (w_111.set a0 (zob 6 [f0_119, f1_120, f2_121, f3_122, f4_123, zp p_106, f6_125, zj f7_126])) ov w' c_115 s_116
  refine Zr_st (q := (75, [zp a0], [zp a0])) rfl rfl rfl ?_
  show Zr sc 106 75 [zp a0] [zp a0] (w_111.set a0 (zob 6 [f0_119, f1_120, f2_121, f3_122, f4_123, zp p_106, f6_125, zj f7_126])) ov w' c_115 s_116
  obtain ⟨p_127, hp_128, h⟩ := h
  obtain ⟨c_129, s_130, hc_131, h⟩ := h
  refine rn_new (X := zob 4 [.null, .null, zj 0, zj 0, zj 0, zj 0, zj 0, .null, .null, zj 0, zj 0, zj 0, zj 0, .null]) rfl rfl hp_128 rfl hc_131.1 hc_131.2 ?_
  show Zr sc 106 78 [zp a0] [zp p_127, zp a0] ((w_111.set a0 (zob 6 [f0_119, f1_120, f2_121, f3_122, f4_123, zp p_106, f6_125, zj f7_126])) ++ [zob 4 [.null, .null, zj 0, zj 0, zj 0, zj 0, zj 0, .null, .null, zj 0, zj 0, zj 0, zj 0, .null]]) ov w' c_129 s_130
  refine Zr_st (q := (79, [zp a0], [zp p_127, zp p_127, zp a0])) rfl rfl rfl ?_
  show Zr sc 106 79 [zp a0] [zp p_127, zp p_127, zp a0] ((w_111.set a0 (zob 6 [f0_119, f1_120, f2_121, f3_122, f4_123, zp p_106, f6_125, zj f7_126])) ++ [zob 4 [.null, .null, zj 0, zj 0, zj 0, zj 0, zj 0, .null, .null, zj 0, zj 0, zj 0, zj 0, .null]]) ov w' c_129 s_130
  obtain ⟨w_132, c_134, s_135, c_136, s_137, hk_133, hc_138, h⟩ := h
  refine rl_cal (ins := .invokespecial 43) (rest := [zp p_127, zp a0]) rfl rfl rfl rfl (zinv_s rfl rfl rfl rfl) rfl rfl hk_133 ?_ hc_138.1 hc_138.2
  show Zr sc 106 82 [zp a0] [zp p_127, zp a0] w_132 ov w' c_136 s_137
  obtain ⟨f0_140, f1_141, f2_142, f3_143, f4_144, f5_145, f6_146, f7_147, hw_139, h⟩ := h
  refine rl_pf rfl hw_139 rfl rfl rfl ?_
  show Zr sc 106 85 [zp a0] [] (w_132.set a0 (zob 6 [f0_140, f1_141, f2_142, f3_143, f4_144, f5_145, zp p_127, zj f7_147])) ov w' c_136 s_137
  refine Zr_st (q := (86, [zp a0], [zp a0])) rfl rfl rfl ?_
  show Zr sc 106 86 [zp a0] [zp a0] (w_132.set a0 (zob 6 [f0_140, f1_141, f2_142, f3_143, f4_144, f5_145, zp p_127, zj f7_147])) ov w' c_136 s_137
  refine rl_ic rfl ?_
  show Zr sc 106 87 [zp a0] [zj 0, zp a0] (w_132.set a0 (zob 6 [f0_140, f1_141, f2_142, f3_143, f4_144, f5_145, zp p_127, zj f7_147])) ov w' c_136 s_137
  refine rl_pf rfl (zw_s hw_139) rfl rfl rfl ?_
  show Zr sc 106 90 [zp a0] [] ((w_132.set a0 (zob 6 [f0_140, f1_141, f2_142, f3_143, f4_144, f5_145, zp p_127, zj f7_147])).set a0 (zob 6 [f0_140, f1_141, f2_142, f3_143, f4_144, f5_145, zp p_127, zj 0])) ov w' c_136 s_137
  obtain ⟨h1, h2, h3, h4⟩ := h
  subst h1; subst h2; subst h3; subst h4
  exact Zr_ret (ins := .return_) rfl rfl

-- HeapwrightLab$Trace.<init>()V
set_option maxRecDepth 100000 in
theorem V107_0 {sc : List Value} {w w' : List zE} {ov : Option Value} {c s : Nat} {a0 : Nat} (h : (((0 : Int) ≤ 150 ∧ 150 ≤ (60000 : Int)) ∧ (∃ p_1 : Nat, p_1 = w.length ∧ (∃ c_3 s_4 : Nat, (c = 1 + c_3 ∧ s = (150 : Int).toNat + s_4) ∧ (∃ f0_8 : Value, ∃ f1_9 : Value, ∃ f2_10 : Value, ∃ f3_11 : Int, w[a0]? = some (zob 5 [f0_8, f1_9, f2_10, zj f3_11]) ∧ (((0 : Int) ≤ 150 ∧ 150 ≤ (60000 : Int)) ∧ (∃ p_12 : Nat, p_12 = ((w ++ [za (List.replicate (150 : Int).toNat (0 : Int))]).set a0 (zob 5 [zp p_1, f1_9, f2_10, zj f3_11])).length ∧ (∃ c_14 s_15 : Nat, (c_3 = 1 + c_14 ∧ s_4 = (150 : Int).toNat + s_15) ∧ (((0 : Int) ≤ 150 ∧ 150 ≤ (60000 : Int)) ∧ (∃ p_18 : Nat, p_18 = ((((w ++ [za (List.replicate (150 : Int).toNat (0 : Int))]).set a0 (zob 5 [zp p_1, f1_9, f2_10, zj f3_11])) ++ [za (List.replicate (150 : Int).toNat (0 : Int))]).set a0 (zob 5 [zp p_1, zp p_12, f2_10, zj f3_11])).length ∧ (∃ c_20 s_21 : Nat, (c_14 = 1 + c_20 ∧ s_15 = (150 : Int).toNat + s_21) ∧ (ov = none ∧ w' = ((((((w ++ [za (List.replicate (150 : Int).toNat (0 : Int))]).set a0 (zob 5 [zp p_1, f1_9, f2_10, zj f3_11])) ++ [za (List.replicate (150 : Int).toNat (0 : Int))]).set a0 (zob 5 [zp p_1, zp p_12, f2_10, zj f3_11])) ++ [za (List.replicate (150 : Int).toNat (0 : Int))]).set a0 (zob 5 [zp p_1, zp p_12, zp p_18, zj f3_11])) ∧ c_20 = 0 ∧ s_21 = 0)))))))))))) : Zr sc 107 0 [zp a0] [] w ov w' c s := by
  refine Zr_st (q := (1, [zp a0], [zp a0])) rfl rfl rfl ?_
  show Zr sc 107 1 [zp a0] [zp a0] w ov w' c s
  refine Zr_obj (ins := .invokespecial 3) (rest := []) rfl rfl rfl rfl (zinv_s2 (rest := []) rfl rfl rfl rfl rfl) rfl ?_
  show Zr sc 107 4 [zp a0] [] w ov w' c s
  refine Zr_st (q := (5, [zp a0], [zp a0])) rfl rfl rfl ?_
  show Zr sc 107 5 [zp a0] [zp a0] w ov w' c s
  refine rl_si rfl (by decide) ?_
  show Zr sc 107 8 [zp a0] [zj 150, zp a0] w ov w' c s
  obtain ⟨hx_6, h⟩ := h
  obtain ⟨p_1, hp_2, h⟩ := h
  obtain ⟨c_3, s_4, hc_5, h⟩ := h
  refine rn_na rfl hx_6.1 hx_6.2 hp_2 hc_5.1 hc_5.2 ?_
  show Zr sc 107 10 [zp a0] [zp p_1, zp a0] (w ++ [za (List.replicate (150 : Int).toNat (0 : Int))]) ov w' c_3 s_4
  obtain ⟨f0_8, f1_9, f2_10, f3_11, hw_7, h⟩ := h
  refine rl_pf rfl (zw_a hw_7) rfl rfl rfl ?_
  show Zr sc 107 13 [zp a0] [] ((w ++ [za (List.replicate (150 : Int).toNat (0 : Int))]).set a0 (zob 5 [zp p_1, f1_9, f2_10, zj f3_11])) ov w' c_3 s_4
  refine Zr_st (q := (14, [zp a0], [zp a0])) rfl rfl rfl ?_
  show Zr sc 107 14 [zp a0] [zp a0] ((w ++ [za (List.replicate (150 : Int).toNat (0 : Int))]).set a0 (zob 5 [zp p_1, f1_9, f2_10, zj f3_11])) ov w' c_3 s_4
  refine rl_si rfl (by decide) ?_
  show Zr sc 107 17 [zp a0] [zj 150, zp a0] ((w ++ [za (List.replicate (150 : Int).toNat (0 : Int))]).set a0 (zob 5 [zp p_1, f1_9, f2_10, zj f3_11])) ov w' c_3 s_4
  obtain ⟨hx_17, h⟩ := h
  obtain ⟨p_12, hp_13, h⟩ := h
  obtain ⟨c_14, s_15, hc_16, h⟩ := h
  refine rn_na rfl hx_17.1 hx_17.2 hp_13 hc_16.1 hc_16.2 ?_
  show Zr sc 107 19 [zp a0] [zp p_12, zp a0] (((w ++ [za (List.replicate (150 : Int).toNat (0 : Int))]).set a0 (zob 5 [zp p_1, f1_9, f2_10, zj f3_11])) ++ [za (List.replicate (150 : Int).toNat (0 : Int))]) ov w' c_14 s_15
  refine rl_pf rfl (zw_a (zw_s (zw_a hw_7))) rfl rfl rfl ?_
  show Zr sc 107 22 [zp a0] [] ((((w ++ [za (List.replicate (150 : Int).toNat (0 : Int))]).set a0 (zob 5 [zp p_1, f1_9, f2_10, zj f3_11])) ++ [za (List.replicate (150 : Int).toNat (0 : Int))]).set a0 (zob 5 [zp p_1, zp p_12, f2_10, zj f3_11])) ov w' c_14 s_15
  refine Zr_st (q := (23, [zp a0], [zp a0])) rfl rfl rfl ?_
  show Zr sc 107 23 [zp a0] [zp a0] ((((w ++ [za (List.replicate (150 : Int).toNat (0 : Int))]).set a0 (zob 5 [zp p_1, f1_9, f2_10, zj f3_11])) ++ [za (List.replicate (150 : Int).toNat (0 : Int))]).set a0 (zob 5 [zp p_1, zp p_12, f2_10, zj f3_11])) ov w' c_14 s_15
  refine rl_si rfl (by decide) ?_
  show Zr sc 107 26 [zp a0] [zj 150, zp a0] ((((w ++ [za (List.replicate (150 : Int).toNat (0 : Int))]).set a0 (zob 5 [zp p_1, f1_9, f2_10, zj f3_11])) ++ [za (List.replicate (150 : Int).toNat (0 : Int))]).set a0 (zob 5 [zp p_1, zp p_12, f2_10, zj f3_11])) ov w' c_14 s_15
  obtain ⟨hx_23, h⟩ := h
  obtain ⟨p_18, hp_19, h⟩ := h
  obtain ⟨c_20, s_21, hc_22, h⟩ := h
  refine rn_na rfl hx_23.1 hx_23.2 hp_19 hc_22.1 hc_22.2 ?_
  show Zr sc 107 28 [zp a0] [zp p_18, zp a0] (((((w ++ [za (List.replicate (150 : Int).toNat (0 : Int))]).set a0 (zob 5 [zp p_1, f1_9, f2_10, zj f3_11])) ++ [za (List.replicate (150 : Int).toNat (0 : Int))]).set a0 (zob 5 [zp p_1, zp p_12, f2_10, zj f3_11])) ++ [za (List.replicate (150 : Int).toNat (0 : Int))]) ov w' c_20 s_21
  refine rl_pf rfl (zw_a (zw_s (zw_a (zw_s (zw_a hw_7))))) rfl rfl rfl ?_
  show Zr sc 107 31 [zp a0] [] ((((((w ++ [za (List.replicate (150 : Int).toNat (0 : Int))]).set a0 (zob 5 [zp p_1, f1_9, f2_10, zj f3_11])) ++ [za (List.replicate (150 : Int).toNat (0 : Int))]).set a0 (zob 5 [zp p_1, zp p_12, f2_10, zj f3_11])) ++ [za (List.replicate (150 : Int).toNat (0 : Int))]).set a0 (zob 5 [zp p_1, zp p_12, zp p_18, zj f3_11])) ov w' c_20 s_21
  obtain ⟨h1, h2, h3, h4⟩ := h
  subst h1; subst h2; subst h3; subst h4
  exact Zr_ret (ins := .return_) rfl rfl

-- HeapwrightLab$Fits.<init>(I)V
set_option maxRecDepth 100000 in
theorem V108_0 {sc : List Value} {w w' : List zE} {ov : Option Value} {c s : Nat} {a0 : Nat} {x1 : Int} (h : (∃ w_1 : List zE, ∃ c_3 s_4 c_5 s_6 : Nat, Zc sc 109 [zp a0, zj x1] w none w_1 c_3 s_4 ∧ (c = c_3 + c_5 ∧ s = s_4 + s_6) ∧ (ov = none ∧ w' = w_1 ∧ c_5 = 0 ∧ s_6 = 0))) : Zr sc 108 0 [zp a0, zj x1] [] w ov w' c s := by
  refine Zr_st (q := (1, [zp a0, zj x1], [zp a0])) rfl rfl rfl ?_
  show Zr sc 108 1 [zp a0, zj x1] [zp a0] w ov w' c s
  refine Zr_st (q := (2, [zp a0, zj x1], [zj x1, zp a0])) rfl rfl rfl ?_
  show Zr sc 108 2 [zp a0, zj x1] [zj x1, zp a0] w ov w' c s
  obtain ⟨w_1, c_3, s_4, c_5, s_6, hk_2, hc_7, h⟩ := h
  refine rl_cal (ins := .invokespecial 3) (rest := []) rfl rfl rfl rfl (zinv_s rfl rfl rfl rfl) rfl rfl hk_2 ?_ hc_7.1 hc_7.2
  show Zr sc 108 5 [zp a0, zj x1] [] w_1 ov w' c_5 s_6
  obtain ⟨h1, h2, h3, h4⟩ := h
  subst h1; subst h2; subst h3; subst h4
  exact Zr_ret (ins := .return_) rfl rfl

-- HeapwrightLab$Memory.<init>(I)V
set_option maxRecDepth 100000 in
theorem V109_0_1 {sc : List Value} {w w' : List zE} {ov : Option Value} {c s : Nat} {a0 : Nat} {x1 : Int} (h : (∃ p_1 : Nat, p_1 = w.length ∧ (∃ c_3 s_4 : Nat, (c = 1 + c_3 ∧ s = 6 + s_4) ∧ (∃ w_6 : List zE, ∃ c_8 s_9 c_10 s_11 : Nat, Zc sc 110 [zp p_1] (w ++ [zob 0 [.null, .null, .null, .null, zj 0, zj 0]]) none w_6 c_8 s_9 ∧ (c_3 = c_8 + c_10 ∧ s_4 = s_9 + s_11) ∧ (∃ f0_14 : Value, ∃ f1_15 : Value, ∃ f2_16 : Int, ∃ f3_17 : Int, ∃ f4_18 : Int, ∃ f5_19 : Int, ∃ f6_20 : Int, ∃ f7_21 : Value, ∃ f8_22 : Value, ∃ f9_23 : Int, ∃ f10_24 : Int, ∃ f11_25 : Int, ∃ f12_26 : Int, w_6[a0]? = some (zob 1 [f0_14, f1_15, zj f2_16, zj f3_17, zj f4_18, zj f5_19, zj f6_20, f7_21, f8_22, zj f9_23, zj f10_24, zj f11_25, zj f12_26]) ∧ (∃ p_27 : Nat, p_27 = (w_6.set a0 (zob 1 [zp p_1, f1_15, zj f2_16, zj f3_17, zj f4_18, zj f5_19, zj f6_20, f7_21, f8_22, zj f9_23, zj f10_24, zj f11_25, zj f12_26])).length ∧ (∃ c_29 s_30 : Nat, (c_10 = 1 + c_29 ∧ s_11 = 3 + s_30) ∧ (∃ w_32 : List zE, ∃ c_34 s_35 c_36 s_37 : Nat, Zc sc 111 [zp p_27] ((w_6.set a0 (zob 1 [zp p_1, f1_15, zj f2_16, zj f3_17, zj f4_18, zj f5_19, zj f6_20, f7_21, f8_22, zj f9_23, zj f10_24, zj f11_25, zj f12_26])) ++ [zob 3 [.null, .null, zj 0]]) none w_32 c_34 s_35 ∧ (c_29 = c_34 + c_36 ∧ s_30 = s_35 + s_37) ∧ (∃ f0_40 : Value, ∃ f1_41 : Value, ∃ f2_42 : Int, ∃ f3_43 : Int, ∃ f4_44 : Int, ∃ f5_45 : Int, ∃ f6_46 : Int, ∃ f7_47 : Value, ∃ f8_48 : Value, ∃ f9_49 : Int, ∃ f10_50 : Int, ∃ f11_51 : Int, ∃ f12_52 : Int, w_32[a0]? = some (zob 1 [f0_40, f1_41, zj f2_42, zj f3_43, zj f4_44, zj f5_45, zj f6_46, f7_47, f8_48, zj f9_49, zj f10_50, zj f11_51, zj f12_52]) ∧ (((0 : Int) ≤ 5 ∧ 5 ≤ (60000 : Int)) ∧ (∃ p_53 : Nat, p_53 = (((w_32.set a0 (zob 1 [f0_40, zp p_27, zj f2_42, zj f3_43, zj f4_44, zj f5_45, zj f6_46, f7_47, f8_48, zj f9_49, zj f10_50, zj f11_51, zj f12_52])).set a0 (zob 1 [f0_40, zp p_27, zj f2_42, zj 4, zj f4_44, zj f5_45, zj f6_46, f7_47, f8_48, zj f9_49, zj f10_50, zj f11_51, zj f12_52])).set a0 (zob 1 [f0_40, zp p_27, zj f2_42, zj 4, zj 2, zj f5_45, zj f6_46, f7_47, f8_48, zj f9_49, zj f10_50, zj f11_51, zj f12_52])).length ∧ (∃ c_55 s_56 : Nat, (c_36 = 1 + c_55 ∧ s_37 = (5 : Int).toNat + s_56) ∧ (((0 : Int) ≤ 80 ∧ 80 ≤ (60000 : Int)) ∧ (∃ p_59 : Nat, p_59 = (((((w_32.set a0 (zob 1 [f0_40, zp p_27, zj f2_42, zj f3_43, zj f4_44, zj f5_45, zj f6_46, f7_47, f8_48, zj f9_49, zj f10_50, zj f11_51, zj f12_52])).set a0 (zob 1 [f0_40, zp p_27, zj f2_42, zj 4, zj f4_44, zj f5_45, zj f6_46, f7_47, f8_48, zj f9_49, zj f10_50, zj f11_51, zj f12_52])).set a0 (zob 1 [f0_40, zp p_27, zj f2_42, zj 4, zj 2, zj f5_45, zj f6_46, f7_47, f8_48, zj f9_49, zj f10_50, zj f11_51, zj f12_52])) ++ [za (List.replicate (5 : Int).toNat (0 : Int))]).set a0 (zob 1 [f0_40, zp p_27, zj f2_42, zj 4, zj 2, zj f5_45, zj f6_46, zp p_53, f8_48, zj f9_49, zj f10_50, zj f11_51, zj f12_52])).length ∧ (∃ c_61 s_62 : Nat, (c_55 = 1 + c_61 ∧ s_56 = (80 : Int).toNat + s_62) ∧ (ov = none ∧ w' = ((((((((w_32.set a0 (zob 1 [f0_40, zp p_27, zj f2_42, zj f3_43, zj f4_44, zj f5_45, zj f6_46, f7_47, f8_48, zj f9_49, zj f10_50, zj f11_51, zj f12_52])).set a0 (zob 1 [f0_40, zp p_27, zj f2_42, zj 4, zj f4_44, zj f5_45, zj f6_46, f7_47, f8_48, zj f9_49, zj f10_50, zj f11_51, zj f12_52])).set a0 (zob 1 [f0_40, zp p_27, zj f2_42, zj 4, zj 2, zj f5_45, zj f6_46, f7_47, f8_48, zj f9_49, zj f10_50, zj f11_51, zj f12_52])) ++ [za (List.replicate (5 : Int).toNat (0 : Int))]).set a0 (zob 1 [f0_40, zp p_27, zj f2_42, zj 4, zj 2, zj f5_45, zj f6_46, zp p_53, f8_48, zj f9_49, zj f10_50, zj f11_51, zj f12_52])) ++ [za (List.replicate (80 : Int).toNat (0 : Int))]).set a0 (zob 1 [f0_40, zp p_27, zj f2_42, zj 4, zj 2, zj f5_45, zj f6_46, zp p_53, zp p_59, zj f9_49, zj f10_50, zj f11_51, zj f12_52])).set a0 (zob 1 [f0_40, zp p_27, zj x1, zj 4, zj 2, zj f5_45, zj f6_46, zp p_53, zp p_59, zj f9_49, zj f10_50, zj f11_51, zj f12_52])) ∧ c_61 = 0 ∧ s_62 = 0)))))))))))))))) : Zr sc 109 0 [zp a0, zj x1] [] w ov w' c s := by
  refine Zr_st (q := (1, [zp a0, zj x1], [zp a0])) rfl rfl rfl ?_
  show Zr sc 109 1 [zp a0, zj x1] [zp a0] w ov w' c s
  refine Zr_obj (ins := .invokespecial 3) (rest := []) rfl rfl rfl rfl (zinv_s2 (rest := []) rfl rfl rfl rfl rfl) rfl ?_
  show Zr sc 109 4 [zp a0, zj x1] [] w ov w' c s
  refine Zr_st (q := (5, [zp a0, zj x1], [zp a0])) rfl rfl rfl ?_
  show Zr sc 109 5 [zp a0, zj x1] [zp a0] w ov w' c s
  obtain ⟨p_1, hp_2, h⟩ := h
  obtain ⟨c_3, s_4, hc_5, h⟩ := h
  refine rn_new (X := zob 0 [.null, .null, .null, .null, zj 0, zj 0]) rfl rfl hp_2 rfl hc_5.1 hc_5.2 ?_
  show Zr sc 109 8 [zp a0, zj x1] [zp p_1, zp a0] (w ++ [zob 0 [.null, .null, .null, .null, zj 0, zj 0]]) ov w' c_3 s_4
  refine Zr_st (q := (9, [zp a0, zj x1], [zp p_1, zp p_1, zp a0])) rfl rfl rfl ?_
  show Zr sc 109 9 [zp a0, zj x1] [zp p_1, zp p_1, zp a0] (w ++ [zob 0 [.null, .null, .null, .null, zj 0, zj 0]]) ov w' c_3 s_4
  obtain ⟨w_6, c_8, s_9, c_10, s_11, hk_7, hc_12, h⟩ := h
  refine rl_cal (ins := .invokespecial 11) (rest := [zp p_1, zp a0]) rfl rfl rfl rfl (zinv_s rfl rfl rfl rfl) rfl rfl hk_7 ?_ hc_12.1 hc_12.2
  show Zr sc 109 12 [zp a0, zj x1] [zp p_1, zp a0] w_6 ov w' c_10 s_11
  obtain ⟨f0_14, f1_15, f2_16, f3_17, f4_18, f5_19, f6_20, f7_21, f8_22, f9_23, f10_24, f11_25, f12_26, hw_13, h⟩ := h
  refine rl_pf rfl hw_13 rfl rfl rfl ?_
  show Zr sc 109 15 [zp a0, zj x1] [] (w_6.set a0 (zob 1 [zp p_1, f1_15, zj f2_16, zj f3_17, zj f4_18, zj f5_19, zj f6_20, f7_21, f8_22, zj f9_23, zj f10_24, zj f11_25, zj f12_26])) ov w' c_10 s_11
  refine Zr_st (q := (16, [zp a0, zj x1], [zp a0])) rfl rfl rfl ?_
  show Zr sc 109 16 [zp a0, zj x1] [zp a0] (w_6.set a0 (zob 1 [zp p_1, f1_15, zj f2_16, zj f3_17, zj f4_18, zj f5_19, zj f6_20, f7_21, f8_22, zj f9_23, zj f10_24, zj f11_25, zj f12_26])) ov w' c_10 s_11
  obtain ⟨p_27, hp_28, h⟩ := h
  obtain ⟨c_29, s_30, hc_31, h⟩ := h
  refine rn_new (X := zob 3 [.null, .null, zj 0]) rfl rfl hp_28 rfl hc_31.1 hc_31.2 ?_
  show Zr sc 109 19 [zp a0, zj x1] [zp p_27, zp a0] ((w_6.set a0 (zob 1 [zp p_1, f1_15, zj f2_16, zj f3_17, zj f4_18, zj f5_19, zj f6_20, f7_21, f8_22, zj f9_23, zj f10_24, zj f11_25, zj f12_26])) ++ [zob 3 [.null, .null, zj 0]]) ov w' c_29 s_30
  refine Zr_st (q := (20, [zp a0, zj x1], [zp p_27, zp p_27, zp a0])) rfl rfl rfl ?_
  show Zr sc 109 20 [zp a0, zj x1] [zp p_27, zp p_27, zp a0] ((w_6.set a0 (zob 1 [zp p_1, f1_15, zj f2_16, zj f3_17, zj f4_18, zj f5_19, zj f6_20, f7_21, f8_22, zj f9_23, zj f10_24, zj f11_25, zj f12_26])) ++ [zob 3 [.null, .null, zj 0]]) ov w' c_29 s_30
  obtain ⟨w_32, c_34, s_35, c_36, s_37, hk_33, hc_38, h⟩ := h
  refine rl_cal (ins := .invokespecial 20) (rest := [zp p_27, zp a0]) rfl rfl rfl rfl (zinv_s rfl rfl rfl rfl) rfl rfl hk_33 ?_ hc_38.1 hc_38.2
  show Zr sc 109 23 [zp a0, zj x1] [zp p_27, zp a0] w_32 ov w' c_36 s_37
  obtain ⟨f0_40, f1_41, f2_42, f3_43, f4_44, f5_45, f6_46, f7_47, f8_48, f9_49, f10_50, f11_51, f12_52, hw_39, h⟩ := h
  refine rl_pf rfl hw_39 rfl rfl rfl ?_
  show Zr sc 109 26 [zp a0, zj x1] [] (w_32.set a0 (zob 1 [f0_40, zp p_27, zj f2_42, zj f3_43, zj f4_44, zj f5_45, zj f6_46, f7_47, f8_48, zj f9_49, zj f10_50, zj f11_51, zj f12_52])) ov w' c_36 s_37
  refine Zr_st (q := (27, [zp a0, zj x1], [zp a0])) rfl rfl rfl ?_
  show Zr sc 109 27 [zp a0, zj x1] [zp a0] (w_32.set a0 (zob 1 [f0_40, zp p_27, zj f2_42, zj f3_43, zj f4_44, zj f5_45, zj f6_46, f7_47, f8_48, zj f9_49, zj f10_50, zj f11_51, zj f12_52])) ov w' c_36 s_37
  refine rl_ic rfl ?_
  show Zr sc 109 28 [zp a0, zj x1] [zj 4, zp a0] (w_32.set a0 (zob 1 [f0_40, zp p_27, zj f2_42, zj f3_43, zj f4_44, zj f5_45, zj f6_46, f7_47, f8_48, zj f9_49, zj f10_50, zj f11_51, zj f12_52])) ov w' c_36 s_37
  refine rl_pf rfl (zw_s hw_39) rfl rfl rfl ?_
  show Zr sc 109 31 [zp a0, zj x1] [] ((w_32.set a0 (zob 1 [f0_40, zp p_27, zj f2_42, zj f3_43, zj f4_44, zj f5_45, zj f6_46, f7_47, f8_48, zj f9_49, zj f10_50, zj f11_51, zj f12_52])).set a0 (zob 1 [f0_40, zp p_27, zj f2_42, zj 4, zj f4_44, zj f5_45, zj f6_46, f7_47, f8_48, zj f9_49, zj f10_50, zj f11_51, zj f12_52])) ov w' c_36 s_37
  refine Zr_st (q := (32, [zp a0, zj x1], [zp a0])) rfl rfl rfl ?_
  show Zr sc 109 32 [zp a0, zj x1] [zp a0] ((w_32.set a0 (zob 1 [f0_40, zp p_27, zj f2_42, zj f3_43, zj f4_44, zj f5_45, zj f6_46, f7_47, f8_48, zj f9_49, zj f10_50, zj f11_51, zj f12_52])).set a0 (zob 1 [f0_40, zp p_27, zj f2_42, zj 4, zj f4_44, zj f5_45, zj f6_46, f7_47, f8_48, zj f9_49, zj f10_50, zj f11_51, zj f12_52])) ov w' c_36 s_37
  refine rl_ic rfl ?_
  show Zr sc 109 33 [zp a0, zj x1] [zj 2, zp a0] ((w_32.set a0 (zob 1 [f0_40, zp p_27, zj f2_42, zj f3_43, zj f4_44, zj f5_45, zj f6_46, f7_47, f8_48, zj f9_49, zj f10_50, zj f11_51, zj f12_52])).set a0 (zob 1 [f0_40, zp p_27, zj f2_42, zj 4, zj f4_44, zj f5_45, zj f6_46, f7_47, f8_48, zj f9_49, zj f10_50, zj f11_51, zj f12_52])) ov w' c_36 s_37
  refine rl_pf rfl (zw_s (zw_s hw_39)) rfl rfl rfl ?_
  show Zr sc 109 36 [zp a0, zj x1] [] (((w_32.set a0 (zob 1 [f0_40, zp p_27, zj f2_42, zj f3_43, zj f4_44, zj f5_45, zj f6_46, f7_47, f8_48, zj f9_49, zj f10_50, zj f11_51, zj f12_52])).set a0 (zob 1 [f0_40, zp p_27, zj f2_42, zj 4, zj f4_44, zj f5_45, zj f6_46, f7_47, f8_48, zj f9_49, zj f10_50, zj f11_51, zj f12_52])).set a0 (zob 1 [f0_40, zp p_27, zj f2_42, zj 4, zj 2, zj f5_45, zj f6_46, f7_47, f8_48, zj f9_49, zj f10_50, zj f11_51, zj f12_52])) ov w' c_36 s_37
  refine Zr_st (q := (37, [zp a0, zj x1], [zp a0])) rfl rfl rfl ?_
  show Zr sc 109 37 [zp a0, zj x1] [zp a0] (((w_32.set a0 (zob 1 [f0_40, zp p_27, zj f2_42, zj f3_43, zj f4_44, zj f5_45, zj f6_46, f7_47, f8_48, zj f9_49, zj f10_50, zj f11_51, zj f12_52])).set a0 (zob 1 [f0_40, zp p_27, zj f2_42, zj 4, zj f4_44, zj f5_45, zj f6_46, f7_47, f8_48, zj f9_49, zj f10_50, zj f11_51, zj f12_52])).set a0 (zob 1 [f0_40, zp p_27, zj f2_42, zj 4, zj 2, zj f5_45, zj f6_46, f7_47, f8_48, zj f9_49, zj f10_50, zj f11_51, zj f12_52])) ov w' c_36 s_37
  refine rl_ic rfl ?_
  show Zr sc 109 38 [zp a0, zj x1] [zj 5, zp a0] (((w_32.set a0 (zob 1 [f0_40, zp p_27, zj f2_42, zj f3_43, zj f4_44, zj f5_45, zj f6_46, f7_47, f8_48, zj f9_49, zj f10_50, zj f11_51, zj f12_52])).set a0 (zob 1 [f0_40, zp p_27, zj f2_42, zj 4, zj f4_44, zj f5_45, zj f6_46, f7_47, f8_48, zj f9_49, zj f10_50, zj f11_51, zj f12_52])).set a0 (zob 1 [f0_40, zp p_27, zj f2_42, zj 4, zj 2, zj f5_45, zj f6_46, f7_47, f8_48, zj f9_49, zj f10_50, zj f11_51, zj f12_52])) ov w' c_36 s_37
  obtain ⟨hx_58, h⟩ := h
  obtain ⟨p_53, hp_54, h⟩ := h
  obtain ⟨c_55, s_56, hc_57, h⟩ := h
  refine rn_na rfl hx_58.1 hx_58.2 hp_54 hc_57.1 hc_57.2 ?_
  show Zr sc 109 40 [zp a0, zj x1] [zp p_53, zp a0] ((((w_32.set a0 (zob 1 [f0_40, zp p_27, zj f2_42, zj f3_43, zj f4_44, zj f5_45, zj f6_46, f7_47, f8_48, zj f9_49, zj f10_50, zj f11_51, zj f12_52])).set a0 (zob 1 [f0_40, zp p_27, zj f2_42, zj 4, zj f4_44, zj f5_45, zj f6_46, f7_47, f8_48, zj f9_49, zj f10_50, zj f11_51, zj f12_52])).set a0 (zob 1 [f0_40, zp p_27, zj f2_42, zj 4, zj 2, zj f5_45, zj f6_46, f7_47, f8_48, zj f9_49, zj f10_50, zj f11_51, zj f12_52])) ++ [za (List.replicate (5 : Int).toNat (0 : Int))]) ov w' c_55 s_56
  refine rl_pf rfl (zw_a (zw_s (zw_s (zw_s hw_39)))) rfl rfl rfl ?_
  show Zr sc 109 43 [zp a0, zj x1] [] (((((w_32.set a0 (zob 1 [f0_40, zp p_27, zj f2_42, zj f3_43, zj f4_44, zj f5_45, zj f6_46, f7_47, f8_48, zj f9_49, zj f10_50, zj f11_51, zj f12_52])).set a0 (zob 1 [f0_40, zp p_27, zj f2_42, zj 4, zj f4_44, zj f5_45, zj f6_46, f7_47, f8_48, zj f9_49, zj f10_50, zj f11_51, zj f12_52])).set a0 (zob 1 [f0_40, zp p_27, zj f2_42, zj 4, zj 2, zj f5_45, zj f6_46, f7_47, f8_48, zj f9_49, zj f10_50, zj f11_51, zj f12_52])) ++ [za (List.replicate (5 : Int).toNat (0 : Int))]).set a0 (zob 1 [f0_40, zp p_27, zj f2_42, zj 4, zj 2, zj f5_45, zj f6_46, zp p_53, f8_48, zj f9_49, zj f10_50, zj f11_51, zj f12_52])) ov w' c_55 s_56
  refine Zr_st (q := (44, [zp a0, zj x1], [zp a0])) rfl rfl rfl ?_
  show Zr sc 109 44 [zp a0, zj x1] [zp a0] (((((w_32.set a0 (zob 1 [f0_40, zp p_27, zj f2_42, zj f3_43, zj f4_44, zj f5_45, zj f6_46, f7_47, f8_48, zj f9_49, zj f10_50, zj f11_51, zj f12_52])).set a0 (zob 1 [f0_40, zp p_27, zj f2_42, zj 4, zj f4_44, zj f5_45, zj f6_46, f7_47, f8_48, zj f9_49, zj f10_50, zj f11_51, zj f12_52])).set a0 (zob 1 [f0_40, zp p_27, zj f2_42, zj 4, zj 2, zj f5_45, zj f6_46, f7_47, f8_48, zj f9_49, zj f10_50, zj f11_51, zj f12_52])) ++ [za (List.replicate (5 : Int).toNat (0 : Int))]).set a0 (zob 1 [f0_40, zp p_27, zj f2_42, zj 4, zj 2, zj f5_45, zj f6_46, zp p_53, f8_48, zj f9_49, zj f10_50, zj f11_51, zj f12_52])) ov w' c_55 s_56
  refine rl_bi rfl (by decide) ?_
  show Zr sc 109 46 [zp a0, zj x1] [zj 80, zp a0] (((((w_32.set a0 (zob 1 [f0_40, zp p_27, zj f2_42, zj f3_43, zj f4_44, zj f5_45, zj f6_46, f7_47, f8_48, zj f9_49, zj f10_50, zj f11_51, zj f12_52])).set a0 (zob 1 [f0_40, zp p_27, zj f2_42, zj 4, zj f4_44, zj f5_45, zj f6_46, f7_47, f8_48, zj f9_49, zj f10_50, zj f11_51, zj f12_52])).set a0 (zob 1 [f0_40, zp p_27, zj f2_42, zj 4, zj 2, zj f5_45, zj f6_46, f7_47, f8_48, zj f9_49, zj f10_50, zj f11_51, zj f12_52])) ++ [za (List.replicate (5 : Int).toNat (0 : Int))]).set a0 (zob 1 [f0_40, zp p_27, zj f2_42, zj 4, zj 2, zj f5_45, zj f6_46, zp p_53, f8_48, zj f9_49, zj f10_50, zj f11_51, zj f12_52])) ov w' c_55 s_56
  obtain ⟨hx_64, h⟩ := h
  obtain ⟨p_59, hp_60, h⟩ := h
  obtain ⟨c_61, s_62, hc_63, h⟩ := h
  refine rn_na rfl hx_64.1 hx_64.2 hp_60 hc_63.1 hc_63.2 ?_
  show Zr sc 109 48 [zp a0, zj x1] [zp p_59, zp a0] ((((((w_32.set a0 (zob 1 [f0_40, zp p_27, zj f2_42, zj f3_43, zj f4_44, zj f5_45, zj f6_46, f7_47, f8_48, zj f9_49, zj f10_50, zj f11_51, zj f12_52])).set a0 (zob 1 [f0_40, zp p_27, zj f2_42, zj 4, zj f4_44, zj f5_45, zj f6_46, f7_47, f8_48, zj f9_49, zj f10_50, zj f11_51, zj f12_52])).set a0 (zob 1 [f0_40, zp p_27, zj f2_42, zj 4, zj 2, zj f5_45, zj f6_46, f7_47, f8_48, zj f9_49, zj f10_50, zj f11_51, zj f12_52])) ++ [za (List.replicate (5 : Int).toNat (0 : Int))]).set a0 (zob 1 [f0_40, zp p_27, zj f2_42, zj 4, zj 2, zj f5_45, zj f6_46, zp p_53, f8_48, zj f9_49, zj f10_50, zj f11_51, zj f12_52])) ++ [za (List.replicate (80 : Int).toNat (0 : Int))]) ov w' c_61 s_62
  refine rl_pf rfl (zw_a (zw_s (zw_a (zw_s (zw_s (zw_s hw_39)))))) rfl rfl rfl ?_
  show Zr sc 109 51 [zp a0, zj x1] [] (((((((w_32.set a0 (zob 1 [f0_40, zp p_27, zj f2_42, zj f3_43, zj f4_44, zj f5_45, zj f6_46, f7_47, f8_48, zj f9_49, zj f10_50, zj f11_51, zj f12_52])).set a0 (zob 1 [f0_40, zp p_27, zj f2_42, zj 4, zj f4_44, zj f5_45, zj f6_46, f7_47, f8_48, zj f9_49, zj f10_50, zj f11_51, zj f12_52])).set a0 (zob 1 [f0_40, zp p_27, zj f2_42, zj 4, zj 2, zj f5_45, zj f6_46, f7_47, f8_48, zj f9_49, zj f10_50, zj f11_51, zj f12_52])) ++ [za (List.replicate (5 : Int).toNat (0 : Int))]).set a0 (zob 1 [f0_40, zp p_27, zj f2_42, zj 4, zj 2, zj f5_45, zj f6_46, zp p_53, f8_48, zj f9_49, zj f10_50, zj f11_51, zj f12_52])) ++ [za (List.replicate (80 : Int).toNat (0 : Int))]).set a0 (zob 1 [f0_40, zp p_27, zj f2_42, zj 4, zj 2, zj f5_45, zj f6_46, zp p_53, zp p_59, zj f9_49, zj f10_50, zj f11_51, zj f12_52])) ov w' c_61 s_62
  refine Zr_st (q := (52, [zp a0, zj x1], [zp a0])) rfl rfl rfl ?_
  show Zr sc 109 52 [zp a0, zj x1] [zp a0] (((((((w_32.set a0 (zob 1 [f0_40, zp p_27, zj f2_42, zj f3_43, zj f4_44, zj f5_45, zj f6_46, f7_47, f8_48, zj f9_49, zj f10_50, zj f11_51, zj f12_52])).set a0 (zob 1 [f0_40, zp p_27, zj f2_42, zj 4, zj f4_44, zj f5_45, zj f6_46, f7_47, f8_48, zj f9_49, zj f10_50, zj f11_51, zj f12_52])).set a0 (zob 1 [f0_40, zp p_27, zj f2_42, zj 4, zj 2, zj f5_45, zj f6_46, f7_47, f8_48, zj f9_49, zj f10_50, zj f11_51, zj f12_52])) ++ [za (List.replicate (5 : Int).toNat (0 : Int))]).set a0 (zob 1 [f0_40, zp p_27, zj f2_42, zj 4, zj 2, zj f5_45, zj f6_46, zp p_53, f8_48, zj f9_49, zj f10_50, zj f11_51, zj f12_52])) ++ [za (List.replicate (80 : Int).toNat (0 : Int))]).set a0 (zob 1 [f0_40, zp p_27, zj f2_42, zj 4, zj 2, zj f5_45, zj f6_46, zp p_53, zp p_59, zj f9_49, zj f10_50, zj f11_51, zj f12_52])) ov w' c_61 s_62
  refine Zr_st (q := (53, [zp a0, zj x1], [zj x1, zp a0])) rfl rfl rfl ?_
  show Zr sc 109 53 [zp a0, zj x1] [zj x1, zp a0] (((((((w_32.set a0 (zob 1 [f0_40, zp p_27, zj f2_42, zj f3_43, zj f4_44, zj f5_45, zj f6_46, f7_47, f8_48, zj f9_49, zj f10_50, zj f11_51, zj f12_52])).set a0 (zob 1 [f0_40, zp p_27, zj f2_42, zj 4, zj f4_44, zj f5_45, zj f6_46, f7_47, f8_48, zj f9_49, zj f10_50, zj f11_51, zj f12_52])).set a0 (zob 1 [f0_40, zp p_27, zj f2_42, zj 4, zj 2, zj f5_45, zj f6_46, f7_47, f8_48, zj f9_49, zj f10_50, zj f11_51, zj f12_52])) ++ [za (List.replicate (5 : Int).toNat (0 : Int))]).set a0 (zob 1 [f0_40, zp p_27, zj f2_42, zj 4, zj 2, zj f5_45, zj f6_46, zp p_53, f8_48, zj f9_49, zj f10_50, zj f11_51, zj f12_52])) ++ [za (List.replicate (80 : Int).toNat (0 : Int))]).set a0 (zob 1 [f0_40, zp p_27, zj f2_42, zj 4, zj 2, zj f5_45, zj f6_46, zp p_53, zp p_59, zj f9_49, zj f10_50, zj f11_51, zj f12_52])) ov w' c_61 s_62
  refine rl_pf rfl (zw_s (zw_a (zw_s (zw_a (zw_s (zw_s (zw_s hw_39))))))) rfl rfl rfl ?_
  show Zr sc 109 56 [zp a0, zj x1] [] ((((((((w_32.set a0 (zob 1 [f0_40, zp p_27, zj f2_42, zj f3_43, zj f4_44, zj f5_45, zj f6_46, f7_47, f8_48, zj f9_49, zj f10_50, zj f11_51, zj f12_52])).set a0 (zob 1 [f0_40, zp p_27, zj f2_42, zj 4, zj f4_44, zj f5_45, zj f6_46, f7_47, f8_48, zj f9_49, zj f10_50, zj f11_51, zj f12_52])).set a0 (zob 1 [f0_40, zp p_27, zj f2_42, zj 4, zj 2, zj f5_45, zj f6_46, f7_47, f8_48, zj f9_49, zj f10_50, zj f11_51, zj f12_52])) ++ [za (List.replicate (5 : Int).toNat (0 : Int))]).set a0 (zob 1 [f0_40, zp p_27, zj f2_42, zj 4, zj 2, zj f5_45, zj f6_46, zp p_53, f8_48, zj f9_49, zj f10_50, zj f11_51, zj f12_52])) ++ [za (List.replicate (80 : Int).toNat (0 : Int))]).set a0 (zob 1 [f0_40, zp p_27, zj f2_42, zj 4, zj 2, zj f5_45, zj f6_46, zp p_53, zp p_59, zj f9_49, zj f10_50, zj f11_51, zj f12_52])).set a0 (zob 1 [f0_40, zp p_27, zj x1, zj 4, zj 2, zj f5_45, zj f6_46, zp p_53, zp p_59, zj f9_49, zj f10_50, zj f11_51, zj f12_52])) ov w' c_61 s_62
  obtain ⟨h1, h2, h3, h4⟩ := h
  subst h1; subst h2; subst h3; subst h4
  exact Zr_ret (ins := .return_) rfl rfl

-- HeapwrightLab$Memory.<init>(I)V
set_option maxRecDepth 100000 in
theorem V109_0_2 {sc : List Value} {w w' : List zE} {ov : Option Value} {c s : Nat} {a0 : Nat} {x1 : Int} (h : (∃ p_1 : Nat, p_1 = w.length ∧ (∃ c_3 s_4 : Nat, (c = 1 + c_3 ∧ s = 6 + s_4) ∧ (∃ w_6 : List zE, ∃ c_8 s_9 c_10 s_11 : Nat, Zc sc 110 [zp p_1] (w ++ [zob 0 [.null, .null, .null, .null, zj 0, zj 0]]) none w_6 c_8 s_9 ∧ (c_3 = c_8 + c_10 ∧ s_4 = s_9 + s_11) ∧ (∃ f0_14 : Value, ∃ f1_15 : Value, ∃ f2_16 : Int, ∃ f3_17 : Int, ∃ f4_18 : Int, ∃ f5_19 : Int, ∃ f6_20 : Int, ∃ f7_21 : Value, ∃ f8_22 : Value, ∃ f9_23 : Int, ∃ f10_24 : Int, ∃ f11_25 : Int, ∃ f12_26 : Int, w_6[a0]? = some (zob 2 [f0_14, f1_15, zj f2_16, zj f3_17, zj f4_18, zj f5_19, zj f6_20, f7_21, f8_22, zj f9_23, zj f10_24, zj f11_25, zj f12_26]) ∧ (∃ p_27 : Nat, p_27 = (w_6.set a0 (zob 2 [zp p_1, f1_15, zj f2_16, zj f3_17, zj f4_18, zj f5_19, zj f6_20, f7_21, f8_22, zj f9_23, zj f10_24, zj f11_25, zj f12_26])).length ∧ (∃ c_29 s_30 : Nat, (c_10 = 1 + c_29 ∧ s_11 = 3 + s_30) ∧ (∃ w_32 : List zE, ∃ c_34 s_35 c_36 s_37 : Nat, Zc sc 111 [zp p_27] ((w_6.set a0 (zob 2 [zp p_1, f1_15, zj f2_16, zj f3_17, zj f4_18, zj f5_19, zj f6_20, f7_21, f8_22, zj f9_23, zj f10_24, zj f11_25, zj f12_26])) ++ [zob 3 [.null, .null, zj 0]]) none w_32 c_34 s_35 ∧ (c_29 = c_34 + c_36 ∧ s_30 = s_35 + s_37) ∧ (∃ f0_40 : Value, ∃ f1_41 : Value, ∃ f2_42 : Int, ∃ f3_43 : Int, ∃ f4_44 : Int, ∃ f5_45 : Int, ∃ f6_46 : Int, ∃ f7_47 : Value, ∃ f8_48 : Value, ∃ f9_49 : Int, ∃ f10_50 : Int, ∃ f11_51 : Int, ∃ f12_52 : Int, w_32[a0]? = some (zob 2 [f0_40, f1_41, zj f2_42, zj f3_43, zj f4_44, zj f5_45, zj f6_46, f7_47, f8_48, zj f9_49, zj f10_50, zj f11_51, zj f12_52]) ∧ (((0 : Int) ≤ 5 ∧ 5 ≤ (60000 : Int)) ∧ (∃ p_53 : Nat, p_53 = (((w_32.set a0 (zob 2 [f0_40, zp p_27, zj f2_42, zj f3_43, zj f4_44, zj f5_45, zj f6_46, f7_47, f8_48, zj f9_49, zj f10_50, zj f11_51, zj f12_52])).set a0 (zob 2 [f0_40, zp p_27, zj f2_42, zj 4, zj f4_44, zj f5_45, zj f6_46, f7_47, f8_48, zj f9_49, zj f10_50, zj f11_51, zj f12_52])).set a0 (zob 2 [f0_40, zp p_27, zj f2_42, zj 4, zj 2, zj f5_45, zj f6_46, f7_47, f8_48, zj f9_49, zj f10_50, zj f11_51, zj f12_52])).length ∧ (∃ c_55 s_56 : Nat, (c_36 = 1 + c_55 ∧ s_37 = (5 : Int).toNat + s_56) ∧ (((0 : Int) ≤ 80 ∧ 80 ≤ (60000 : Int)) ∧ (∃ p_59 : Nat, p_59 = (((((w_32.set a0 (zob 2 [f0_40, zp p_27, zj f2_42, zj f3_43, zj f4_44, zj f5_45, zj f6_46, f7_47, f8_48, zj f9_49, zj f10_50, zj f11_51, zj f12_52])).set a0 (zob 2 [f0_40, zp p_27, zj f2_42, zj 4, zj f4_44, zj f5_45, zj f6_46, f7_47, f8_48, zj f9_49, zj f10_50, zj f11_51, zj f12_52])).set a0 (zob 2 [f0_40, zp p_27, zj f2_42, zj 4, zj 2, zj f5_45, zj f6_46, f7_47, f8_48, zj f9_49, zj f10_50, zj f11_51, zj f12_52])) ++ [za (List.replicate (5 : Int).toNat (0 : Int))]).set a0 (zob 2 [f0_40, zp p_27, zj f2_42, zj 4, zj 2, zj f5_45, zj f6_46, zp p_53, f8_48, zj f9_49, zj f10_50, zj f11_51, zj f12_52])).length ∧ (∃ c_61 s_62 : Nat, (c_55 = 1 + c_61 ∧ s_56 = (80 : Int).toNat + s_62) ∧ (ov = none ∧ w' = ((((((((w_32.set a0 (zob 2 [f0_40, zp p_27, zj f2_42, zj f3_43, zj f4_44, zj f5_45, zj f6_46, f7_47, f8_48, zj f9_49, zj f10_50, zj f11_51, zj f12_52])).set a0 (zob 2 [f0_40, zp p_27, zj f2_42, zj 4, zj f4_44, zj f5_45, zj f6_46, f7_47, f8_48, zj f9_49, zj f10_50, zj f11_51, zj f12_52])).set a0 (zob 2 [f0_40, zp p_27, zj f2_42, zj 4, zj 2, zj f5_45, zj f6_46, f7_47, f8_48, zj f9_49, zj f10_50, zj f11_51, zj f12_52])) ++ [za (List.replicate (5 : Int).toNat (0 : Int))]).set a0 (zob 2 [f0_40, zp p_27, zj f2_42, zj 4, zj 2, zj f5_45, zj f6_46, zp p_53, f8_48, zj f9_49, zj f10_50, zj f11_51, zj f12_52])) ++ [za (List.replicate (80 : Int).toNat (0 : Int))]).set a0 (zob 2 [f0_40, zp p_27, zj f2_42, zj 4, zj 2, zj f5_45, zj f6_46, zp p_53, zp p_59, zj f9_49, zj f10_50, zj f11_51, zj f12_52])).set a0 (zob 2 [f0_40, zp p_27, zj x1, zj 4, zj 2, zj f5_45, zj f6_46, zp p_53, zp p_59, zj f9_49, zj f10_50, zj f11_51, zj f12_52])) ∧ c_61 = 0 ∧ s_62 = 0)))))))))))))))) : Zr sc 109 0 [zp a0, zj x1] [] w ov w' c s := by
  refine Zr_st (q := (1, [zp a0, zj x1], [zp a0])) rfl rfl rfl ?_
  show Zr sc 109 1 [zp a0, zj x1] [zp a0] w ov w' c s
  refine Zr_obj (ins := .invokespecial 3) (rest := []) rfl rfl rfl rfl (zinv_s2 (rest := []) rfl rfl rfl rfl rfl) rfl ?_
  show Zr sc 109 4 [zp a0, zj x1] [] w ov w' c s
  refine Zr_st (q := (5, [zp a0, zj x1], [zp a0])) rfl rfl rfl ?_
  show Zr sc 109 5 [zp a0, zj x1] [zp a0] w ov w' c s
  obtain ⟨p_1, hp_2, h⟩ := h
  obtain ⟨c_3, s_4, hc_5, h⟩ := h
  refine rn_new (X := zob 0 [.null, .null, .null, .null, zj 0, zj 0]) rfl rfl hp_2 rfl hc_5.1 hc_5.2 ?_
  show Zr sc 109 8 [zp a0, zj x1] [zp p_1, zp a0] (w ++ [zob 0 [.null, .null, .null, .null, zj 0, zj 0]]) ov w' c_3 s_4
  refine Zr_st (q := (9, [zp a0, zj x1], [zp p_1, zp p_1, zp a0])) rfl rfl rfl ?_
  show Zr sc 109 9 [zp a0, zj x1] [zp p_1, zp p_1, zp a0] (w ++ [zob 0 [.null, .null, .null, .null, zj 0, zj 0]]) ov w' c_3 s_4
  obtain ⟨w_6, c_8, s_9, c_10, s_11, hk_7, hc_12, h⟩ := h
  refine rl_cal (ins := .invokespecial 11) (rest := [zp p_1, zp a0]) rfl rfl rfl rfl (zinv_s rfl rfl rfl rfl) rfl rfl hk_7 ?_ hc_12.1 hc_12.2
  show Zr sc 109 12 [zp a0, zj x1] [zp p_1, zp a0] w_6 ov w' c_10 s_11
  obtain ⟨f0_14, f1_15, f2_16, f3_17, f4_18, f5_19, f6_20, f7_21, f8_22, f9_23, f10_24, f11_25, f12_26, hw_13, h⟩ := h
  refine rl_pf rfl hw_13 rfl rfl rfl ?_
  show Zr sc 109 15 [zp a0, zj x1] [] (w_6.set a0 (zob 2 [zp p_1, f1_15, zj f2_16, zj f3_17, zj f4_18, zj f5_19, zj f6_20, f7_21, f8_22, zj f9_23, zj f10_24, zj f11_25, zj f12_26])) ov w' c_10 s_11
  refine Zr_st (q := (16, [zp a0, zj x1], [zp a0])) rfl rfl rfl ?_
  show Zr sc 109 16 [zp a0, zj x1] [zp a0] (w_6.set a0 (zob 2 [zp p_1, f1_15, zj f2_16, zj f3_17, zj f4_18, zj f5_19, zj f6_20, f7_21, f8_22, zj f9_23, zj f10_24, zj f11_25, zj f12_26])) ov w' c_10 s_11
  obtain ⟨p_27, hp_28, h⟩ := h
  obtain ⟨c_29, s_30, hc_31, h⟩ := h
  refine rn_new (X := zob 3 [.null, .null, zj 0]) rfl rfl hp_28 rfl hc_31.1 hc_31.2 ?_
  show Zr sc 109 19 [zp a0, zj x1] [zp p_27, zp a0] ((w_6.set a0 (zob 2 [zp p_1, f1_15, zj f2_16, zj f3_17, zj f4_18, zj f5_19, zj f6_20, f7_21, f8_22, zj f9_23, zj f10_24, zj f11_25, zj f12_26])) ++ [zob 3 [.null, .null, zj 0]]) ov w' c_29 s_30
  refine Zr_st (q := (20, [zp a0, zj x1], [zp p_27, zp p_27, zp a0])) rfl rfl rfl ?_
  show Zr sc 109 20 [zp a0, zj x1] [zp p_27, zp p_27, zp a0] ((w_6.set a0 (zob 2 [zp p_1, f1_15, zj f2_16, zj f3_17, zj f4_18, zj f5_19, zj f6_20, f7_21, f8_22, zj f9_23, zj f10_24, zj f11_25, zj f12_26])) ++ [zob 3 [.null, .null, zj 0]]) ov w' c_29 s_30
  obtain ⟨w_32, c_34, s_35, c_36, s_37, hk_33, hc_38, h⟩ := h
  refine rl_cal (ins := .invokespecial 20) (rest := [zp p_27, zp a0]) rfl rfl rfl rfl (zinv_s rfl rfl rfl rfl) rfl rfl hk_33 ?_ hc_38.1 hc_38.2
  show Zr sc 109 23 [zp a0, zj x1] [zp p_27, zp a0] w_32 ov w' c_36 s_37
  obtain ⟨f0_40, f1_41, f2_42, f3_43, f4_44, f5_45, f6_46, f7_47, f8_48, f9_49, f10_50, f11_51, f12_52, hw_39, h⟩ := h
  refine rl_pf rfl hw_39 rfl rfl rfl ?_
  show Zr sc 109 26 [zp a0, zj x1] [] (w_32.set a0 (zob 2 [f0_40, zp p_27, zj f2_42, zj f3_43, zj f4_44, zj f5_45, zj f6_46, f7_47, f8_48, zj f9_49, zj f10_50, zj f11_51, zj f12_52])) ov w' c_36 s_37
  refine Zr_st (q := (27, [zp a0, zj x1], [zp a0])) rfl rfl rfl ?_
  show Zr sc 109 27 [zp a0, zj x1] [zp a0] (w_32.set a0 (zob 2 [f0_40, zp p_27, zj f2_42, zj f3_43, zj f4_44, zj f5_45, zj f6_46, f7_47, f8_48, zj f9_49, zj f10_50, zj f11_51, zj f12_52])) ov w' c_36 s_37
  refine rl_ic rfl ?_
  show Zr sc 109 28 [zp a0, zj x1] [zj 4, zp a0] (w_32.set a0 (zob 2 [f0_40, zp p_27, zj f2_42, zj f3_43, zj f4_44, zj f5_45, zj f6_46, f7_47, f8_48, zj f9_49, zj f10_50, zj f11_51, zj f12_52])) ov w' c_36 s_37
  refine rl_pf rfl (zw_s hw_39) rfl rfl rfl ?_
  show Zr sc 109 31 [zp a0, zj x1] [] ((w_32.set a0 (zob 2 [f0_40, zp p_27, zj f2_42, zj f3_43, zj f4_44, zj f5_45, zj f6_46, f7_47, f8_48, zj f9_49, zj f10_50, zj f11_51, zj f12_52])).set a0 (zob 2 [f0_40, zp p_27, zj f2_42, zj 4, zj f4_44, zj f5_45, zj f6_46, f7_47, f8_48, zj f9_49, zj f10_50, zj f11_51, zj f12_52])) ov w' c_36 s_37
  refine Zr_st (q := (32, [zp a0, zj x1], [zp a0])) rfl rfl rfl ?_
  show Zr sc 109 32 [zp a0, zj x1] [zp a0] ((w_32.set a0 (zob 2 [f0_40, zp p_27, zj f2_42, zj f3_43, zj f4_44, zj f5_45, zj f6_46, f7_47, f8_48, zj f9_49, zj f10_50, zj f11_51, zj f12_52])).set a0 (zob 2 [f0_40, zp p_27, zj f2_42, zj 4, zj f4_44, zj f5_45, zj f6_46, f7_47, f8_48, zj f9_49, zj f10_50, zj f11_51, zj f12_52])) ov w' c_36 s_37
  refine rl_ic rfl ?_
  show Zr sc 109 33 [zp a0, zj x1] [zj 2, zp a0] ((w_32.set a0 (zob 2 [f0_40, zp p_27, zj f2_42, zj f3_43, zj f4_44, zj f5_45, zj f6_46, f7_47, f8_48, zj f9_49, zj f10_50, zj f11_51, zj f12_52])).set a0 (zob 2 [f0_40, zp p_27, zj f2_42, zj 4, zj f4_44, zj f5_45, zj f6_46, f7_47, f8_48, zj f9_49, zj f10_50, zj f11_51, zj f12_52])) ov w' c_36 s_37
  refine rl_pf rfl (zw_s (zw_s hw_39)) rfl rfl rfl ?_
  show Zr sc 109 36 [zp a0, zj x1] [] (((w_32.set a0 (zob 2 [f0_40, zp p_27, zj f2_42, zj f3_43, zj f4_44, zj f5_45, zj f6_46, f7_47, f8_48, zj f9_49, zj f10_50, zj f11_51, zj f12_52])).set a0 (zob 2 [f0_40, zp p_27, zj f2_42, zj 4, zj f4_44, zj f5_45, zj f6_46, f7_47, f8_48, zj f9_49, zj f10_50, zj f11_51, zj f12_52])).set a0 (zob 2 [f0_40, zp p_27, zj f2_42, zj 4, zj 2, zj f5_45, zj f6_46, f7_47, f8_48, zj f9_49, zj f10_50, zj f11_51, zj f12_52])) ov w' c_36 s_37
  refine Zr_st (q := (37, [zp a0, zj x1], [zp a0])) rfl rfl rfl ?_
  show Zr sc 109 37 [zp a0, zj x1] [zp a0] (((w_32.set a0 (zob 2 [f0_40, zp p_27, zj f2_42, zj f3_43, zj f4_44, zj f5_45, zj f6_46, f7_47, f8_48, zj f9_49, zj f10_50, zj f11_51, zj f12_52])).set a0 (zob 2 [f0_40, zp p_27, zj f2_42, zj 4, zj f4_44, zj f5_45, zj f6_46, f7_47, f8_48, zj f9_49, zj f10_50, zj f11_51, zj f12_52])).set a0 (zob 2 [f0_40, zp p_27, zj f2_42, zj 4, zj 2, zj f5_45, zj f6_46, f7_47, f8_48, zj f9_49, zj f10_50, zj f11_51, zj f12_52])) ov w' c_36 s_37
  refine rl_ic rfl ?_
  show Zr sc 109 38 [zp a0, zj x1] [zj 5, zp a0] (((w_32.set a0 (zob 2 [f0_40, zp p_27, zj f2_42, zj f3_43, zj f4_44, zj f5_45, zj f6_46, f7_47, f8_48, zj f9_49, zj f10_50, zj f11_51, zj f12_52])).set a0 (zob 2 [f0_40, zp p_27, zj f2_42, zj 4, zj f4_44, zj f5_45, zj f6_46, f7_47, f8_48, zj f9_49, zj f10_50, zj f11_51, zj f12_52])).set a0 (zob 2 [f0_40, zp p_27, zj f2_42, zj 4, zj 2, zj f5_45, zj f6_46, f7_47, f8_48, zj f9_49, zj f10_50, zj f11_51, zj f12_52])) ov w' c_36 s_37
  obtain ⟨hx_58, h⟩ := h
  obtain ⟨p_53, hp_54, h⟩ := h
  obtain ⟨c_55, s_56, hc_57, h⟩ := h
  refine rn_na rfl hx_58.1 hx_58.2 hp_54 hc_57.1 hc_57.2 ?_
  show Zr sc 109 40 [zp a0, zj x1] [zp p_53, zp a0] ((((w_32.set a0 (zob 2 [f0_40, zp p_27, zj f2_42, zj f3_43, zj f4_44, zj f5_45, zj f6_46, f7_47, f8_48, zj f9_49, zj f10_50, zj f11_51, zj f12_52])).set a0 (zob 2 [f0_40, zp p_27, zj f2_42, zj 4, zj f4_44, zj f5_45, zj f6_46, f7_47, f8_48, zj f9_49, zj f10_50, zj f11_51, zj f12_52])).set a0 (zob 2 [f0_40, zp p_27, zj f2_42, zj 4, zj 2, zj f5_45, zj f6_46, f7_47, f8_48, zj f9_49, zj f10_50, zj f11_51, zj f12_52])) ++ [za (List.replicate (5 : Int).toNat (0 : Int))]) ov w' c_55 s_56
  refine rl_pf rfl (zw_a (zw_s (zw_s (zw_s hw_39)))) rfl rfl rfl ?_
  show Zr sc 109 43 [zp a0, zj x1] [] (((((w_32.set a0 (zob 2 [f0_40, zp p_27, zj f2_42, zj f3_43, zj f4_44, zj f5_45, zj f6_46, f7_47, f8_48, zj f9_49, zj f10_50, zj f11_51, zj f12_52])).set a0 (zob 2 [f0_40, zp p_27, zj f2_42, zj 4, zj f4_44, zj f5_45, zj f6_46, f7_47, f8_48, zj f9_49, zj f10_50, zj f11_51, zj f12_52])).set a0 (zob 2 [f0_40, zp p_27, zj f2_42, zj 4, zj 2, zj f5_45, zj f6_46, f7_47, f8_48, zj f9_49, zj f10_50, zj f11_51, zj f12_52])) ++ [za (List.replicate (5 : Int).toNat (0 : Int))]).set a0 (zob 2 [f0_40, zp p_27, zj f2_42, zj 4, zj 2, zj f5_45, zj f6_46, zp p_53, f8_48, zj f9_49, zj f10_50, zj f11_51, zj f12_52])) ov w' c_55 s_56
  refine Zr_st (q := (44, [zp a0, zj x1], [zp a0])) rfl rfl rfl ?_
  show Zr sc 109 44 [zp a0, zj x1] [zp a0] (((((w_32.set a0 (zob 2 [f0_40, zp p_27, zj f2_42, zj f3_43, zj f4_44, zj f5_45, zj f6_46, f7_47, f8_48, zj f9_49, zj f10_50, zj f11_51, zj f12_52])).set a0 (zob 2 [f0_40, zp p_27, zj f2_42, zj 4, zj f4_44, zj f5_45, zj f6_46, f7_47, f8_48, zj f9_49, zj f10_50, zj f11_51, zj f12_52])).set a0 (zob 2 [f0_40, zp p_27, zj f2_42, zj 4, zj 2, zj f5_45, zj f6_46, f7_47, f8_48, zj f9_49, zj f10_50, zj f11_51, zj f12_52])) ++ [za (List.replicate (5 : Int).toNat (0 : Int))]).set a0 (zob 2 [f0_40, zp p_27, zj f2_42, zj 4, zj 2, zj f5_45, zj f6_46, zp p_53, f8_48, zj f9_49, zj f10_50, zj f11_51, zj f12_52])) ov w' c_55 s_56
  refine rl_bi rfl (by decide) ?_
  show Zr sc 109 46 [zp a0, zj x1] [zj 80, zp a0] (((((w_32.set a0 (zob 2 [f0_40, zp p_27, zj f2_42, zj f3_43, zj f4_44, zj f5_45, zj f6_46, f7_47, f8_48, zj f9_49, zj f10_50, zj f11_51, zj f12_52])).set a0 (zob 2 [f0_40, zp p_27, zj f2_42, zj 4, zj f4_44, zj f5_45, zj f6_46, f7_47, f8_48, zj f9_49, zj f10_50, zj f11_51, zj f12_52])).set a0 (zob 2 [f0_40, zp p_27, zj f2_42, zj 4, zj 2, zj f5_45, zj f6_46, f7_47, f8_48, zj f9_49, zj f10_50, zj f11_51, zj f12_52])) ++ [za (List.replicate (5 : Int).toNat (0 : Int))]).set a0 (zob 2 [f0_40, zp p_27, zj f2_42, zj 4, zj 2, zj f5_45, zj f6_46, zp p_53, f8_48, zj f9_49, zj f10_50, zj f11_51, zj f12_52])) ov w' c_55 s_56
  obtain ⟨hx_64, h⟩ := h
  obtain ⟨p_59, hp_60, h⟩ := h
  obtain ⟨c_61, s_62, hc_63, h⟩ := h
  refine rn_na rfl hx_64.1 hx_64.2 hp_60 hc_63.1 hc_63.2 ?_
  show Zr sc 109 48 [zp a0, zj x1] [zp p_59, zp a0] ((((((w_32.set a0 (zob 2 [f0_40, zp p_27, zj f2_42, zj f3_43, zj f4_44, zj f5_45, zj f6_46, f7_47, f8_48, zj f9_49, zj f10_50, zj f11_51, zj f12_52])).set a0 (zob 2 [f0_40, zp p_27, zj f2_42, zj 4, zj f4_44, zj f5_45, zj f6_46, f7_47, f8_48, zj f9_49, zj f10_50, zj f11_51, zj f12_52])).set a0 (zob 2 [f0_40, zp p_27, zj f2_42, zj 4, zj 2, zj f5_45, zj f6_46, f7_47, f8_48, zj f9_49, zj f10_50, zj f11_51, zj f12_52])) ++ [za (List.replicate (5 : Int).toNat (0 : Int))]).set a0 (zob 2 [f0_40, zp p_27, zj f2_42, zj 4, zj 2, zj f5_45, zj f6_46, zp p_53, f8_48, zj f9_49, zj f10_50, zj f11_51, zj f12_52])) ++ [za (List.replicate (80 : Int).toNat (0 : Int))]) ov w' c_61 s_62
  refine rl_pf rfl (zw_a (zw_s (zw_a (zw_s (zw_s (zw_s hw_39)))))) rfl rfl rfl ?_
  show Zr sc 109 51 [zp a0, zj x1] [] (((((((w_32.set a0 (zob 2 [f0_40, zp p_27, zj f2_42, zj f3_43, zj f4_44, zj f5_45, zj f6_46, f7_47, f8_48, zj f9_49, zj f10_50, zj f11_51, zj f12_52])).set a0 (zob 2 [f0_40, zp p_27, zj f2_42, zj 4, zj f4_44, zj f5_45, zj f6_46, f7_47, f8_48, zj f9_49, zj f10_50, zj f11_51, zj f12_52])).set a0 (zob 2 [f0_40, zp p_27, zj f2_42, zj 4, zj 2, zj f5_45, zj f6_46, f7_47, f8_48, zj f9_49, zj f10_50, zj f11_51, zj f12_52])) ++ [za (List.replicate (5 : Int).toNat (0 : Int))]).set a0 (zob 2 [f0_40, zp p_27, zj f2_42, zj 4, zj 2, zj f5_45, zj f6_46, zp p_53, f8_48, zj f9_49, zj f10_50, zj f11_51, zj f12_52])) ++ [za (List.replicate (80 : Int).toNat (0 : Int))]).set a0 (zob 2 [f0_40, zp p_27, zj f2_42, zj 4, zj 2, zj f5_45, zj f6_46, zp p_53, zp p_59, zj f9_49, zj f10_50, zj f11_51, zj f12_52])) ov w' c_61 s_62
  refine Zr_st (q := (52, [zp a0, zj x1], [zp a0])) rfl rfl rfl ?_
  show Zr sc 109 52 [zp a0, zj x1] [zp a0] (((((((w_32.set a0 (zob 2 [f0_40, zp p_27, zj f2_42, zj f3_43, zj f4_44, zj f5_45, zj f6_46, f7_47, f8_48, zj f9_49, zj f10_50, zj f11_51, zj f12_52])).set a0 (zob 2 [f0_40, zp p_27, zj f2_42, zj 4, zj f4_44, zj f5_45, zj f6_46, f7_47, f8_48, zj f9_49, zj f10_50, zj f11_51, zj f12_52])).set a0 (zob 2 [f0_40, zp p_27, zj f2_42, zj 4, zj 2, zj f5_45, zj f6_46, f7_47, f8_48, zj f9_49, zj f10_50, zj f11_51, zj f12_52])) ++ [za (List.replicate (5 : Int).toNat (0 : Int))]).set a0 (zob 2 [f0_40, zp p_27, zj f2_42, zj 4, zj 2, zj f5_45, zj f6_46, zp p_53, f8_48, zj f9_49, zj f10_50, zj f11_51, zj f12_52])) ++ [za (List.replicate (80 : Int).toNat (0 : Int))]).set a0 (zob 2 [f0_40, zp p_27, zj f2_42, zj 4, zj 2, zj f5_45, zj f6_46, zp p_53, zp p_59, zj f9_49, zj f10_50, zj f11_51, zj f12_52])) ov w' c_61 s_62
  refine Zr_st (q := (53, [zp a0, zj x1], [zj x1, zp a0])) rfl rfl rfl ?_
  show Zr sc 109 53 [zp a0, zj x1] [zj x1, zp a0] (((((((w_32.set a0 (zob 2 [f0_40, zp p_27, zj f2_42, zj f3_43, zj f4_44, zj f5_45, zj f6_46, f7_47, f8_48, zj f9_49, zj f10_50, zj f11_51, zj f12_52])).set a0 (zob 2 [f0_40, zp p_27, zj f2_42, zj 4, zj f4_44, zj f5_45, zj f6_46, f7_47, f8_48, zj f9_49, zj f10_50, zj f11_51, zj f12_52])).set a0 (zob 2 [f0_40, zp p_27, zj f2_42, zj 4, zj 2, zj f5_45, zj f6_46, f7_47, f8_48, zj f9_49, zj f10_50, zj f11_51, zj f12_52])) ++ [za (List.replicate (5 : Int).toNat (0 : Int))]).set a0 (zob 2 [f0_40, zp p_27, zj f2_42, zj 4, zj 2, zj f5_45, zj f6_46, zp p_53, f8_48, zj f9_49, zj f10_50, zj f11_51, zj f12_52])) ++ [za (List.replicate (80 : Int).toNat (0 : Int))]).set a0 (zob 2 [f0_40, zp p_27, zj f2_42, zj 4, zj 2, zj f5_45, zj f6_46, zp p_53, zp p_59, zj f9_49, zj f10_50, zj f11_51, zj f12_52])) ov w' c_61 s_62
  refine rl_pf rfl (zw_s (zw_a (zw_s (zw_a (zw_s (zw_s (zw_s hw_39))))))) rfl rfl rfl ?_
  show Zr sc 109 56 [zp a0, zj x1] [] ((((((((w_32.set a0 (zob 2 [f0_40, zp p_27, zj f2_42, zj f3_43, zj f4_44, zj f5_45, zj f6_46, f7_47, f8_48, zj f9_49, zj f10_50, zj f11_51, zj f12_52])).set a0 (zob 2 [f0_40, zp p_27, zj f2_42, zj 4, zj f4_44, zj f5_45, zj f6_46, f7_47, f8_48, zj f9_49, zj f10_50, zj f11_51, zj f12_52])).set a0 (zob 2 [f0_40, zp p_27, zj f2_42, zj 4, zj 2, zj f5_45, zj f6_46, f7_47, f8_48, zj f9_49, zj f10_50, zj f11_51, zj f12_52])) ++ [za (List.replicate (5 : Int).toNat (0 : Int))]).set a0 (zob 2 [f0_40, zp p_27, zj f2_42, zj 4, zj 2, zj f5_45, zj f6_46, zp p_53, f8_48, zj f9_49, zj f10_50, zj f11_51, zj f12_52])) ++ [za (List.replicate (80 : Int).toNat (0 : Int))]).set a0 (zob 2 [f0_40, zp p_27, zj f2_42, zj 4, zj 2, zj f5_45, zj f6_46, zp p_53, zp p_59, zj f9_49, zj f10_50, zj f11_51, zj f12_52])).set a0 (zob 2 [f0_40, zp p_27, zj x1, zj 4, zj 2, zj f5_45, zj f6_46, zp p_53, zp p_59, zj f9_49, zj f10_50, zj f11_51, zj f12_52])) ov w' c_61 s_62
  obtain ⟨h1, h2, h3, h4⟩ := h
  subst h1; subst h2; subst h3; subst h4
  exact Zr_ret (ins := .return_) rfl rfl

-- HeapwrightLab$Memory.<init>(I)V
set_option maxRecDepth 100000 in
theorem V109_0_4 {sc : List Value} {w w' : List zE} {ov : Option Value} {c s : Nat} {a0 : Nat} {x1 : Int} (h : (∃ p_1 : Nat, p_1 = w.length ∧ (∃ c_3 s_4 : Nat, (c = 1 + c_3 ∧ s = 6 + s_4) ∧ (∃ w_6 : List zE, ∃ c_8 s_9 c_10 s_11 : Nat, Zc sc 110 [zp p_1] (w ++ [zob 0 [.null, .null, .null, .null, zj 0, zj 0]]) none w_6 c_8 s_9 ∧ (c_3 = c_8 + c_10 ∧ s_4 = s_9 + s_11) ∧ (∃ f0_14 : Value, ∃ f1_15 : Value, ∃ f2_16 : Int, ∃ f3_17 : Int, ∃ f4_18 : Int, ∃ f5_19 : Int, ∃ f6_20 : Int, ∃ f7_21 : Value, ∃ f8_22 : Value, ∃ f9_23 : Int, ∃ f10_24 : Int, ∃ f11_25 : Int, ∃ f12_26 : Int, ∃ f13_27 : Value, w_6[a0]? = some (zob 4 [f0_14, f1_15, zj f2_16, zj f3_17, zj f4_18, zj f5_19, zj f6_20, f7_21, f8_22, zj f9_23, zj f10_24, zj f11_25, zj f12_26, f13_27]) ∧ (∃ p_28 : Nat, p_28 = (w_6.set a0 (zob 4 [zp p_1, f1_15, zj f2_16, zj f3_17, zj f4_18, zj f5_19, zj f6_20, f7_21, f8_22, zj f9_23, zj f10_24, zj f11_25, zj f12_26, f13_27])).length ∧ (∃ c_30 s_31 : Nat, (c_10 = 1 + c_30 ∧ s_11 = 3 + s_31) ∧ (∃ w_33 : List zE, ∃ c_35 s_36 c_37 s_38 : Nat, Zc sc 111 [zp p_28] ((w_6.set a0 (zob 4 [zp p_1, f1_15, zj f2_16, zj f3_17, zj f4_18, zj f5_19, zj f6_20, f7_21, f8_22, zj f9_23, zj f10_24, zj f11_25, zj f12_26, f13_27])) ++ [zob 3 [.null, .null, zj 0]]) none w_33 c_35 s_36 ∧ (c_30 = c_35 + c_37 ∧ s_31 = s_36 + s_38) ∧ (∃ f0_41 : Value, ∃ f1_42 : Value, ∃ f2_43 : Int, ∃ f3_44 : Int, ∃ f4_45 : Int, ∃ f5_46 : Int, ∃ f6_47 : Int, ∃ f7_48 : Value, ∃ f8_49 : Value, ∃ f9_50 : Int, ∃ f10_51 : Int, ∃ f11_52 : Int, ∃ f12_53 : Int, ∃ f13_54 : Value, w_33[a0]? = some (zob 4 [f0_41, f1_42, zj f2_43, zj f3_44, zj f4_45, zj f5_46, zj f6_47, f7_48, f8_49, zj f9_50, zj f10_51, zj f11_52, zj f12_53, f13_54]) ∧ (((0 : Int) ≤ 5 ∧ 5 ≤ (60000 : Int)) ∧ (∃ p_55 : Nat, p_55 = (((w_33.set a0 (zob 4 [f0_41, zp p_28, zj f2_43, zj f3_44, zj f4_45, zj f5_46, zj f6_47, f7_48, f8_49, zj f9_50, zj f10_51, zj f11_52, zj f12_53, f13_54])).set a0 (zob 4 [f0_41, zp p_28, zj f2_43, zj 4, zj f4_45, zj f5_46, zj f6_47, f7_48, f8_49, zj f9_50, zj f10_51, zj f11_52, zj f12_53, f13_54])).set a0 (zob 4 [f0_41, zp p_28, zj f2_43, zj 4, zj 2, zj f5_46, zj f6_47, f7_48, f8_49, zj f9_50, zj f10_51, zj f11_52, zj f12_53, f13_54])).length ∧ (∃ c_57 s_58 : Nat, (c_37 = 1 + c_57 ∧ s_38 = (5 : Int).toNat + s_58) ∧ (((0 : Int) ≤ 80 ∧ 80 ≤ (60000 : Int)) ∧ (∃ p_61 : Nat, p_61 = (((((w_33.set a0 (zob 4 [f0_41, zp p_28, zj f2_43, zj f3_44, zj f4_45, zj f5_46, zj f6_47, f7_48, f8_49, zj f9_50, zj f10_51, zj f11_52, zj f12_53, f13_54])).set a0 (zob 4 [f0_41, zp p_28, zj f2_43, zj 4, zj f4_45, zj f5_46, zj f6_47, f7_48, f8_49, zj f9_50, zj f10_51, zj f11_52, zj f12_53, f13_54])).set a0 (zob 4 [f0_41, zp p_28, zj f2_43, zj 4, zj 2, zj f5_46, zj f6_47, f7_48, f8_49, zj f9_50, zj f10_51, zj f11_52, zj f12_53, f13_54])) ++ [za (List.replicate (5 : Int).toNat (0 : Int))]).set a0 (zob 4 [f0_41, zp p_28, zj f2_43, zj 4, zj 2, zj f5_46, zj f6_47, zp p_55, f8_49, zj f9_50, zj f10_51, zj f11_52, zj f12_53, f13_54])).length ∧ (∃ c_63 s_64 : Nat, (c_57 = 1 + c_63 ∧ s_58 = (80 : Int).toNat + s_64) ∧ (ov = none ∧ w' = ((((((((w_33.set a0 (zob 4 [f0_41, zp p_28, zj f2_43, zj f3_44, zj f4_45, zj f5_46, zj f6_47, f7_48, f8_49, zj f9_50, zj f10_51, zj f11_52, zj f12_53, f13_54])).set a0 (zob 4 [f0_41, zp p_28, zj f2_43, zj 4, zj f4_45, zj f5_46, zj f6_47, f7_48, f8_49, zj f9_50, zj f10_51, zj f11_52, zj f12_53, f13_54])).set a0 (zob 4 [f0_41, zp p_28, zj f2_43, zj 4, zj 2, zj f5_46, zj f6_47, f7_48, f8_49, zj f9_50, zj f10_51, zj f11_52, zj f12_53, f13_54])) ++ [za (List.replicate (5 : Int).toNat (0 : Int))]).set a0 (zob 4 [f0_41, zp p_28, zj f2_43, zj 4, zj 2, zj f5_46, zj f6_47, zp p_55, f8_49, zj f9_50, zj f10_51, zj f11_52, zj f12_53, f13_54])) ++ [za (List.replicate (80 : Int).toNat (0 : Int))]).set a0 (zob 4 [f0_41, zp p_28, zj f2_43, zj 4, zj 2, zj f5_46, zj f6_47, zp p_55, zp p_61, zj f9_50, zj f10_51, zj f11_52, zj f12_53, f13_54])).set a0 (zob 4 [f0_41, zp p_28, zj x1, zj 4, zj 2, zj f5_46, zj f6_47, zp p_55, zp p_61, zj f9_50, zj f10_51, zj f11_52, zj f12_53, f13_54])) ∧ c_63 = 0 ∧ s_64 = 0)))))))))))))))) : Zr sc 109 0 [zp a0, zj x1] [] w ov w' c s := by
  refine Zr_st (q := (1, [zp a0, zj x1], [zp a0])) rfl rfl rfl ?_
  show Zr sc 109 1 [zp a0, zj x1] [zp a0] w ov w' c s
  refine Zr_obj (ins := .invokespecial 3) (rest := []) rfl rfl rfl rfl (zinv_s2 (rest := []) rfl rfl rfl rfl rfl) rfl ?_
  show Zr sc 109 4 [zp a0, zj x1] [] w ov w' c s
  refine Zr_st (q := (5, [zp a0, zj x1], [zp a0])) rfl rfl rfl ?_
  show Zr sc 109 5 [zp a0, zj x1] [zp a0] w ov w' c s
  obtain ⟨p_1, hp_2, h⟩ := h
  obtain ⟨c_3, s_4, hc_5, h⟩ := h
  refine rn_new (X := zob 0 [.null, .null, .null, .null, zj 0, zj 0]) rfl rfl hp_2 rfl hc_5.1 hc_5.2 ?_
  show Zr sc 109 8 [zp a0, zj x1] [zp p_1, zp a0] (w ++ [zob 0 [.null, .null, .null, .null, zj 0, zj 0]]) ov w' c_3 s_4
  refine Zr_st (q := (9, [zp a0, zj x1], [zp p_1, zp p_1, zp a0])) rfl rfl rfl ?_
  show Zr sc 109 9 [zp a0, zj x1] [zp p_1, zp p_1, zp a0] (w ++ [zob 0 [.null, .null, .null, .null, zj 0, zj 0]]) ov w' c_3 s_4
  obtain ⟨w_6, c_8, s_9, c_10, s_11, hk_7, hc_12, h⟩ := h
  refine rl_cal (ins := .invokespecial 11) (rest := [zp p_1, zp a0]) rfl rfl rfl rfl (zinv_s rfl rfl rfl rfl) rfl rfl hk_7 ?_ hc_12.1 hc_12.2
  show Zr sc 109 12 [zp a0, zj x1] [zp p_1, zp a0] w_6 ov w' c_10 s_11
  obtain ⟨f0_14, f1_15, f2_16, f3_17, f4_18, f5_19, f6_20, f7_21, f8_22, f9_23, f10_24, f11_25, f12_26, f13_27, hw_13, h⟩ := h
  refine rl_pf rfl hw_13 rfl rfl rfl ?_
  show Zr sc 109 15 [zp a0, zj x1] [] (w_6.set a0 (zob 4 [zp p_1, f1_15, zj f2_16, zj f3_17, zj f4_18, zj f5_19, zj f6_20, f7_21, f8_22, zj f9_23, zj f10_24, zj f11_25, zj f12_26, f13_27])) ov w' c_10 s_11
  refine Zr_st (q := (16, [zp a0, zj x1], [zp a0])) rfl rfl rfl ?_
  show Zr sc 109 16 [zp a0, zj x1] [zp a0] (w_6.set a0 (zob 4 [zp p_1, f1_15, zj f2_16, zj f3_17, zj f4_18, zj f5_19, zj f6_20, f7_21, f8_22, zj f9_23, zj f10_24, zj f11_25, zj f12_26, f13_27])) ov w' c_10 s_11
  obtain ⟨p_28, hp_29, h⟩ := h
  obtain ⟨c_30, s_31, hc_32, h⟩ := h
  refine rn_new (X := zob 3 [.null, .null, zj 0]) rfl rfl hp_29 rfl hc_32.1 hc_32.2 ?_
  show Zr sc 109 19 [zp a0, zj x1] [zp p_28, zp a0] ((w_6.set a0 (zob 4 [zp p_1, f1_15, zj f2_16, zj f3_17, zj f4_18, zj f5_19, zj f6_20, f7_21, f8_22, zj f9_23, zj f10_24, zj f11_25, zj f12_26, f13_27])) ++ [zob 3 [.null, .null, zj 0]]) ov w' c_30 s_31
  refine Zr_st (q := (20, [zp a0, zj x1], [zp p_28, zp p_28, zp a0])) rfl rfl rfl ?_
  show Zr sc 109 20 [zp a0, zj x1] [zp p_28, zp p_28, zp a0] ((w_6.set a0 (zob 4 [zp p_1, f1_15, zj f2_16, zj f3_17, zj f4_18, zj f5_19, zj f6_20, f7_21, f8_22, zj f9_23, zj f10_24, zj f11_25, zj f12_26, f13_27])) ++ [zob 3 [.null, .null, zj 0]]) ov w' c_30 s_31
  obtain ⟨w_33, c_35, s_36, c_37, s_38, hk_34, hc_39, h⟩ := h
  refine rl_cal (ins := .invokespecial 20) (rest := [zp p_28, zp a0]) rfl rfl rfl rfl (zinv_s rfl rfl rfl rfl) rfl rfl hk_34 ?_ hc_39.1 hc_39.2
  show Zr sc 109 23 [zp a0, zj x1] [zp p_28, zp a0] w_33 ov w' c_37 s_38
  obtain ⟨f0_41, f1_42, f2_43, f3_44, f4_45, f5_46, f6_47, f7_48, f8_49, f9_50, f10_51, f11_52, f12_53, f13_54, hw_40, h⟩ := h
  refine rl_pf rfl hw_40 rfl rfl rfl ?_
  show Zr sc 109 26 [zp a0, zj x1] [] (w_33.set a0 (zob 4 [f0_41, zp p_28, zj f2_43, zj f3_44, zj f4_45, zj f5_46, zj f6_47, f7_48, f8_49, zj f9_50, zj f10_51, zj f11_52, zj f12_53, f13_54])) ov w' c_37 s_38
  refine Zr_st (q := (27, [zp a0, zj x1], [zp a0])) rfl rfl rfl ?_
  show Zr sc 109 27 [zp a0, zj x1] [zp a0] (w_33.set a0 (zob 4 [f0_41, zp p_28, zj f2_43, zj f3_44, zj f4_45, zj f5_46, zj f6_47, f7_48, f8_49, zj f9_50, zj f10_51, zj f11_52, zj f12_53, f13_54])) ov w' c_37 s_38
  refine rl_ic rfl ?_
  show Zr sc 109 28 [zp a0, zj x1] [zj 4, zp a0] (w_33.set a0 (zob 4 [f0_41, zp p_28, zj f2_43, zj f3_44, zj f4_45, zj f5_46, zj f6_47, f7_48, f8_49, zj f9_50, zj f10_51, zj f11_52, zj f12_53, f13_54])) ov w' c_37 s_38
  refine rl_pf rfl (zw_s hw_40) rfl rfl rfl ?_
  show Zr sc 109 31 [zp a0, zj x1] [] ((w_33.set a0 (zob 4 [f0_41, zp p_28, zj f2_43, zj f3_44, zj f4_45, zj f5_46, zj f6_47, f7_48, f8_49, zj f9_50, zj f10_51, zj f11_52, zj f12_53, f13_54])).set a0 (zob 4 [f0_41, zp p_28, zj f2_43, zj 4, zj f4_45, zj f5_46, zj f6_47, f7_48, f8_49, zj f9_50, zj f10_51, zj f11_52, zj f12_53, f13_54])) ov w' c_37 s_38
  refine Zr_st (q := (32, [zp a0, zj x1], [zp a0])) rfl rfl rfl ?_
  show Zr sc 109 32 [zp a0, zj x1] [zp a0] ((w_33.set a0 (zob 4 [f0_41, zp p_28, zj f2_43, zj f3_44, zj f4_45, zj f5_46, zj f6_47, f7_48, f8_49, zj f9_50, zj f10_51, zj f11_52, zj f12_53, f13_54])).set a0 (zob 4 [f0_41, zp p_28, zj f2_43, zj 4, zj f4_45, zj f5_46, zj f6_47, f7_48, f8_49, zj f9_50, zj f10_51, zj f11_52, zj f12_53, f13_54])) ov w' c_37 s_38
  refine rl_ic rfl ?_
  show Zr sc 109 33 [zp a0, zj x1] [zj 2, zp a0] ((w_33.set a0 (zob 4 [f0_41, zp p_28, zj f2_43, zj f3_44, zj f4_45, zj f5_46, zj f6_47, f7_48, f8_49, zj f9_50, zj f10_51, zj f11_52, zj f12_53, f13_54])).set a0 (zob 4 [f0_41, zp p_28, zj f2_43, zj 4, zj f4_45, zj f5_46, zj f6_47, f7_48, f8_49, zj f9_50, zj f10_51, zj f11_52, zj f12_53, f13_54])) ov w' c_37 s_38
  refine rl_pf rfl (zw_s (zw_s hw_40)) rfl rfl rfl ?_
  show Zr sc 109 36 [zp a0, zj x1] [] (((w_33.set a0 (zob 4 [f0_41, zp p_28, zj f2_43, zj f3_44, zj f4_45, zj f5_46, zj f6_47, f7_48, f8_49, zj f9_50, zj f10_51, zj f11_52, zj f12_53, f13_54])).set a0 (zob 4 [f0_41, zp p_28, zj f2_43, zj 4, zj f4_45, zj f5_46, zj f6_47, f7_48, f8_49, zj f9_50, zj f10_51, zj f11_52, zj f12_53, f13_54])).set a0 (zob 4 [f0_41, zp p_28, zj f2_43, zj 4, zj 2, zj f5_46, zj f6_47, f7_48, f8_49, zj f9_50, zj f10_51, zj f11_52, zj f12_53, f13_54])) ov w' c_37 s_38
  refine Zr_st (q := (37, [zp a0, zj x1], [zp a0])) rfl rfl rfl ?_
  show Zr sc 109 37 [zp a0, zj x1] [zp a0] (((w_33.set a0 (zob 4 [f0_41, zp p_28, zj f2_43, zj f3_44, zj f4_45, zj f5_46, zj f6_47, f7_48, f8_49, zj f9_50, zj f10_51, zj f11_52, zj f12_53, f13_54])).set a0 (zob 4 [f0_41, zp p_28, zj f2_43, zj 4, zj f4_45, zj f5_46, zj f6_47, f7_48, f8_49, zj f9_50, zj f10_51, zj f11_52, zj f12_53, f13_54])).set a0 (zob 4 [f0_41, zp p_28, zj f2_43, zj 4, zj 2, zj f5_46, zj f6_47, f7_48, f8_49, zj f9_50, zj f10_51, zj f11_52, zj f12_53, f13_54])) ov w' c_37 s_38
  refine rl_ic rfl ?_
  show Zr sc 109 38 [zp a0, zj x1] [zj 5, zp a0] (((w_33.set a0 (zob 4 [f0_41, zp p_28, zj f2_43, zj f3_44, zj f4_45, zj f5_46, zj f6_47, f7_48, f8_49, zj f9_50, zj f10_51, zj f11_52, zj f12_53, f13_54])).set a0 (zob 4 [f0_41, zp p_28, zj f2_43, zj 4, zj f4_45, zj f5_46, zj f6_47, f7_48, f8_49, zj f9_50, zj f10_51, zj f11_52, zj f12_53, f13_54])).set a0 (zob 4 [f0_41, zp p_28, zj f2_43, zj 4, zj 2, zj f5_46, zj f6_47, f7_48, f8_49, zj f9_50, zj f10_51, zj f11_52, zj f12_53, f13_54])) ov w' c_37 s_38
  obtain ⟨hx_60, h⟩ := h
  obtain ⟨p_55, hp_56, h⟩ := h
  obtain ⟨c_57, s_58, hc_59, h⟩ := h
  refine rn_na rfl hx_60.1 hx_60.2 hp_56 hc_59.1 hc_59.2 ?_
  show Zr sc 109 40 [zp a0, zj x1] [zp p_55, zp a0] ((((w_33.set a0 (zob 4 [f0_41, zp p_28, zj f2_43, zj f3_44, zj f4_45, zj f5_46, zj f6_47, f7_48, f8_49, zj f9_50, zj f10_51, zj f11_52, zj f12_53, f13_54])).set a0 (zob 4 [f0_41, zp p_28, zj f2_43, zj 4, zj f4_45, zj f5_46, zj f6_47, f7_48, f8_49, zj f9_50, zj f10_51, zj f11_52, zj f12_53, f13_54])).set a0 (zob 4 [f0_41, zp p_28, zj f2_43, zj 4, zj 2, zj f5_46, zj f6_47, f7_48, f8_49, zj f9_50, zj f10_51, zj f11_52, zj f12_53, f13_54])) ++ [za (List.replicate (5 : Int).toNat (0 : Int))]) ov w' c_57 s_58
  refine rl_pf rfl (zw_a (zw_s (zw_s (zw_s hw_40)))) rfl rfl rfl ?_
  show Zr sc 109 43 [zp a0, zj x1] [] (((((w_33.set a0 (zob 4 [f0_41, zp p_28, zj f2_43, zj f3_44, zj f4_45, zj f5_46, zj f6_47, f7_48, f8_49, zj f9_50, zj f10_51, zj f11_52, zj f12_53, f13_54])).set a0 (zob 4 [f0_41, zp p_28, zj f2_43, zj 4, zj f4_45, zj f5_46, zj f6_47, f7_48, f8_49, zj f9_50, zj f10_51, zj f11_52, zj f12_53, f13_54])).set a0 (zob 4 [f0_41, zp p_28, zj f2_43, zj 4, zj 2, zj f5_46, zj f6_47, f7_48, f8_49, zj f9_50, zj f10_51, zj f11_52, zj f12_53, f13_54])) ++ [za (List.replicate (5 : Int).toNat (0 : Int))]).set a0 (zob 4 [f0_41, zp p_28, zj f2_43, zj 4, zj 2, zj f5_46, zj f6_47, zp p_55, f8_49, zj f9_50, zj f10_51, zj f11_52, zj f12_53, f13_54])) ov w' c_57 s_58
  refine Zr_st (q := (44, [zp a0, zj x1], [zp a0])) rfl rfl rfl ?_
  show Zr sc 109 44 [zp a0, zj x1] [zp a0] (((((w_33.set a0 (zob 4 [f0_41, zp p_28, zj f2_43, zj f3_44, zj f4_45, zj f5_46, zj f6_47, f7_48, f8_49, zj f9_50, zj f10_51, zj f11_52, zj f12_53, f13_54])).set a0 (zob 4 [f0_41, zp p_28, zj f2_43, zj 4, zj f4_45, zj f5_46, zj f6_47, f7_48, f8_49, zj f9_50, zj f10_51, zj f11_52, zj f12_53, f13_54])).set a0 (zob 4 [f0_41, zp p_28, zj f2_43, zj 4, zj 2, zj f5_46, zj f6_47, f7_48, f8_49, zj f9_50, zj f10_51, zj f11_52, zj f12_53, f13_54])) ++ [za (List.replicate (5 : Int).toNat (0 : Int))]).set a0 (zob 4 [f0_41, zp p_28, zj f2_43, zj 4, zj 2, zj f5_46, zj f6_47, zp p_55, f8_49, zj f9_50, zj f10_51, zj f11_52, zj f12_53, f13_54])) ov w' c_57 s_58
  refine rl_bi rfl (by decide) ?_
  show Zr sc 109 46 [zp a0, zj x1] [zj 80, zp a0] (((((w_33.set a0 (zob 4 [f0_41, zp p_28, zj f2_43, zj f3_44, zj f4_45, zj f5_46, zj f6_47, f7_48, f8_49, zj f9_50, zj f10_51, zj f11_52, zj f12_53, f13_54])).set a0 (zob 4 [f0_41, zp p_28, zj f2_43, zj 4, zj f4_45, zj f5_46, zj f6_47, f7_48, f8_49, zj f9_50, zj f10_51, zj f11_52, zj f12_53, f13_54])).set a0 (zob 4 [f0_41, zp p_28, zj f2_43, zj 4, zj 2, zj f5_46, zj f6_47, f7_48, f8_49, zj f9_50, zj f10_51, zj f11_52, zj f12_53, f13_54])) ++ [za (List.replicate (5 : Int).toNat (0 : Int))]).set a0 (zob 4 [f0_41, zp p_28, zj f2_43, zj 4, zj 2, zj f5_46, zj f6_47, zp p_55, f8_49, zj f9_50, zj f10_51, zj f11_52, zj f12_53, f13_54])) ov w' c_57 s_58
  obtain ⟨hx_66, h⟩ := h
  obtain ⟨p_61, hp_62, h⟩ := h
  obtain ⟨c_63, s_64, hc_65, h⟩ := h
  refine rn_na rfl hx_66.1 hx_66.2 hp_62 hc_65.1 hc_65.2 ?_
  show Zr sc 109 48 [zp a0, zj x1] [zp p_61, zp a0] ((((((w_33.set a0 (zob 4 [f0_41, zp p_28, zj f2_43, zj f3_44, zj f4_45, zj f5_46, zj f6_47, f7_48, f8_49, zj f9_50, zj f10_51, zj f11_52, zj f12_53, f13_54])).set a0 (zob 4 [f0_41, zp p_28, zj f2_43, zj 4, zj f4_45, zj f5_46, zj f6_47, f7_48, f8_49, zj f9_50, zj f10_51, zj f11_52, zj f12_53, f13_54])).set a0 (zob 4 [f0_41, zp p_28, zj f2_43, zj 4, zj 2, zj f5_46, zj f6_47, f7_48, f8_49, zj f9_50, zj f10_51, zj f11_52, zj f12_53, f13_54])) ++ [za (List.replicate (5 : Int).toNat (0 : Int))]).set a0 (zob 4 [f0_41, zp p_28, zj f2_43, zj 4, zj 2, zj f5_46, zj f6_47, zp p_55, f8_49, zj f9_50, zj f10_51, zj f11_52, zj f12_53, f13_54])) ++ [za (List.replicate (80 : Int).toNat (0 : Int))]) ov w' c_63 s_64
  refine rl_pf rfl (zw_a (zw_s (zw_a (zw_s (zw_s (zw_s hw_40)))))) rfl rfl rfl ?_
  show Zr sc 109 51 [zp a0, zj x1] [] (((((((w_33.set a0 (zob 4 [f0_41, zp p_28, zj f2_43, zj f3_44, zj f4_45, zj f5_46, zj f6_47, f7_48, f8_49, zj f9_50, zj f10_51, zj f11_52, zj f12_53, f13_54])).set a0 (zob 4 [f0_41, zp p_28, zj f2_43, zj 4, zj f4_45, zj f5_46, zj f6_47, f7_48, f8_49, zj f9_50, zj f10_51, zj f11_52, zj f12_53, f13_54])).set a0 (zob 4 [f0_41, zp p_28, zj f2_43, zj 4, zj 2, zj f5_46, zj f6_47, f7_48, f8_49, zj f9_50, zj f10_51, zj f11_52, zj f12_53, f13_54])) ++ [za (List.replicate (5 : Int).toNat (0 : Int))]).set a0 (zob 4 [f0_41, zp p_28, zj f2_43, zj 4, zj 2, zj f5_46, zj f6_47, zp p_55, f8_49, zj f9_50, zj f10_51, zj f11_52, zj f12_53, f13_54])) ++ [za (List.replicate (80 : Int).toNat (0 : Int))]).set a0 (zob 4 [f0_41, zp p_28, zj f2_43, zj 4, zj 2, zj f5_46, zj f6_47, zp p_55, zp p_61, zj f9_50, zj f10_51, zj f11_52, zj f12_53, f13_54])) ov w' c_63 s_64
  refine Zr_st (q := (52, [zp a0, zj x1], [zp a0])) rfl rfl rfl ?_
  show Zr sc 109 52 [zp a0, zj x1] [zp a0] (((((((w_33.set a0 (zob 4 [f0_41, zp p_28, zj f2_43, zj f3_44, zj f4_45, zj f5_46, zj f6_47, f7_48, f8_49, zj f9_50, zj f10_51, zj f11_52, zj f12_53, f13_54])).set a0 (zob 4 [f0_41, zp p_28, zj f2_43, zj 4, zj f4_45, zj f5_46, zj f6_47, f7_48, f8_49, zj f9_50, zj f10_51, zj f11_52, zj f12_53, f13_54])).set a0 (zob 4 [f0_41, zp p_28, zj f2_43, zj 4, zj 2, zj f5_46, zj f6_47, f7_48, f8_49, zj f9_50, zj f10_51, zj f11_52, zj f12_53, f13_54])) ++ [za (List.replicate (5 : Int).toNat (0 : Int))]).set a0 (zob 4 [f0_41, zp p_28, zj f2_43, zj 4, zj 2, zj f5_46, zj f6_47, zp p_55, f8_49, zj f9_50, zj f10_51, zj f11_52, zj f12_53, f13_54])) ++ [za (List.replicate (80 : Int).toNat (0 : Int))]).set a0 (zob 4 [f0_41, zp p_28, zj f2_43, zj 4, zj 2, zj f5_46, zj f6_47, zp p_55, zp p_61, zj f9_50, zj f10_51, zj f11_52, zj f12_53, f13_54])) ov w' c_63 s_64
  refine Zr_st (q := (53, [zp a0, zj x1], [zj x1, zp a0])) rfl rfl rfl ?_
  show Zr sc 109 53 [zp a0, zj x1] [zj x1, zp a0] (((((((w_33.set a0 (zob 4 [f0_41, zp p_28, zj f2_43, zj f3_44, zj f4_45, zj f5_46, zj f6_47, f7_48, f8_49, zj f9_50, zj f10_51, zj f11_52, zj f12_53, f13_54])).set a0 (zob 4 [f0_41, zp p_28, zj f2_43, zj 4, zj f4_45, zj f5_46, zj f6_47, f7_48, f8_49, zj f9_50, zj f10_51, zj f11_52, zj f12_53, f13_54])).set a0 (zob 4 [f0_41, zp p_28, zj f2_43, zj 4, zj 2, zj f5_46, zj f6_47, f7_48, f8_49, zj f9_50, zj f10_51, zj f11_52, zj f12_53, f13_54])) ++ [za (List.replicate (5 : Int).toNat (0 : Int))]).set a0 (zob 4 [f0_41, zp p_28, zj f2_43, zj 4, zj 2, zj f5_46, zj f6_47, zp p_55, f8_49, zj f9_50, zj f10_51, zj f11_52, zj f12_53, f13_54])) ++ [za (List.replicate (80 : Int).toNat (0 : Int))]).set a0 (zob 4 [f0_41, zp p_28, zj f2_43, zj 4, zj 2, zj f5_46, zj f6_47, zp p_55, zp p_61, zj f9_50, zj f10_51, zj f11_52, zj f12_53, f13_54])) ov w' c_63 s_64
  refine rl_pf rfl (zw_s (zw_a (zw_s (zw_a (zw_s (zw_s (zw_s hw_40))))))) rfl rfl rfl ?_
  show Zr sc 109 56 [zp a0, zj x1] [] ((((((((w_33.set a0 (zob 4 [f0_41, zp p_28, zj f2_43, zj f3_44, zj f4_45, zj f5_46, zj f6_47, f7_48, f8_49, zj f9_50, zj f10_51, zj f11_52, zj f12_53, f13_54])).set a0 (zob 4 [f0_41, zp p_28, zj f2_43, zj 4, zj f4_45, zj f5_46, zj f6_47, f7_48, f8_49, zj f9_50, zj f10_51, zj f11_52, zj f12_53, f13_54])).set a0 (zob 4 [f0_41, zp p_28, zj f2_43, zj 4, zj 2, zj f5_46, zj f6_47, f7_48, f8_49, zj f9_50, zj f10_51, zj f11_52, zj f12_53, f13_54])) ++ [za (List.replicate (5 : Int).toNat (0 : Int))]).set a0 (zob 4 [f0_41, zp p_28, zj f2_43, zj 4, zj 2, zj f5_46, zj f6_47, zp p_55, f8_49, zj f9_50, zj f10_51, zj f11_52, zj f12_53, f13_54])) ++ [za (List.replicate (80 : Int).toNat (0 : Int))]).set a0 (zob 4 [f0_41, zp p_28, zj f2_43, zj 4, zj 2, zj f5_46, zj f6_47, zp p_55, zp p_61, zj f9_50, zj f10_51, zj f11_52, zj f12_53, f13_54])).set a0 (zob 4 [f0_41, zp p_28, zj x1, zj 4, zj 2, zj f5_46, zj f6_47, zp p_55, zp p_61, zj f9_50, zj f10_51, zj f11_52, zj f12_53, f13_54])) ov w' c_63 s_64
  obtain ⟨h1, h2, h3, h4⟩ := h
  subst h1; subst h2; subst h3; subst h4
  exact Zr_ret (ins := .return_) rfl rfl

-- HeapwrightLab$Blocks.<init>()V
set_option maxRecDepth 100000 in
theorem V110_0 {sc : List Value} {w w' : List zE} {ov : Option Value} {c s : Nat} {a0 : Nat} (h : (((0 : Int) ≤ 81 ∧ 81 ≤ (60000 : Int)) ∧ (∃ p_1 : Nat, p_1 = w.length ∧ (∃ c_3 s_4 : Nat, (c = 1 + c_3 ∧ s = (81 : Int).toNat + s_4) ∧ (∃ f0_8 : Value, ∃ f1_9 : Value, ∃ f2_10 : Value, ∃ f3_11 : Value, ∃ f4_12 : Int, ∃ f5_13 : Int, w[a0]? = some (zob 0 [f0_8, f1_9, f2_10, f3_11, zj f4_12, zj f5_13]) ∧ (((0 : Int) ≤ 81 ∧ 81 ≤ (60000 : Int)) ∧ (∃ p_14 : Nat, p_14 = ((w ++ [za (List.replicate (81 : Int).toNat (0 : Int))]).set a0 (zob 0 [zp p_1, f1_9, f2_10, f3_11, zj f4_12, zj f5_13])).length ∧ (∃ c_16 s_17 : Nat, (c_3 = 1 + c_16 ∧ s_4 = (81 : Int).toNat + s_17) ∧ (((0 : Int) ≤ 81 ∧ 81 ≤ (60000 : Int)) ∧ (∃ p_20 : Nat, p_20 = ((((w ++ [za (List.replicate (81 : Int).toNat (0 : Int))]).set a0 (zob 0 [zp p_1, f1_9, f2_10, f3_11, zj f4_12, zj f5_13])) ++ [za (List.replicate (81 : Int).toNat (0 : Int))]).set a0 (zob 0 [zp p_1, zp p_14, f2_10, f3_11, zj f4_12, zj f5_13])).length ∧ (∃ c_22 s_23 : Nat, (c_16 = 1 + c_22 ∧ s_17 = (81 : Int).toNat + s_23) ∧ (((0 : Int) ≤ 81 ∧ 81 ≤ (60000 : Int)) ∧ (∃ p_26 : Nat, p_26 = ((((((w ++ [za (List.replicate (81 : Int).toNat (0 : Int))]).set a0 (zob 0 [zp p_1, f1_9, f2_10, f3_11, zj f4_12, zj f5_13])) ++ [za (List.replicate (81 : Int).toNat (0 : Int))]).set a0 (zob 0 [zp p_1, zp p_14, f2_10, f3_11, zj f4_12, zj f5_13])) ++ [za (List.replicate (81 : Int).toNat (0 : Int))]).set a0 (zob 0 [zp p_1, zp p_14, zp p_20, f3_11, zj f4_12, zj f5_13])).length ∧ (∃ c_28 s_29 : Nat, (c_22 = 1 + c_28 ∧ s_23 = (81 : Int).toNat + s_29) ∧ (ov = none ∧ w' = ((((((((w ++ [za (List.replicate (81 : Int).toNat (0 : Int))]).set a0 (zob 0 [zp p_1, f1_9, f2_10, f3_11, zj f4_12, zj f5_13])) ++ [za (List.replicate (81 : Int).toNat (0 : Int))]).set a0 (zob 0 [zp p_1, zp p_14, f2_10, f3_11, zj f4_12, zj f5_13])) ++ [za (List.replicate (81 : Int).toNat (0 : Int))]).set a0 (zob 0 [zp p_1, zp p_14, zp p_20, f3_11, zj f4_12, zj f5_13])) ++ [za (List.replicate (81 : Int).toNat (0 : Int))]).set a0 (zob 0 [zp p_1, zp p_14, zp p_20, zp p_26, zj f4_12, zj f5_13])) ∧ c_28 = 0 ∧ s_29 = 0))))))))))))))) : Zr sc 110 0 [zp a0] [] w ov w' c s := by
  refine Zr_st (q := (1, [zp a0], [zp a0])) rfl rfl rfl ?_
  show Zr sc 110 1 [zp a0] [zp a0] w ov w' c s
  refine Zr_obj (ins := .invokespecial 3) (rest := []) rfl rfl rfl rfl (zinv_s2 (rest := []) rfl rfl rfl rfl rfl) rfl ?_
  show Zr sc 110 4 [zp a0] [] w ov w' c s
  refine Zr_st (q := (5, [zp a0], [zp a0])) rfl rfl rfl ?_
  show Zr sc 110 5 [zp a0] [zp a0] w ov w' c s
  refine rl_bi rfl (by decide) ?_
  show Zr sc 110 7 [zp a0] [zj 81, zp a0] w ov w' c s
  obtain ⟨hx_6, h⟩ := h
  obtain ⟨p_1, hp_2, h⟩ := h
  obtain ⟨c_3, s_4, hc_5, h⟩ := h
  refine rn_na rfl hx_6.1 hx_6.2 hp_2 hc_5.1 hc_5.2 ?_
  show Zr sc 110 9 [zp a0] [zp p_1, zp a0] (w ++ [za (List.replicate (81 : Int).toNat (0 : Int))]) ov w' c_3 s_4
  obtain ⟨f0_8, f1_9, f2_10, f3_11, f4_12, f5_13, hw_7, h⟩ := h
  refine rl_pf rfl (zw_a hw_7) rfl rfl rfl ?_
  show Zr sc 110 12 [zp a0] [] ((w ++ [za (List.replicate (81 : Int).toNat (0 : Int))]).set a0 (zob 0 [zp p_1, f1_9, f2_10, f3_11, zj f4_12, zj f5_13])) ov w' c_3 s_4
  refine Zr_st (q := (13, [zp a0], [zp a0])) rfl rfl rfl ?_
  show Zr sc 110 13 [zp a0] [zp a0] ((w ++ [za (List.replicate (81 : Int).toNat (0 : Int))]).set a0 (zob 0 [zp p_1, f1_9, f2_10, f3_11, zj f4_12, zj f5_13])) ov w' c_3 s_4
  refine rl_bi rfl (by decide) ?_
  show Zr sc 110 15 [zp a0] [zj 81, zp a0] ((w ++ [za (List.replicate (81 : Int).toNat (0 : Int))]).set a0 (zob 0 [zp p_1, f1_9, f2_10, f3_11, zj f4_12, zj f5_13])) ov w' c_3 s_4
  obtain ⟨hx_19, h⟩ := h
  obtain ⟨p_14, hp_15, h⟩ := h
  obtain ⟨c_16, s_17, hc_18, h⟩ := h
  refine rn_na rfl hx_19.1 hx_19.2 hp_15 hc_18.1 hc_18.2 ?_
  show Zr sc 110 17 [zp a0] [zp p_14, zp a0] (((w ++ [za (List.replicate (81 : Int).toNat (0 : Int))]).set a0 (zob 0 [zp p_1, f1_9, f2_10, f3_11, zj f4_12, zj f5_13])) ++ [za (List.replicate (81 : Int).toNat (0 : Int))]) ov w' c_16 s_17
  refine rl_pf rfl (zw_a (zw_s (zw_a hw_7))) rfl rfl rfl ?_
  show Zr sc 110 20 [zp a0] [] ((((w ++ [za (List.replicate (81 : Int).toNat (0 : Int))]).set a0 (zob 0 [zp p_1, f1_9, f2_10, f3_11, zj f4_12, zj f5_13])) ++ [za (List.replicate (81 : Int).toNat (0 : Int))]).set a0 (zob 0 [zp p_1, zp p_14, f2_10, f3_11, zj f4_12, zj f5_13])) ov w' c_16 s_17
  refine Zr_st (q := (21, [zp a0], [zp a0])) rfl rfl rfl ?_
  show Zr sc 110 21 [zp a0] [zp a0] ((((w ++ [za (List.replicate (81 : Int).toNat (0 : Int))]).set a0 (zob 0 [zp p_1, f1_9, f2_10, f3_11, zj f4_12, zj f5_13])) ++ [za (List.replicate (81 : Int).toNat (0 : Int))]).set a0 (zob 0 [zp p_1, zp p_14, f2_10, f3_11, zj f4_12, zj f5_13])) ov w' c_16 s_17
  refine rl_bi rfl (by decide) ?_
  show Zr sc 110 23 [zp a0] [zj 81, zp a0] ((((w ++ [za (List.replicate (81 : Int).toNat (0 : Int))]).set a0 (zob 0 [zp p_1, f1_9, f2_10, f3_11, zj f4_12, zj f5_13])) ++ [za (List.replicate (81 : Int).toNat (0 : Int))]).set a0 (zob 0 [zp p_1, zp p_14, f2_10, f3_11, zj f4_12, zj f5_13])) ov w' c_16 s_17
  obtain ⟨hx_25, h⟩ := h
  obtain ⟨p_20, hp_21, h⟩ := h
  obtain ⟨c_22, s_23, hc_24, h⟩ := h
  refine rn_na rfl hx_25.1 hx_25.2 hp_21 hc_24.1 hc_24.2 ?_
  show Zr sc 110 25 [zp a0] [zp p_20, zp a0] (((((w ++ [za (List.replicate (81 : Int).toNat (0 : Int))]).set a0 (zob 0 [zp p_1, f1_9, f2_10, f3_11, zj f4_12, zj f5_13])) ++ [za (List.replicate (81 : Int).toNat (0 : Int))]).set a0 (zob 0 [zp p_1, zp p_14, f2_10, f3_11, zj f4_12, zj f5_13])) ++ [za (List.replicate (81 : Int).toNat (0 : Int))]) ov w' c_22 s_23
  refine rl_pf rfl (zw_a (zw_s (zw_a (zw_s (zw_a hw_7))))) rfl rfl rfl ?_
  show Zr sc 110 28 [zp a0] [] ((((((w ++ [za (List.replicate (81 : Int).toNat (0 : Int))]).set a0 (zob 0 [zp p_1, f1_9, f2_10, f3_11, zj f4_12, zj f5_13])) ++ [za (List.replicate (81 : Int).toNat (0 : Int))]).set a0 (zob 0 [zp p_1, zp p_14, f2_10, f3_11, zj f4_12, zj f5_13])) ++ [za (List.replicate (81 : Int).toNat (0 : Int))]).set a0 (zob 0 [zp p_1, zp p_14, zp p_20, f3_11, zj f4_12, zj f5_13])) ov w' c_22 s_23
  refine Zr_st (q := (29, [zp a0], [zp a0])) rfl rfl rfl ?_
  show Zr sc 110 29 [zp a0] [zp a0] ((((((w ++ [za (List.replicate (81 : Int).toNat (0 : Int))]).set a0 (zob 0 [zp p_1, f1_9, f2_10, f3_11, zj f4_12, zj f5_13])) ++ [za (List.replicate (81 : Int).toNat (0 : Int))]).set a0 (zob 0 [zp p_1, zp p_14, f2_10, f3_11, zj f4_12, zj f5_13])) ++ [za (List.replicate (81 : Int).toNat (0 : Int))]).set a0 (zob 0 [zp p_1, zp p_14, zp p_20, f3_11, zj f4_12, zj f5_13])) ov w' c_22 s_23
  refine rl_bi rfl (by decide) ?_
  show Zr sc 110 31 [zp a0] [zj 81, zp a0] ((((((w ++ [za (List.replicate (81 : Int).toNat (0 : Int))]).set a0 (zob 0 [zp p_1, f1_9, f2_10, f3_11, zj f4_12, zj f5_13])) ++ [za (List.replicate (81 : Int).toNat (0 : Int))]).set a0 (zob 0 [zp p_1, zp p_14, f2_10, f3_11, zj f4_12, zj f5_13])) ++ [za (List.replicate (81 : Int).toNat (0 : Int))]).set a0 (zob 0 [zp p_1, zp p_14, zp p_20, f3_11, zj f4_12, zj f5_13])) ov w' c_22 s_23
  obtain ⟨hx_31, h⟩ := h
  obtain ⟨p_26, hp_27, h⟩ := h
  obtain ⟨c_28, s_29, hc_30, h⟩ := h
  refine rn_na rfl hx_31.1 hx_31.2 hp_27 hc_30.1 hc_30.2 ?_
  show Zr sc 110 33 [zp a0] [zp p_26, zp a0] (((((((w ++ [za (List.replicate (81 : Int).toNat (0 : Int))]).set a0 (zob 0 [zp p_1, f1_9, f2_10, f3_11, zj f4_12, zj f5_13])) ++ [za (List.replicate (81 : Int).toNat (0 : Int))]).set a0 (zob 0 [zp p_1, zp p_14, f2_10, f3_11, zj f4_12, zj f5_13])) ++ [za (List.replicate (81 : Int).toNat (0 : Int))]).set a0 (zob 0 [zp p_1, zp p_14, zp p_20, f3_11, zj f4_12, zj f5_13])) ++ [za (List.replicate (81 : Int).toNat (0 : Int))]) ov w' c_28 s_29
  refine rl_pf rfl (zw_a (zw_s (zw_a (zw_s (zw_a (zw_s (zw_a hw_7))))))) rfl rfl rfl ?_
  show Zr sc 110 36 [zp a0] [] ((((((((w ++ [za (List.replicate (81 : Int).toNat (0 : Int))]).set a0 (zob 0 [zp p_1, f1_9, f2_10, f3_11, zj f4_12, zj f5_13])) ++ [za (List.replicate (81 : Int).toNat (0 : Int))]).set a0 (zob 0 [zp p_1, zp p_14, f2_10, f3_11, zj f4_12, zj f5_13])) ++ [za (List.replicate (81 : Int).toNat (0 : Int))]).set a0 (zob 0 [zp p_1, zp p_14, zp p_20, f3_11, zj f4_12, zj f5_13])) ++ [za (List.replicate (81 : Int).toNat (0 : Int))]).set a0 (zob 0 [zp p_1, zp p_14, zp p_20, zp p_26, zj f4_12, zj f5_13])) ov w' c_28 s_29
  obtain ⟨h1, h2, h3, h4⟩ := h
  subst h1; subst h2; subst h3; subst h4
  exact Zr_ret (ins := .return_) rfl rfl

-- HeapwrightLab$Holes.<init>()V
set_option maxRecDepth 100000 in
theorem V111_0 {sc : List Value} {w w' : List zE} {ov : Option Value} {c s : Nat} {a0 : Nat} (h : (((0 : Int) ≤ 128 ∧ 128 ≤ (60000 : Int)) ∧ (∃ p_1 : Nat, p_1 = w.length ∧ (∃ c_3 s_4 : Nat, (c = 1 + c_3 ∧ s = (128 : Int).toNat + s_4) ∧ (∃ f0_8 : Value, ∃ f1_9 : Value, ∃ f2_10 : Int, w[a0]? = some (zob 3 [f0_8, f1_9, zj f2_10]) ∧ (((0 : Int) ≤ 128 ∧ 128 ≤ (60000 : Int)) ∧ (∃ p_11 : Nat, p_11 = ((w ++ [za (List.replicate (128 : Int).toNat (0 : Int))]).set a0 (zob 3 [zp p_1, f1_9, zj f2_10])).length ∧ (∃ c_13 s_14 : Nat, (c_3 = 1 + c_13 ∧ s_4 = (128 : Int).toNat + s_14) ∧ ((a0 ≠ p_11) ∧ (((0 : Int) ≤ 0 ∧ 0 < ((List.replicate (128 : Int).toNat (0 : Int)).length : Int) ∧ 0 ≤ (2147483647 : Int)) ∧ (ov = none ∧ w' = ((((((w ++ [za (List.replicate (128 : Int).toNat (0 : Int))]).set a0 (zob 3 [zp p_1, f1_9, zj f2_10])) ++ [za (List.replicate (128 : Int).toNat (0 : Int))]).set a0 (zob 3 [zp p_1, zp p_11, zj f2_10])).set a0 (zob 3 [zp p_1, zp p_11, zj 1])).set p_11 (za (zsi (List.replicate (128 : Int).toNat (0 : Int)) 0 1024))) ∧ c_13 = 0 ∧ s_14 = 0))))))))))) : Zr sc 111 0 [zp a0] [] w ov w' c s := by
  refine Zr_st (q := (1, [zp a0], [zp a0])) rfl rfl rfl ?_
  show Zr sc 111 1 [zp a0] [zp a0] w ov w' c s
  refine Zr_obj (ins := .invokespecial 3) (rest := []) rfl rfl rfl rfl (zinv_s2 (rest := []) rfl rfl rfl rfl rfl) rfl ?_
  show Zr sc 111 4 [zp a0] [] w ov w' c s
  refine Zr_st (q := (5, [zp a0], [zp a0])) rfl rfl rfl ?_
  show Zr sc 111 5 [zp a0] [zp a0] w ov w' c s
  refine rl_si rfl (by decide) ?_
  show Zr sc 111 8 [zp a0] [zj 128, zp a0] w ov w' c s
  obtain ⟨hx_6, h⟩ := h
  obtain ⟨p_1, hp_2, h⟩ := h
  obtain ⟨c_3, s_4, hc_5, h⟩ := h
  refine rn_na rfl hx_6.1 hx_6.2 hp_2 hc_5.1 hc_5.2 ?_
  show Zr sc 111 10 [zp a0] [zp p_1, zp a0] (w ++ [za (List.replicate (128 : Int).toNat (0 : Int))]) ov w' c_3 s_4
  obtain ⟨f0_8, f1_9, f2_10, hw_7, h⟩ := h
  refine rl_pf rfl (zw_a hw_7) rfl rfl rfl ?_
  show Zr sc 111 13 [zp a0] [] ((w ++ [za (List.replicate (128 : Int).toNat (0 : Int))]).set a0 (zob 3 [zp p_1, f1_9, zj f2_10])) ov w' c_3 s_4
  refine Zr_st (q := (14, [zp a0], [zp a0])) rfl rfl rfl ?_
  show Zr sc 111 14 [zp a0] [zp a0] ((w ++ [za (List.replicate (128 : Int).toNat (0 : Int))]).set a0 (zob 3 [zp p_1, f1_9, zj f2_10])) ov w' c_3 s_4
  refine rl_si rfl (by decide) ?_
  show Zr sc 111 17 [zp a0] [zj 128, zp a0] ((w ++ [za (List.replicate (128 : Int).toNat (0 : Int))]).set a0 (zob 3 [zp p_1, f1_9, zj f2_10])) ov w' c_3 s_4
  obtain ⟨hx_16, h⟩ := h
  obtain ⟨p_11, hp_12, h⟩ := h
  obtain ⟨c_13, s_14, hc_15, h⟩ := h
  refine rn_na rfl hx_16.1 hx_16.2 hp_12 hc_15.1 hc_15.2 ?_
  show Zr sc 111 19 [zp a0] [zp p_11, zp a0] (((w ++ [za (List.replicate (128 : Int).toNat (0 : Int))]).set a0 (zob 3 [zp p_1, f1_9, zj f2_10])) ++ [za (List.replicate (128 : Int).toNat (0 : Int))]) ov w' c_13 s_14
  refine rl_pf rfl (zw_a (zw_s (zw_a hw_7))) rfl rfl rfl ?_
  show Zr sc 111 22 [zp a0] [] ((((w ++ [za (List.replicate (128 : Int).toNat (0 : Int))]).set a0 (zob 3 [zp p_1, f1_9, zj f2_10])) ++ [za (List.replicate (128 : Int).toNat (0 : Int))]).set a0 (zob 3 [zp p_1, zp p_11, zj f2_10])) ov w' c_13 s_14
  refine Zr_st (q := (23, [zp a0], [zp a0])) rfl rfl rfl ?_
  show Zr sc 111 23 [zp a0] [zp a0] ((((w ++ [za (List.replicate (128 : Int).toNat (0 : Int))]).set a0 (zob 3 [zp p_1, f1_9, zj f2_10])) ++ [za (List.replicate (128 : Int).toNat (0 : Int))]).set a0 (zob 3 [zp p_1, zp p_11, zj f2_10])) ov w' c_13 s_14
  refine rl_ic rfl ?_
  show Zr sc 111 24 [zp a0] [zj 1, zp a0] ((((w ++ [za (List.replicate (128 : Int).toNat (0 : Int))]).set a0 (zob 3 [zp p_1, f1_9, zj f2_10])) ++ [za (List.replicate (128 : Int).toNat (0 : Int))]).set a0 (zob 3 [zp p_1, zp p_11, zj f2_10])) ov w' c_13 s_14
  refine rl_pf rfl (zw_s (zw_a (zw_s (zw_a hw_7)))) rfl rfl rfl ?_
  show Zr sc 111 27 [zp a0] [] (((((w ++ [za (List.replicate (128 : Int).toNat (0 : Int))]).set a0 (zob 3 [zp p_1, f1_9, zj f2_10])) ++ [za (List.replicate (128 : Int).toNat (0 : Int))]).set a0 (zob 3 [zp p_1, zp p_11, zj f2_10])).set a0 (zob 3 [zp p_1, zp p_11, zj 1])) ov w' c_13 s_14
  refine Zr_st (q := (28, [zp a0], [zp a0])) rfl rfl rfl ?_
  show Zr sc 111 28 [zp a0] [zp a0] (((((w ++ [za (List.replicate (128 : Int).toNat (0 : Int))]).set a0 (zob 3 [zp p_1, f1_9, zj f2_10])) ++ [za (List.replicate (128 : Int).toNat (0 : Int))]).set a0 (zob 3 [zp p_1, zp p_11, zj f2_10])).set a0 (zob 3 [zp p_1, zp p_11, zj 1])) ov w' c_13 s_14
  refine rl_gf rfl (zw_s (zw_s (zw_a (zw_s (zw_a hw_7))))) rfl rfl ?_
  show Zr sc 111 31 [zp a0] [zp p_11] (((((w ++ [za (List.replicate (128 : Int).toNat (0 : Int))]).set a0 (zob 3 [zp p_1, f1_9, zj f2_10])) ++ [za (List.replicate (128 : Int).toNat (0 : Int))]).set a0 (zob 3 [zp p_1, zp p_11, zj f2_10])).set a0 (zob 3 [zp p_1, zp p_11, zj 1])) ov w' c_13 s_14
  refine rl_ic rfl ?_
  show Zr sc 111 32 [zp a0] [zj 0, zp p_11] (((((w ++ [za (List.replicate (128 : Int).toNat (0 : Int))]).set a0 (zob 3 [zp p_1, f1_9, zj f2_10])) ++ [za (List.replicate (128 : Int).toNat (0 : Int))]).set a0 (zob 3 [zp p_1, zp p_11, zj f2_10])).set a0 (zob 3 [zp p_1, zp p_11, zj 1])) ov w' c_13 s_14
  refine rl_si rfl (by decide) ?_
  show Zr sc 111 35 [zp a0] [zj 1024, zj 0, zp p_11] (((((w ++ [za (List.replicate (128 : Int).toNat (0 : Int))]).set a0 (zob 3 [zp p_1, f1_9, zj f2_10])) ++ [za (List.replicate (128 : Int).toNat (0 : Int))]).set a0 (zob 3 [zp p_1, zp p_11, zj f2_10])).set a0 (zob 3 [zp p_1, zp p_11, zj 1])) ov w' c_13 s_14
  obtain ⟨hn_18, h⟩ := h
  obtain ⟨hi_17, h⟩ := h
  refine rl_is rfl (zw_o hn_18 (zw_o hn_18 (zw_n hp_12))) hi_17.1 hi_17.2.1 hi_17.2.2 ?_
  show Zr sc 111 36 [zp a0] [] ((((((w ++ [za (List.replicate (128 : Int).toNat (0 : Int))]).set a0 (zob 3 [zp p_1, f1_9, zj f2_10])) ++ [za (List.replicate (128 : Int).toNat (0 : Int))]).set a0 (zob 3 [zp p_1, zp p_11, zj f2_10])).set a0 (zob 3 [zp p_1, zp p_11, zj 1])).set p_11 (za (zsi (List.replicate (128 : Int).toNat (0 : Int)) 0 1024))) ov w' c_13 s_14
  obtain ⟨h1, h2, h3, h4⟩ := h
  subst h1; subst h2; subst h3; subst h4
  exact Zr_ret (ins := .return_) rfl rfl

-- HeapwrightLab$Buddies.<init>()V
set_option maxRecDepth 100000 in
theorem V112_0 {sc : List Value} {w w' : List zE} {ov : Option Value} {c s : Nat} {a0 : Nat} (h : (∃ w_1 : List zE, ∃ c_3 s_4 c_5 s_6 : Nat, Zc sc 109 [zp a0, zj 4] w none w_1 c_3 s_4 ∧ (c = c_3 + c_5 ∧ s = s_4 + s_6) ∧ (ov = none ∧ w' = w_1 ∧ c_5 = 0 ∧ s_6 = 0))) : Zr sc 112 0 [zp a0] [] w ov w' c s := by
  refine Zr_st (q := (1, [zp a0], [zp a0])) rfl rfl rfl ?_
  show Zr sc 112 1 [zp a0] [zp a0] w ov w' c s
  refine rl_ic rfl ?_
  show Zr sc 112 2 [zp a0] [zj 4, zp a0] w ov w' c s
  obtain ⟨w_1, c_3, s_4, c_5, s_6, hk_2, hc_7, h⟩ := h
  refine rl_cal (ins := .invokespecial 3) (rest := []) rfl rfl rfl rfl (zinv_s rfl rfl rfl rfl) rfl rfl hk_2 ?_ hc_7.1 hc_7.2
  show Zr sc 112 5 [zp a0] [] w_1 ov w' c_5 s_6
  obtain ⟨h1, h2, h3, h4⟩ := h
  subst h1; subst h2; subst h3; subst h4
  exact Zr_ret (ins := .return_) rfl rfl

-- HeapwrightLab$Slabs.<init>()V
set_option maxRecDepth 100000 in
theorem V113_0 {sc : List Value} {w w' : List zE} {ov : Option Value} {c s : Nat} {a0 : Nat} (h : (∃ w_1 : List zE, ∃ c_3 s_4 c_5 s_6 : Nat, Zc sc 109 [zp a0, zj 5] w none w_1 c_3 s_4 ∧ (c = c_3 + c_5 ∧ s = s_4 + s_6) ∧ (((0 : Int) ≤ 8 ∧ 8 ≤ (60000 : Int)) ∧ (∃ p_8 : Nat, p_8 = w_1.length ∧ (∃ c_10 s_11 : Nat, (c_5 = 1 + c_10 ∧ s_6 = (8 : Int).toNat + s_11) ∧ (∃ f0_15 : Value, ∃ f1_16 : Value, ∃ f2_17 : Int, ∃ f3_18 : Int, ∃ f4_19 : Int, ∃ f5_20 : Int, ∃ f6_21 : Int, ∃ f7_22 : Value, ∃ f8_23 : Value, ∃ f9_24 : Int, ∃ f10_25 : Int, ∃ f11_26 : Int, ∃ f12_27 : Int, ∃ f13_28 : Value, w_1[a0]? = some (zob 4 [f0_15, f1_16, zj f2_17, zj f3_18, zj f4_19, zj f5_20, zj f6_21, f7_22, f8_23, zj f9_24, zj f10_25, zj f11_26, zj f12_27, f13_28]) ∧ (ov = none ∧ w' = ((w_1 ++ [za (List.replicate (8 : Int).toNat (0 : Int))]).set a0 (zob 4 [f0_15, f1_16, zj f2_17, zj f3_18, zj f4_19, zj f5_20, zj f6_21, f7_22, f8_23, zj f9_24, zj f10_25, zj f11_26, zj f12_27, zp p_8])) ∧ c_10 = 0 ∧ s_11 = 0))))))) : Zr sc 113 0 [zp a0] [] w ov w' c s := by
  refine Zr_st (q := (1, [zp a0], [zp a0])) rfl rfl rfl ?_
  show Zr sc 113 1 [zp a0] [zp a0] w ov w' c s
  refine rl_ic rfl ?_
  show Zr sc 113 2 [zp a0] [zj 5, zp a0] w ov w' c s
  obtain ⟨w_1, c_3, s_4, c_5, s_6, hk_2, hc_7, h⟩ := h
  refine rl_cal (ins := .invokespecial 3) (rest := []) rfl rfl rfl rfl (zinv_s rfl rfl rfl rfl) rfl rfl hk_2 ?_ hc_7.1 hc_7.2
  show Zr sc 113 5 [zp a0] [] w_1 ov w' c_5 s_6
  refine Zr_st (q := (6, [zp a0], [zp a0])) rfl rfl rfl ?_
  show Zr sc 113 6 [zp a0] [zp a0] w_1 ov w' c_5 s_6
  refine rl_bi rfl (by decide) ?_
  show Zr sc 113 8 [zp a0] [zj 8, zp a0] w_1 ov w' c_5 s_6
  obtain ⟨hx_13, h⟩ := h
  obtain ⟨p_8, hp_9, h⟩ := h
  obtain ⟨c_10, s_11, hc_12, h⟩ := h
  refine rn_na rfl hx_13.1 hx_13.2 hp_9 hc_12.1 hc_12.2 ?_
  show Zr sc 113 10 [zp a0] [zp p_8, zp a0] (w_1 ++ [za (List.replicate (8 : Int).toNat (0 : Int))]) ov w' c_10 s_11
  obtain ⟨f0_15, f1_16, f2_17, f3_18, f4_19, f5_20, f6_21, f7_22, f8_23, f9_24, f10_25, f11_26, f12_27, f13_28, hw_14, h⟩ := h
  refine rl_pf rfl (zw_a hw_14) rfl rfl rfl ?_
  show Zr sc 113 13 [zp a0] [] ((w_1 ++ [za (List.replicate (8 : Int).toNat (0 : Int))]).set a0 (zob 4 [f0_15, f1_16, zj f2_17, zj f3_18, zj f4_19, zj f5_20, zj f6_21, f7_22, f8_23, zj f9_24, zj f10_25, zj f11_26, zj f12_27, zp p_8])) ov w' c_10 s_11
  obtain ⟨h1, h2, h3, h4⟩ := h
  subst h1; subst h2; subst h3; subst h4
  exact Zr_ret (ins := .return_) rfl rfl

-- HeapwrightLabLaw$Pool.clear()V
set_option maxRecDepth 100000 in
theorem V114_0 {sc : List Value} {w w' : List zE} {ov : Option Value} {c s : Nat} {a0 : Nat} (h : Zr sc 114 2 [zp a0, zj 0] [] w ov w' c s) : Zr sc 114 0 [zp a0, zmk] [] w ov w' c s := by
  refine rl_ic rfl ?_
  show Zr sc 114 1 [zp a0, zmk] [zj 0] w ov w' c s
  refine Zr_st (q := (2, [zp a0, zj 0], [])) rfl rfl rfl ?_
  show Zr sc 114 2 [zp a0, zj 0] [] w ov w' c s
  exact h
set_option maxRecDepth 100000 in
theorem V114_2 {sc : List Value} {w w' : List zE} {ov : Option Value} {c s : Nat} {a0 : Nat} {x1 : Int} {dr : Int} {wy : Int} {st : Int} {hd : Int} {nm : Int} {ar : Int} {hn : Int} {pk : Int} {D : Nat} {tl : Int} {ow : List Int} (L0 : w[a0]? = some (zob 7 [zp (a0 + 1), .ref 0, zj dr, zj wy, zj st, zj hd, zp (a0 + 73), zj nm, zp (a0 + 74), zp (a0 + 75), zp (a0 + 76), zj ar, zj hn, zp (a0 + 77), zj pk, zp D, zj tl])) (L73 : w[(a0 + 73)]? = some (za ow)) (h : ((zrg x1 ∧ zrg 1024) ∧ ((1024 ≤ x1 → (ov = none ∧ w' = w ∧ c = 0 ∧ s = 0)) ∧ (¬ (1024 ≤ x1) → (((0 : Int) ≤ x1 ∧ x1 < (ow.length : Int) ∧ x1 ≤ (2147483647 : Int)) ∧ Zr sc 114 2 [zp a0, zj (x1 + 1)] [] (w.set (a0 + 73) (za (zsi ow x1 (-1)))) ov w' c s))))) : Zr sc 114 2 [zp a0, zj x1] [] w ov w' c s := by
  refine Zr_st (q := (3, [zp a0, zj x1], [zj x1])) rfl rfl rfl ?_
  show Zr sc 114 3 [zp a0, zj x1] [zj x1] w ov w' c s
  refine rl_si rfl (by decide) ?_
  show Zr sc 114 6 [zp a0, zj x1] [zj 1024, zj x1] w ov w' c s
  obtain ⟨hr_1, h⟩ := h
  refine Zr_br (p := 1024 ≤ x1) rfl rfl (zcmp_j (cnd := .ge) hr_1.1 hr_1.2) (fun hp => ?_) (fun hp => ?_)
  · replace h := h.1 hp
    show Zr sc 114 22 [zp a0, zj x1] [] w ov w' c s
    obtain ⟨h1, h2, h3, h4⟩ := h
    subst h1; subst h2; subst h3; subst h4
    exact Zr_ret (ins := .return_) rfl rfl
  · replace h := h.2 hp
    show Zr sc 114 9 [zp a0, zj x1] [] w ov w' c s
    refine Zr_st (q := (10, [zp a0, zj x1], [zp a0])) rfl rfl rfl ?_
    show Zr sc 114 10 [zp a0, zj x1] [zp a0] w ov w' c s
    refine rl_gf rfl L0 rfl rfl ?_
    show Zr sc 114 13 [zp a0, zj x1] [zp (a0 + 73)] w ov w' c s
    refine Zr_st (q := (14, [zp a0, zj x1], [zj x1, zp (a0 + 73)])) rfl rfl rfl ?_
    show Zr sc 114 14 [zp a0, zj x1] [zj x1, zp (a0 + 73)] w ov w' c s
    refine rl_ic rfl ?_
    show Zr sc 114 15 [zp a0, zj x1] [zj (-1), zj x1, zp (a0 + 73)] w ov w' c s
    obtain ⟨hi_2, h⟩ := h
    refine rl_is rfl L73 hi_2.1 hi_2.2.1 hi_2.2.2 ?_
    show Zr sc 114 16 [zp a0, zj x1] [] (w.set (a0 + 73) (za (zsi ow x1 (-1)))) ov w' c s
    refine rl_inc rfl rfl rfl rfl ?_
    show Zr sc 114 19 [zp a0, zj (x1 + 1)] [] (w.set (a0 + 73) (za (zsi ow x1 (-1)))) ov w' c s
    refine Zr_st (q := (2, [zp a0, zj (x1 + 1)], [])) rfl rfl rfl ?_
    show Zr sc 114 2 [zp a0, zj (x1 + 1)] [] (w.set (a0 + 73) (za (zsi ow x1 (-1)))) ov w' c s
    exact h

-- HeapwrightLabLaw$Pool.draw(I)I
set_option maxRecDepth 100000 in
theorem V115_0 {sc : List Value} {w w' : List zE} {ov : Option Value} {c s : Nat} {a0 : Nat} {x1 : Int} {dr : Int} {wy : Int} {st : Int} {hd : Int} {nm : Int} {ar : Int} {hn : Int} {pk : Int} {D : Nat} {tl : Int} (L0 : w[a0]? = some (zob 7 [zp (a0 + 1), .ref 0, zj dr, zj wy, zj st, zj hd, zp (a0 + 73), zj nm, zp (a0 + 74), zp (a0 + 75), zp (a0 + 76), zj ar, zj hn, zp (a0 + 77), zj pk, zp D, zj tl])) (h : (((0 : Int) ≤ dr ∧ dr ≤ (2147483647 : Int) ∧ (0 : Int) < 24 ∧ 24 ≤ (2147483647 : Int)) ∧ (∃ r_4 : Int, Zc sc 116 [.ref 0, zj (dr % 24)] w (some (zj r_4)) w 0 0 ∧ (((0 : Int) ≤ dr ∧ dr ≤ (2147483647 : Int) ∧ (0 : Int) < 24 ∧ 24 ≤ (2147483647 : Int)) ∧ (((0 : Int) ≤ (dr / 24) ∧ (dr / 24) ≤ (2147483647 : Int) ∧ (0 : Int) < 8 ∧ 8 ≤ (2147483647 : Int)) ∧ (∃ r_9 : Int, Zc sc 117 [zj ((zjop 6 r_4 ((dr / 24) % 8)) + (97 * dr)), zj x1] w (some (zj r_9)) w 0 0 ∧ (ov = some (zj r_9) ∧ w' = (w.set a0 (zob 7 [zp (a0 + 1), .ref 0, zj (dr + 1), zj wy, zj st, zj hd, zp (a0 + 73), zj nm, zp (a0 + 74), zp (a0 + 75), zp (a0 + 76), zj ar, zj hn, zp (a0 + 77), zj pk, zp D, zj tl])) ∧ c = 0 ∧ s = 0))))))) : Zr sc 115 0 [zp a0, zj x1, zmk] [] w ov w' c s := by
  refine Zr_st (q := (1, [zp a0, zj x1, zmk], [zp a0])) rfl rfl rfl ?_
  show Zr sc 115 1 [zp a0, zj x1, zmk] [zp a0] w ov w' c s
  refine rl_gf rfl L0 rfl rfl ?_
  show Zr sc 115 4 [zp a0, zj x1, zmk] [.ref 0] w ov w' c s
  refine Zr_st (q := (5, [zp a0, zj x1, zmk], [zp a0, .ref 0])) rfl rfl rfl ?_
  show Zr sc 115 5 [zp a0, zj x1, zmk] [zp a0, .ref 0] w ov w' c s
  refine rl_gf rfl L0 rfl rfl ?_
  show Zr sc 115 8 [zp a0, zj x1, zmk] [zj dr, .ref 0] w ov w' c s
  refine rl_bi rfl (by decide) ?_
  show Zr sc 115 10 [zp a0, zj x1, zmk] [zj 24, zj dr, .ref 0] w ov w' c s
  obtain ⟨hd_1, h⟩ := h
  refine rl_rem rfl hd_1.1 hd_1.2.1 hd_1.2.2.1 hd_1.2.2.2 ?_
  show Zr sc 115 11 [zp a0, zj x1, zmk] [zj (dr % 24), .ref 0] w ov w' c s
  obtain ⟨r_4, hk_9, h⟩ := h
  refine rn_cal0 (ins := .invokestatic 55) (rest := []) rfl rfl rfl rfl (zinv_t rfl rfl rfl rfl) rfl rfl hk_9 ?_
  show Zr sc 115 14 [zp a0, zj x1, zmk] [zj r_4] w ov w' c s
  refine Zr_st (q := (15, [zp a0, zj x1, zmk], [zp a0, zj r_4])) rfl rfl rfl ?_
  show Zr sc 115 15 [zp a0, zj x1, zmk] [zp a0, zj r_4] w ov w' c s
  refine rl_gf rfl L0 rfl rfl ?_
  show Zr sc 115 18 [zp a0, zj x1, zmk] [zj dr, zj r_4] w ov w' c s
  refine rl_bi rfl (by decide) ?_
  show Zr sc 115 20 [zp a0, zj x1, zmk] [zj 24, zj dr, zj r_4] w ov w' c s
  obtain ⟨hd_5, h⟩ := h
  refine rl_div rfl hd_5.1 hd_5.2.1 hd_5.2.2.1 hd_5.2.2.2 ?_
  show Zr sc 115 21 [zp a0, zj x1, zmk] [zj (dr / 24), zj r_4] w ov w' c s
  refine rl_bi rfl (by decide) ?_
  show Zr sc 115 23 [zp a0, zj x1, zmk] [zj 8, zj (dr / 24), zj r_4] w ov w' c s
  obtain ⟨hd_6, h⟩ := h
  refine rl_rem rfl hd_6.1 hd_6.2.1 hd_6.2.2.1 hd_6.2.2.2 ?_
  show Zr sc 115 24 [zp a0, zj x1, zmk] [zj ((dr / 24) % 8), zj r_4] w ov w' c s
  refine rl_shr rfl ?_
  show Zr sc 115 25 [zp a0, zj x1, zmk] [zj (zjop 6 r_4 ((dr / 24) % 8))] w ov w' c s
  refine rl_bi rfl (by decide) ?_
  show Zr sc 115 27 [zp a0, zj x1, zmk] [zj 97, zj (zjop 6 r_4 ((dr / 24) % 8))] w ov w' c s
  refine Zr_st (q := (28, [zp a0, zj x1, zmk], [zp a0, zj 97, zj (zjop 6 r_4 ((dr / 24) % 8))])) rfl rfl rfl ?_
  show Zr sc 115 28 [zp a0, zj x1, zmk] [zp a0, zj 97, zj (zjop 6 r_4 ((dr / 24) % 8))] w ov w' c s
  refine rl_gf rfl L0 rfl rfl ?_
  show Zr sc 115 31 [zp a0, zj x1, zmk] [zj dr, zj 97, zj (zjop 6 r_4 ((dr / 24) % 8))] w ov w' c s
  refine rl_mul rfl ?_
  show Zr sc 115 32 [zp a0, zj x1, zmk] [zj (97 * dr), zj (zjop 6 r_4 ((dr / 24) % 8))] w ov w' c s
  refine rl_add rfl ?_
  show Zr sc 115 33 [zp a0, zj x1, zmk] [zj ((zjop 6 r_4 ((dr / 24) % 8)) + (97 * dr))] w ov w' c s
  refine Zr_st (q := (34, [zp a0, zj x1, zmk], [zj x1, zj ((zjop 6 r_4 ((dr / 24) % 8)) + (97 * dr))])) rfl rfl rfl ?_
  show Zr sc 115 34 [zp a0, zj x1, zmk] [zj x1, zj ((zjop 6 r_4 ((dr / 24) % 8)) + (97 * dr))] w ov w' c s
  obtain ⟨r_9, hk_9, h⟩ := h
  refine rn_cal0 (ins := .invokestatic 61) (rest := []) rfl rfl rfl rfl (zinv_t rfl rfl rfl rfl) rfl rfl hk_9 ?_
  show Zr sc 115 37 [zp a0, zj x1, zmk] [zj r_9] w ov w' c s
  refine Zr_st (q := (38, [zp a0, zj x1, zj r_9], [])) rfl rfl rfl ?_
  show Zr sc 115 38 [zp a0, zj x1, zj r_9] [] w ov w' c s
  refine Zr_st (q := (39, [zp a0, zj x1, zj r_9], [zp a0])) rfl rfl rfl ?_
  show Zr sc 115 39 [zp a0, zj x1, zj r_9] [zp a0] w ov w' c s
  refine Zr_st (q := (40, [zp a0, zj x1, zj r_9], [zp a0, zp a0])) rfl rfl rfl ?_
  show Zr sc 115 40 [zp a0, zj x1, zj r_9] [zp a0, zp a0] w ov w' c s
  refine rl_gf rfl L0 rfl rfl ?_
  show Zr sc 115 43 [zp a0, zj x1, zj r_9] [zj dr, zp a0] w ov w' c s
  refine rl_ic rfl ?_
  show Zr sc 115 44 [zp a0, zj x1, zj r_9] [zj 1, zj dr, zp a0] w ov w' c s
  refine rl_add rfl ?_
  show Zr sc 115 45 [zp a0, zj x1, zj r_9] [zj (dr + 1), zp a0] w ov w' c s
  refine rl_pf rfl L0 rfl rfl rfl ?_
  show Zr sc 115 48 [zp a0, zj x1, zj r_9] [] (w.set a0 (zob 7 [zp (a0 + 1), .ref 0, zj (dr + 1), zj wy, zj st, zj hd, zp (a0 + 73), zj nm, zp (a0 + 74), zp (a0 + 75), zp (a0 + 76), zj ar, zj hn, zp (a0 + 77), zj pk, zp D, zj tl])) ov w' c s
  refine Zr_st (q := (49, [zp a0, zj x1, zj r_9], [zj r_9])) rfl rfl rfl ?_
  show Zr sc 115 49 [zp a0, zj x1, zj r_9] [zj r_9] (w.set a0 (zob 7 [zp (a0 + 1), .ref 0, zj (dr + 1), zj wy, zj st, zj hd, zp (a0 + 73), zj nm, zp (a0 + 74), zp (a0 + 75), zp (a0 + 76), zj ar, zj hn, zp (a0 + 77), zj pk, zp D, zj tl])) ov w' c s
  obtain ⟨h1, h2, h3, h4⟩ := h
  subst h1; subst h2; subst h3; subst h4
  exact Zr_ret (ins := .ireturn) rfl rfl

-- HeapwrightLabLaw.cell([II)I
set_option maxRecDepth 100000 in
theorem V116_0 {sc : List Value} {w w' : List zE} {ov : Option Value} {c s : Nat} {x1 : Int} (h : ((zrg x1 ∧ zrg (sc.length : Int)) ∧ (((sc.length : Int) ≤ x1 → (ov = some (zj (790386105 * (x1 + 3))) ∧ w' = w ∧ c = 0 ∧ s = 0)) ∧ (¬ ((sc.length : Int) ≤ x1) → (∃ l_3 : List Int, sc = l_3.map zj ∧ (((0 : Int) ≤ x1 ∧ x1 < (l_3.length : Int) ∧ x1 ≤ (2147483647 : Int)) ∧ (ov = some (zj (zgi l_3 x1)) ∧ w' = w ∧ c = 0 ∧ s = 0))))))) : Zr sc 116 0 [.ref 0, zj x1] [] w ov w' c s := by
  refine Zr_st (q := (1, [.ref 0, zj x1], [zj x1])) rfl rfl rfl ?_
  show Zr sc 116 1 [.ref 0, zj x1] [zj x1] w ov w' c s
  refine Zr_st (q := (2, [.ref 0, zj x1], [.ref 0, zj x1])) rfl rfl rfl ?_
  show Zr sc 116 2 [.ref 0, zj x1] [.ref 0, zj x1] w ov w' c s
  refine rl_al0 rfl ?_
  show Zr sc 116 3 [.ref 0, zj x1] [zj (sc.length : Int), zj x1] w ov w' c s
  obtain ⟨hr_1, h⟩ := h
  refine Zr_br (p := (sc.length : Int) ≤ x1) rfl rfl (zcmp_j (cnd := .ge) hr_1.1 hr_1.2) (fun hp => ?_) (fun hp => ?_)
  · replace h := h.1 hp
    show Zr sc 116 12 [.ref 0, zj x1] [] w ov w' c s
    refine rl_ldc (n := 790386105) rfl rfl (by decide) ?_
    show Zr sc 116 14 [.ref 0, zj x1] [zj 790386105] w ov w' c s
    refine Zr_st (q := (15, [.ref 0, zj x1], [zj x1, zj 790386105])) rfl rfl rfl ?_
    show Zr sc 116 15 [.ref 0, zj x1] [zj x1, zj 790386105] w ov w' c s
    refine rl_ic rfl ?_
    show Zr sc 116 16 [.ref 0, zj x1] [zj 3, zj x1, zj 790386105] w ov w' c s
    refine rl_add rfl ?_
    show Zr sc 116 17 [.ref 0, zj x1] [zj (x1 + 3), zj 790386105] w ov w' c s
    refine rl_mul rfl ?_
    show Zr sc 116 18 [.ref 0, zj x1] [zj (790386105 * (x1 + 3))] w ov w' c s
    obtain ⟨h1, h2, h3, h4⟩ := h
    subst h1; subst h2; subst h3; subst h4
    exact Zr_ret (ins := .ireturn) rfl rfl
  · replace h := h.2 hp
    show Zr sc 116 6 [.ref 0, zj x1] [] w ov w' c s
    refine Zr_st (q := (7, [.ref 0, zj x1], [.ref 0])) rfl rfl rfl ?_
    show Zr sc 116 7 [.ref 0, zj x1] [.ref 0] w ov w' c s
    refine Zr_st (q := (8, [.ref 0, zj x1], [zj x1, .ref 0])) rfl rfl rfl ?_
    show Zr sc 116 8 [.ref 0, zj x1] [zj x1, .ref 0] w ov w' c s
    obtain ⟨l_3, hs_4, h⟩ := h
    obtain ⟨hi_2, h⟩ := h
    refine rl_ia0 rfl hs_4 hi_2.1 hi_2.2.1 hi_2.2.2 ?_
    show Zr sc 116 9 [.ref 0, zj x1] [zj (zgi l_3 x1)] w ov w' c s
    refine Zr_st (q := (18, [.ref 0, zj x1], [zj (zgi l_3 x1)])) rfl rfl rfl ?_
    show Zr sc 116 18 [.ref 0, zj x1] [zj (zgi l_3 x1)] w ov w' c s
    obtain ⟨h1, h2, h3, h4⟩ := h
    subst h1; subst h2; subst h3; subst h4
    exact Zr_ret (ins := .ireturn) rfl rfl

-- HeapwrightLabLaw.below(II)I
set_option maxRecDepth 100000 in
theorem V117_0 {sc : List Value} {w w' : List zE} {ov : Option Value} {c s : Nat} {x0 : Int} {x1 : Int} (h : (((0 : Int) ≤ (zjop 7 x0 2147483647) ∧ (zjop 7 x0 2147483647) ≤ (2147483647 : Int) ∧ (0 : Int) < x1 ∧ x1 ≤ (2147483647 : Int)) ∧ (ov = some (zj ((zjop 7 x0 2147483647) % x1)) ∧ w' = w ∧ c = 0 ∧ s = 0))) : Zr sc 117 0 [zj x0, zj x1] [] w ov w' c s := by
  refine Zr_st (q := (1, [zj x0, zj x1], [zj x0])) rfl rfl rfl ?_
  show Zr sc 117 1 [zj x0, zj x1] [zj x0] w ov w' c s
  refine rl_ldc (n := 2147483647) rfl rfl (by decide) ?_
  show Zr sc 117 3 [zj x0, zj x1] [zj 2147483647, zj x0] w ov w' c s
  refine rl_and rfl ?_
  show Zr sc 117 4 [zj x0, zj x1] [zj (zjop 7 x0 2147483647)] w ov w' c s
  refine Zr_st (q := (5, [zj x0, zj x1], [zj x1, zj (zjop 7 x0 2147483647)])) rfl rfl rfl ?_
  show Zr sc 117 5 [zj x0, zj x1] [zj x1, zj (zjop 7 x0 2147483647)] w ov w' c s
  obtain ⟨hd_1, h⟩ := h
  refine rl_rem rfl hd_1.1 hd_1.2.1 hd_1.2.2.1 hd_1.2.2.2 ?_
  show Zr sc 117 6 [zj x0, zj x1] [zj ((zjop 7 x0 2147483647) % x1)] w ov w' c s
  obtain ⟨h1, h2, h3, h4⟩ := h
  subst h1; subst h2; subst h3; subst h4
  exact Zr_ret (ins := .ireturn) rfl rfl

-- HeapwrightLabLaw$Pool.reset(I)Z
set_option maxRecDepth 100000 in
theorem V118_0 {sc : List Value} {w w' : List zE} {ov : Option Value} {c s : Nat} {a0 : Nat} {x1 : Int} {dr : Int} {wy : Int} {st : Int} {hd : Int} {nm : Int} {ar : Int} {hn : Int} {pk : Int} {D : Nat} {tl : Int} (L0 : w[a0]? = some (zob 7 [zp (a0 + 1), .ref 0, zj dr, zj wy, zj st, zj hd, zp (a0 + 73), zj nm, zp (a0 + 74), zp (a0 + 75), zp (a0 + 76), zj ar, zj hn, zp (a0 + 77), zj pk, zp D, zj tl])) (h : (∃ r_3 : Int, ∃ w_1 : List zE, Zc sc 115 [zp a0, zj 4] (w.set a0 (zob 7 [zp (a0 + 1), .ref 0, zj dr, zj x1, zj st, zj hd, zp (a0 + 73), zj nm, zp (a0 + 74), zp (a0 + 75), zp (a0 + 76), zj ar, zj hn, zp (a0 + 77), zj pk, zp D, zj tl])) (some (zj r_3)) w_1 0 0 ∧ (∃ dr_5 : Int, ∃ wy_6 : Int, ∃ st_7 : Int, ∃ hd_8 : Int, ∃ nm_9 : Int, ∃ ar_10 : Int, ∃ hn_11 : Int, ∃ pk_12 : Int, ∃ D_13 : Nat, ∃ tl_14 : Int, w_1[a0]? = some (zob 7 [zp (a0 + 1), .ref 0, zj dr_5, zj wy_6, zj st_7, zj hd_8, zp (a0 + 73), zj nm_9, zp (a0 + 74), zp (a0 + 75), zp (a0 + 76), zj ar_10, zj hn_11, zp (a0 + 77), zj pk_12, zp D_13, zj tl_14]) ∧ (∃ r_17 : Int, ∃ w_15 : List zE, Zc sc 115 [zp a0, zj 5] (w_1.set a0 (zob 7 [zp (a0 + 1), .ref 0, zj dr_5, zj wy_6, zj (zjop 5 1 r_3), zj hd_8, zp (a0 + 73), zj nm_9, zp (a0 + 74), zp (a0 + 75), zp (a0 + 76), zj ar_10, zj hn_11, zp (a0 + 77), zj pk_12, zp D_13, zj tl_14])) (some (zj r_17)) w_15 0 0 ∧ (∃ dr_19 : Int, ∃ wy_20 : Int, ∃ st_21 : Int, ∃ hd_22 : Int, ∃ nm_23 : Int, ∃ ar_24 : Int, ∃ hn_25 : Int, ∃ pk_26 : Int, ∃ D_27 : Nat, ∃ tl_28 : Int, w_15[a0]? = some (zob 7 [zp (a0 + 1), .ref 0, zj dr_19, zj wy_20, zj st_21, zj hd_22, zp (a0 + 73), zj nm_23, zp (a0 + 74), zp (a0 + 75), zp (a0 + 76), zj ar_24, zj hn_25, zp (a0 + 77), zj pk_26, zp D_27, zj tl_28]) ∧ (∃ fs_30 : List Value, w_15[(a0 + 1)]? = some (zob 6 fs_30) ∧ (∃ r_33 : Int, ∃ w_31 : List zE, Zc sc 119 [zp (a0 + 1), zj wy_20, zj st_21, zj r_17] (w_15.set a0 (zob 7 [zp (a0 + 1), .ref 0, zj dr_19, zj wy_20, zj st_21, zj r_17, zp (a0 + 73), zj nm_23, zp (a0 + 74), zp (a0 + 75), zp (a0 + 76), zj ar_24, zj hn_25, zp (a0 + 77), zj pk_26, zp D_27, zj tl_28])) (some (zj r_33)) w_31 0 0 ∧ ((zrg r_33 ∧ zrg wy) ∧ ((r_33 ≠ wy → (ov = some (zj 0) ∧ w' = w_31 ∧ c = 0 ∧ s = 0)) ∧ (¬ (r_33 ≠ wy) → (ov = some (zj 1) ∧ w' = w_31 ∧ c = 0 ∧ s = 0))))))))))) : Zr sc 118 0 [zp a0, zj x1, zmk] [] w ov w' c s := by
  refine Zr_st (q := (1, [zp a0, zj x1, zmk], [zp a0])) rfl rfl rfl ?_
  show Zr sc 118 1 [zp a0, zj x1, zmk] [zp a0] w ov w' c s
  refine rl_gf rfl L0 rfl rfl ?_
  show Zr sc 118 4 [zp a0, zj x1, zmk] [zj wy] w ov w' c s
  refine Zr_st (q := (5, [zp a0, zj x1, zj wy], [])) rfl rfl rfl ?_
  show Zr sc 118 5 [zp a0, zj x1, zj wy] [] w ov w' c s
  refine Zr_st (q := (6, [zp a0, zj x1, zj wy], [zp a0])) rfl rfl rfl ?_
  show Zr sc 118 6 [zp a0, zj x1, zj wy] [zp a0] w ov w' c s
  refine Zr_st (q := (7, [zp a0, zj x1, zj wy], [zj x1, zp a0])) rfl rfl rfl ?_
  show Zr sc 118 7 [zp a0, zj x1, zj wy] [zj x1, zp a0] w ov w' c s
  refine rl_pf rfl L0 rfl rfl rfl ?_
  show Zr sc 118 10 [zp a0, zj x1, zj wy] [] (w.set a0 (zob 7 [zp (a0 + 1), .ref 0, zj dr, zj x1, zj st, zj hd, zp (a0 + 73), zj nm, zp (a0 + 74), zp (a0 + 75), zp (a0 + 76), zj ar, zj hn, zp (a0 + 77), zj pk, zp D, zj tl])) ov w' c s
  refine Zr_st (q := (11, [zp a0, zj x1, zj wy], [zp a0])) rfl rfl rfl ?_
  show Zr sc 118 11 [zp a0, zj x1, zj wy] [zp a0] (w.set a0 (zob 7 [zp (a0 + 1), .ref 0, zj dr, zj x1, zj st, zj hd, zp (a0 + 73), zj nm, zp (a0 + 74), zp (a0 + 75), zp (a0 + 76), zj ar, zj hn, zp (a0 + 77), zj pk, zp D, zj tl])) ov w' c s
  refine rl_ic rfl ?_
  show Zr sc 118 12 [zp a0, zj x1, zj wy] [zj 1, zp a0] (w.set a0 (zob 7 [zp (a0 + 1), .ref 0, zj dr, zj x1, zj st, zj hd, zp (a0 + 73), zj nm, zp (a0 + 74), zp (a0 + 75), zp (a0 + 76), zj ar, zj hn, zp (a0 + 77), zj pk, zp D, zj tl])) ov w' c s
  refine Zr_st (q := (13, [zp a0, zj x1, zj wy], [zp a0, zj 1, zp a0])) rfl rfl rfl ?_
  show Zr sc 118 13 [zp a0, zj x1, zj wy] [zp a0, zj 1, zp a0] (w.set a0 (zob 7 [zp (a0 + 1), .ref 0, zj dr, zj x1, zj st, zj hd, zp (a0 + 73), zj nm, zp (a0 + 74), zp (a0 + 75), zp (a0 + 76), zj ar, zj hn, zp (a0 + 77), zj pk, zp D, zj tl])) ov w' c s
  refine rl_ic rfl ?_
  show Zr sc 118 14 [zp a0, zj x1, zj wy] [zj 4, zp a0, zj 1, zp a0] (w.set a0 (zob 7 [zp (a0 + 1), .ref 0, zj dr, zj x1, zj st, zj hd, zp (a0 + 73), zj nm, zp (a0 + 74), zp (a0 + 75), zp (a0 + 76), zj ar, zj hn, zp (a0 + 77), zj pk, zp D, zj tl])) ov w' c s
  obtain ⟨r_3, w_1, hk_2, h⟩ := h
  refine rn_cal0 (ins := .invokevirtual 68) (rest := [zj 1, zp a0]) rfl rfl rfl rfl (zinv_v (fs := _) (zw_s L0) rfl rfl rfl rfl) rfl rfl hk_2 ?_
  show Zr sc 118 17 [zp a0, zj x1, zj wy] [zj r_3, zj 1, zp a0] w_1 ov w' c s
  refine rl_shl rfl ?_
  show Zr sc 118 18 [zp a0, zj x1, zj wy] [zj (zjop 5 1 r_3), zp a0] w_1 ov w' c s
  obtain ⟨dr_5, wy_6, st_7, hd_8, nm_9, ar_10, hn_11, pk_12, D_13, tl_14, hw_4, h⟩ := h
  refine rl_pf rfl hw_4 rfl rfl rfl ?_
  show Zr sc 118 21 [zp a0, zj x1, zj wy] [] (w_1.set a0 (zob 7 [zp (a0 + 1), .ref 0, zj dr_5, zj wy_6, zj (zjop 5 1 r_3), zj hd_8, zp (a0 + 73), zj nm_9, zp (a0 + 74), zp (a0 + 75), zp (a0 + 76), zj ar_10, zj hn_11, zp (a0 + 77), zj pk_12, zp D_13, zj tl_14])) ov w' c s
  refine Zr_st (q := (22, [zp a0, zj x1, zj wy], [zp a0])) rfl rfl rfl ?_
  show Zr sc 118 22 [zp a0, zj x1, zj wy] [zp a0] (w_1.set a0 (zob 7 [zp (a0 + 1), .ref 0, zj dr_5, zj wy_6, zj (zjop 5 1 r_3), zj hd_8, zp (a0 + 73), zj nm_9, zp (a0 + 74), zp (a0 + 75), zp (a0 + 76), zj ar_10, zj hn_11, zp (a0 + 77), zj pk_12, zp D_13, zj tl_14])) ov w' c s
  refine Zr_st (q := (23, [zp a0, zj x1, zj wy], [zp a0, zp a0])) rfl rfl rfl ?_
  show Zr sc 118 23 [zp a0, zj x1, zj wy] [zp a0, zp a0] (w_1.set a0 (zob 7 [zp (a0 + 1), .ref 0, zj dr_5, zj wy_6, zj (zjop 5 1 r_3), zj hd_8, zp (a0 + 73), zj nm_9, zp (a0 + 74), zp (a0 + 75), zp (a0 + 76), zj ar_10, zj hn_11, zp (a0 + 77), zj pk_12, zp D_13, zj tl_14])) ov w' c s
  refine rl_ic rfl ?_
  show Zr sc 118 24 [zp a0, zj x1, zj wy] [zj 5, zp a0, zp a0] (w_1.set a0 (zob 7 [zp (a0 + 1), .ref 0, zj dr_5, zj wy_6, zj (zjop 5 1 r_3), zj hd_8, zp (a0 + 73), zj nm_9, zp (a0 + 74), zp (a0 + 75), zp (a0 + 76), zj ar_10, zj hn_11, zp (a0 + 77), zj pk_12, zp D_13, zj tl_14])) ov w' c s
  obtain ⟨r_17, w_15, hk_16, h⟩ := h
  refine rn_cal0 (ins := .invokevirtual 68) (rest := [zp a0]) rfl rfl rfl rfl (zinv_v (fs := _) (zw_s hw_4) rfl rfl rfl rfl) rfl rfl hk_16 ?_
  show Zr sc 118 27 [zp a0, zj x1, zj wy] [zj r_17, zp a0] w_15 ov w' c s
  obtain ⟨dr_19, wy_20, st_21, hd_22, nm_23, ar_24, hn_25, pk_26, D_27, tl_28, hw_18, h⟩ := h
  refine rl_pf rfl hw_18 rfl rfl rfl ?_
  show Zr sc 118 30 [zp a0, zj x1, zj wy] [] (w_15.set a0 (zob 7 [zp (a0 + 1), .ref 0, zj dr_19, zj wy_20, zj st_21, zj r_17, zp (a0 + 73), zj nm_23, zp (a0 + 74), zp (a0 + 75), zp (a0 + 76), zj ar_24, zj hn_25, zp (a0 + 77), zj pk_26, zp D_27, zj tl_28])) ov w' c s
  refine Zr_st (q := (31, [zp a0, zj x1, zj wy], [zp a0])) rfl rfl rfl ?_
  show Zr sc 118 31 [zp a0, zj x1, zj wy] [zp a0] (w_15.set a0 (zob 7 [zp (a0 + 1), .ref 0, zj dr_19, zj wy_20, zj st_21, zj r_17, zp (a0 + 73), zj nm_23, zp (a0 + 74), zp (a0 + 75), zp (a0 + 76), zj ar_24, zj hn_25, zp (a0 + 77), zj pk_26, zp D_27, zj tl_28])) ov w' c s
  refine rl_gf rfl (zw_s hw_18) rfl rfl ?_
  show Zr sc 118 34 [zp a0, zj x1, zj wy] [zp (a0 + 1)] (w_15.set a0 (zob 7 [zp (a0 + 1), .ref 0, zj dr_19, zj wy_20, zj st_21, zj r_17, zp (a0 + 73), zj nm_23, zp (a0 + 74), zp (a0 + 75), zp (a0 + 76), zj ar_24, zj hn_25, zp (a0 + 77), zj pk_26, zp D_27, zj tl_28])) ov w' c s
  refine Zr_st (q := (35, [zp a0, zj x1, zj wy], [zp a0, zp (a0 + 1)])) rfl rfl rfl ?_
  show Zr sc 118 35 [zp a0, zj x1, zj wy] [zp a0, zp (a0 + 1)] (w_15.set a0 (zob 7 [zp (a0 + 1), .ref 0, zj dr_19, zj wy_20, zj st_21, zj r_17, zp (a0 + 73), zj nm_23, zp (a0 + 74), zp (a0 + 75), zp (a0 + 76), zj ar_24, zj hn_25, zp (a0 + 77), zj pk_26, zp D_27, zj tl_28])) ov w' c s
  refine rl_gf rfl (zw_s hw_18) rfl rfl ?_
  show Zr sc 118 38 [zp a0, zj x1, zj wy] [zj wy_20, zp (a0 + 1)] (w_15.set a0 (zob 7 [zp (a0 + 1), .ref 0, zj dr_19, zj wy_20, zj st_21, zj r_17, zp (a0 + 73), zj nm_23, zp (a0 + 74), zp (a0 + 75), zp (a0 + 76), zj ar_24, zj hn_25, zp (a0 + 77), zj pk_26, zp D_27, zj tl_28])) ov w' c s
  refine Zr_st (q := (39, [zp a0, zj x1, zj wy], [zp a0, zj wy_20, zp (a0 + 1)])) rfl rfl rfl ?_
  show Zr sc 118 39 [zp a0, zj x1, zj wy] [zp a0, zj wy_20, zp (a0 + 1)] (w_15.set a0 (zob 7 [zp (a0 + 1), .ref 0, zj dr_19, zj wy_20, zj st_21, zj r_17, zp (a0 + 73), zj nm_23, zp (a0 + 74), zp (a0 + 75), zp (a0 + 76), zj ar_24, zj hn_25, zp (a0 + 77), zj pk_26, zp D_27, zj tl_28])) ov w' c s
  refine rl_gf rfl (zw_s hw_18) rfl rfl ?_
  show Zr sc 118 42 [zp a0, zj x1, zj wy] [zj st_21, zj wy_20, zp (a0 + 1)] (w_15.set a0 (zob 7 [zp (a0 + 1), .ref 0, zj dr_19, zj wy_20, zj st_21, zj r_17, zp (a0 + 73), zj nm_23, zp (a0 + 74), zp (a0 + 75), zp (a0 + 76), zj ar_24, zj hn_25, zp (a0 + 77), zj pk_26, zp D_27, zj tl_28])) ov w' c s
  refine Zr_st (q := (43, [zp a0, zj x1, zj wy], [zp a0, zj st_21, zj wy_20, zp (a0 + 1)])) rfl rfl rfl ?_
  show Zr sc 118 43 [zp a0, zj x1, zj wy] [zp a0, zj st_21, zj wy_20, zp (a0 + 1)] (w_15.set a0 (zob 7 [zp (a0 + 1), .ref 0, zj dr_19, zj wy_20, zj st_21, zj r_17, zp (a0 + 73), zj nm_23, zp (a0 + 74), zp (a0 + 75), zp (a0 + 76), zj ar_24, zj hn_25, zp (a0 + 77), zj pk_26, zp D_27, zj tl_28])) ov w' c s
  refine rl_gf rfl (zw_s hw_18) rfl rfl ?_
  show Zr sc 118 46 [zp a0, zj x1, zj wy] [zj r_17, zj st_21, zj wy_20, zp (a0 + 1)] (w_15.set a0 (zob 7 [zp (a0 + 1), .ref 0, zj dr_19, zj wy_20, zj st_21, zj r_17, zp (a0 + 73), zj nm_23, zp (a0 + 74), zp (a0 + 75), zp (a0 + 76), zj ar_24, zj hn_25, zp (a0 + 77), zj pk_26, zp D_27, zj tl_28])) ov w' c s
  obtain ⟨fs_30, hl_29, h⟩ := h
  obtain ⟨r_33, w_31, hk_32, h⟩ := h
  refine rn_cal0 (ins := .invokevirtual 72) (rest := []) rfl rfl rfl rfl (zinv_v (fs := _) (zw_o (by omega) hl_29) rfl rfl rfl rfl) rfl rfl hk_32 ?_
  show Zr sc 118 49 [zp a0, zj x1, zj wy] [zj r_33] w_31 ov w' c s
  refine Zr_st (q := (50, [zp a0, zj x1, zj wy], [zj wy, zj r_33])) rfl rfl rfl ?_
  show Zr sc 118 50 [zp a0, zj x1, zj wy] [zj wy, zj r_33] w_31 ov w' c s
  obtain ⟨hr_34, h⟩ := h
  refine Zr_br (p := r_33 ≠ wy) rfl rfl (zcmp_j (cnd := .ne) hr_34.1 hr_34.2) (fun hp => ?_) (fun hp => ?_)
  · replace h := h.1 hp
    show Zr sc 118 57 [zp a0, zj x1, zj wy] [] w_31 ov w' c s
    refine rl_ic rfl ?_
    show Zr sc 118 58 [zp a0, zj x1, zj wy] [zj 0] w_31 ov w' c s
    obtain ⟨h1, h2, h3, h4⟩ := h
    subst h1; subst h2; subst h3; subst h4
    exact Zr_ret (ins := .ireturn) rfl rfl
  · replace h := h.2 hp
    show Zr sc 118 53 [zp a0, zj x1, zj wy] [] w_31 ov w' c s
    refine rl_ic rfl ?_
    show Zr sc 118 54 [zp a0, zj x1, zj wy] [zj 1] w_31 ov w' c s
    refine Zr_st (q := (58, [zp a0, zj x1, zj wy], [zj 1])) rfl rfl rfl ?_
    show Zr sc 118 58 [zp a0, zj x1, zj wy] [zj 1] w_31 ov w' c s
    obtain ⟨h1, h2, h3, h4⟩ := h
    subst h1; subst h2; subst h3; subst h4
    exact Zr_ret (ins := .ireturn) rfl rfl

-- HeapwrightLab.reset(III)I
set_option maxRecDepth 100000 in
theorem V119_0 {sc : List Value} {w w' : List zE} {ov : Option Value} {c s : Nat} {a0 : Nat} {x1 : Int} {x2 : Int} {x3 : Int} {wy : Int} (L0 : w[a0]? = some (zob 6 [zp (a0 + 1), zp (a0 + 5), zp (a0 + 16), zp (a0 + 27), zp (a0 + 38), zp (a0 + 49), zp (a0 + 60), zj wy])) (h : (∃ r_3 : Int, Zc sc 56 [zj x1] w (some (zj r_3)) w 0 0 ∧ ((zrg r_3) ∧ ((r_3 ≠ 0 → ((zrg x2 ∧ zrg 1) ∧ ((x2 = 1 → ((zrg x3) ∧ ((x3 < 0 → False) ∧ (¬ (x3 < 0) → ((zrg x3 ∧ zrg 8) ∧ ((x3 ≤ 8 → (∃ fs_9 : List Value, w[(a0 + 1)]? = some (zob 5 fs_9) ∧ (∃ w_10 : List zE, Zc sc 120 [zp (a0 + 1)] (w.set a0 (zob 6 [zp (a0 + 1), zp (a0 + 5), zp (a0 + 16), zp (a0 + 27), zp (a0 + 38), zp (a0 + 49), zp (a0 + 60), zj x1])) none w_10 0 0 ∧ Zr sc 119 89 [zp a0, zj x1, zj x2, zj x3, zj wy, zj 0] [] w_10 ov w' c s))) ∧ (¬ (x3 ≤ 8) → False))))))) ∧ (¬ (x2 = 1) → ((zrg x2 ∧ zrg 2) ∧ ((x2 = 2 → ((zrg x3) ∧ ((x3 < 0 → False) ∧ (¬ (x3 < 0) → ((zrg x3 ∧ zrg 8) ∧ ((x3 ≤ 8 → (∃ fs_16 : List Value, w[(a0 + 1)]? = some (zob 5 fs_16) ∧ (∃ w_17 : List zE, Zc sc 120 [zp (a0 + 1)] (w.set a0 (zob 6 [zp (a0 + 1), zp (a0 + 5), zp (a0 + 16), zp (a0 + 27), zp (a0 + 38), zp (a0 + 49), zp (a0 + 60), zj x1])) none w_17 0 0 ∧ Zr sc 119 89 [zp a0, zj x1, zj x2, zj x3, zj wy, zj 0] [] w_17 ov w' c s))) ∧ (¬ (x3 ≤ 8) → False))))))) ∧ (¬ (x2 = 2) → ((zrg x2 ∧ zrg 4) ∧ ((x2 = 4 → ((zrg x3) ∧ ((x3 < 0 → False) ∧ (¬ (x3 < 0) → ((zrg x3 ∧ zrg 8) ∧ ((x3 ≤ 8 → (∃ fs_23 : List Value, w[(a0 + 1)]? = some (zob 5 fs_23) ∧ (∃ w_24 : List zE, Zc sc 120 [zp (a0 + 1)] (w.set a0 (zob 6 [zp (a0 + 1), zp (a0 + 5), zp (a0 + 16), zp (a0 + 27), zp (a0 + 38), zp (a0 + 49), zp (a0 + 60), zj x1])) none w_24 0 0 ∧ Zr sc 119 89 [zp a0, zj x1, zj x2, zj x3, zj wy, zj 0] [] w_24 ov w' c s))) ∧ (¬ (x3 ≤ 8) → False))))))) ∧ (¬ (x2 = 4) → ((zrg x2 ∧ zrg 8) ∧ ((x2 = 8 → ((zrg x3) ∧ ((x3 < 0 → False) ∧ (¬ (x3 < 0) → ((zrg x3 ∧ zrg 8) ∧ ((x3 ≤ 8 → (∃ fs_30 : List Value, w[(a0 + 1)]? = some (zob 5 fs_30) ∧ (∃ w_31 : List zE, Zc sc 120 [zp (a0 + 1)] (w.set a0 (zob 6 [zp (a0 + 1), zp (a0 + 5), zp (a0 + 16), zp (a0 + 27), zp (a0 + 38), zp (a0 + 49), zp (a0 + 60), zj x1])) none w_31 0 0 ∧ Zr sc 119 89 [zp a0, zj x1, zj x2, zj x3, zj wy, zj 0] [] w_31 ov w' c s))) ∧ (¬ (x3 ≤ 8) → False))))))) ∧ (¬ (x2 = 8) → False))))))))))))) ∧ (¬ (r_3 ≠ 0) → False))))) : Zr sc 119 0 [zp a0, zj x1, zj x2, zj x3, zmk, zmk] [] w ov w' c s := by
  refine Zr_st (q := (1, [zp a0, zj x1, zj x2, zj x3, zmk, zmk], [zj x1])) rfl rfl rfl ?_
  show Zr sc 119 1 [zp a0, zj x1, zj x2, zj x3, zmk, zmk] [zj x1] w ov w' c s
  obtain ⟨r_3, hk_9, h⟩ := h
  refine rn_cal0 (ins := .invokestatic 52) (rest := []) rfl rfl rfl rfl (zinv_t rfl rfl rfl rfl) rfl rfl hk_9 ?_
  show Zr sc 119 4 [zp a0, zj x1, zj x2, zj x3, zmk, zmk] [zj r_3] w ov w' c s
  obtain ⟨hr_4, h⟩ := h
  refine Zr_b0 (p := r_3 ≠ 0) rfl rfl (zcmp_0 (cnd := .ne) hr_4) (fun hp => ?_) (fun hp => ?_)
  · replace h := h.1 hp
    show Zr sc 119 17 [zp a0, zj x1, zj x2, zj x3, zmk, zmk] [] w ov w' c s
    refine Zr_st (q := (18, [zp a0, zj x1, zj x2, zj x3, zmk, zmk], [zj x2])) rfl rfl rfl ?_
    show Zr sc 119 18 [zp a0, zj x1, zj x2, zj x3, zmk, zmk] [zj x2] w ov w' c s
    refine rl_ic rfl ?_
    show Zr sc 119 19 [zp a0, zj x1, zj x2, zj x3, zmk, zmk] [zj 1, zj x2] w ov w' c s
    obtain ⟨hr_5, h⟩ := h
    refine Zr_br (p := x2 = 1) rfl rfl (zcmp_j (cnd := .eq) hr_5.1 hr_5.2) (fun hp => ?_) (fun hp => ?_)
    · replace h := h.1 hp
      show Zr sc 119 48 [zp a0, zj x1, zj x2, zj x3, zmk, zmk] [] w ov w' c s
      refine Zr_st (q := (49, [zp a0, zj x1, zj x2, zj x3, zmk, zmk], [zj x3])) rfl rfl rfl ?_
      show Zr sc 119 49 [zp a0, zj x1, zj x2, zj x3, zmk, zmk] [zj x3] w ov w' c s
      obtain ⟨hr_6, h⟩ := h
      refine Zr_b0 (p := x3 < 0) rfl rfl (zcmp_0 (cnd := .lt) hr_6) (fun hp => ?_) (fun hp => ?_)
      · replace h := h.1 hp
        show Zr sc 119 58 [zp a0, zj x1, zj x2, zj x3, zmk, zmk] [] w ov w' c s
        exact h.elim
      · replace h := h.2 hp
        show Zr sc 119 52 [zp a0, zj x1, zj x2, zj x3, zmk, zmk] [] w ov w' c s
        refine Zr_st (q := (53, [zp a0, zj x1, zj x2, zj x3, zmk, zmk], [zj x3])) rfl rfl rfl ?_
        show Zr sc 119 53 [zp a0, zj x1, zj x2, zj x3, zmk, zmk] [zj x3] w ov w' c s
        refine rl_bi rfl (by decide) ?_
        show Zr sc 119 55 [zp a0, zj x1, zj x2, zj x3, zmk, zmk] [zj 8, zj x3] w ov w' c s
        obtain ⟨hr_7, h⟩ := h
        refine Zr_br (p := x3 ≤ 8) rfl rfl (zcmp_j (cnd := .le) hr_7.1 hr_7.2) (fun hp => ?_) (fun hp => ?_)
        · replace h := h.1 hp
          show Zr sc 119 68 [zp a0, zj x1, zj x2, zj x3, zmk, zmk] [] w ov w' c s
          refine Zr_st (q := (69, [zp a0, zj x1, zj x2, zj x3, zmk, zmk], [zp a0])) rfl rfl rfl ?_
          show Zr sc 119 69 [zp a0, zj x1, zj x2, zj x3, zmk, zmk] [zp a0] w ov w' c s
          refine rl_gf rfl L0 rfl rfl ?_
          show Zr sc 119 72 [zp a0, zj x1, zj x2, zj x3, zmk, zmk] [zj wy] w ov w' c s
          refine Zr_st (q := (74, [zp a0, zj x1, zj x2, zj x3, zj wy, zmk], [])) rfl rfl rfl ?_
          show Zr sc 119 74 [zp a0, zj x1, zj x2, zj x3, zj wy, zmk] [] w ov w' c s
          refine Zr_st (q := (75, [zp a0, zj x1, zj x2, zj x3, zj wy, zmk], [zp a0])) rfl rfl rfl ?_
          show Zr sc 119 75 [zp a0, zj x1, zj x2, zj x3, zj wy, zmk] [zp a0] w ov w' c s
          refine Zr_st (q := (76, [zp a0, zj x1, zj x2, zj x3, zj wy, zmk], [zj x1, zp a0])) rfl rfl rfl ?_
          show Zr sc 119 76 [zp a0, zj x1, zj x2, zj x3, zj wy, zmk] [zj x1, zp a0] w ov w' c s
          refine rl_pf rfl L0 rfl rfl rfl ?_
          show Zr sc 119 79 [zp a0, zj x1, zj x2, zj x3, zj wy, zmk] [] (w.set a0 (zob 6 [zp (a0 + 1), zp (a0 + 5), zp (a0 + 16), zp (a0 + 27), zp (a0 + 38), zp (a0 + 49), zp (a0 + 60), zj x1])) ov w' c s
          refine Zr_st (q := (80, [zp a0, zj x1, zj x2, zj x3, zj wy, zmk], [zp a0])) rfl rfl rfl ?_
          show Zr sc 119 80 [zp a0, zj x1, zj x2, zj x3, zj wy, zmk] [zp a0] (w.set a0 (zob 6 [zp (a0 + 1), zp (a0 + 5), zp (a0 + 16), zp (a0 + 27), zp (a0 + 38), zp (a0 + 49), zp (a0 + 60), zj x1])) ov w' c s
          refine rl_gf rfl (zw_s L0) rfl rfl ?_
          show Zr sc 119 83 [zp a0, zj x1, zj x2, zj x3, zj wy, zmk] [zp (a0 + 1)] (w.set a0 (zob 6 [zp (a0 + 1), zp (a0 + 5), zp (a0 + 16), zp (a0 + 27), zp (a0 + 38), zp (a0 + 49), zp (a0 + 60), zj x1])) ov w' c s
          obtain ⟨fs_9, hl_8, h⟩ := h
          obtain ⟨w_10, hk_11, h⟩ := h
          refine rn_cal0 (ins := .invokevirtual 67) (rest := []) rfl rfl rfl rfl (zinv_v (fs := _) (zw_o (by omega) hl_8) rfl rfl rfl rfl) rfl rfl hk_11 ?_
          show Zr sc 119 86 [zp a0, zj x1, zj x2, zj x3, zj wy, zmk] [] w_10 ov w' c s
          refine rl_ic rfl ?_
          show Zr sc 119 87 [zp a0, zj x1, zj x2, zj x3, zj wy, zmk] [zj 0] w_10 ov w' c s
          refine Zr_st (q := (89, [zp a0, zj x1, zj x2, zj x3, zj wy, zj 0], [])) rfl rfl rfl ?_
          show Zr sc 119 89 [zp a0, zj x1, zj x2, zj x3, zj wy, zj 0] [] w_10 ov w' c s
          exact h
        · replace h := h.2 hp
          show Zr sc 119 58 [zp a0, zj x1, zj x2, zj x3, zmk, zmk] [] w ov w' c s
          exact h.elim
    · replace h := h.2 hp
      show Zr sc 119 22 [zp a0, zj x1, zj x2, zj x3, zmk, zmk] [] w ov w' c s
      refine Zr_st (q := (23, [zp a0, zj x1, zj x2, zj x3, zmk, zmk], [zj x2])) rfl rfl rfl ?_
      show Zr sc 119 23 [zp a0, zj x1, zj x2, zj x3, zmk, zmk] [zj x2] w ov w' c s
      refine rl_ic rfl ?_
      show Zr sc 119 24 [zp a0, zj x1, zj x2, zj x3, zmk, zmk] [zj 2, zj x2] w ov w' c s
      obtain ⟨hr_12, h⟩ := h
      refine Zr_br (p := x2 = 2) rfl rfl (zcmp_j (cnd := .eq) hr_12.1 hr_12.2) (fun hp => ?_) (fun hp => ?_)
      · replace h := h.1 hp
        show Zr sc 119 48 [zp a0, zj x1, zj x2, zj x3, zmk, zmk] [] w ov w' c s
        refine Zr_st (q := (49, [zp a0, zj x1, zj x2, zj x3, zmk, zmk], [zj x3])) rfl rfl rfl ?_
        show Zr sc 119 49 [zp a0, zj x1, zj x2, zj x3, zmk, zmk] [zj x3] w ov w' c s
        obtain ⟨hr_13, h⟩ := h
        refine Zr_b0 (p := x3 < 0) rfl rfl (zcmp_0 (cnd := .lt) hr_13) (fun hp => ?_) (fun hp => ?_)
        · replace h := h.1 hp
          show Zr sc 119 58 [zp a0, zj x1, zj x2, zj x3, zmk, zmk] [] w ov w' c s
          exact h.elim
        · replace h := h.2 hp
          show Zr sc 119 52 [zp a0, zj x1, zj x2, zj x3, zmk, zmk] [] w ov w' c s
          refine Zr_st (q := (53, [zp a0, zj x1, zj x2, zj x3, zmk, zmk], [zj x3])) rfl rfl rfl ?_
          show Zr sc 119 53 [zp a0, zj x1, zj x2, zj x3, zmk, zmk] [zj x3] w ov w' c s
          refine rl_bi rfl (by decide) ?_
          show Zr sc 119 55 [zp a0, zj x1, zj x2, zj x3, zmk, zmk] [zj 8, zj x3] w ov w' c s
          obtain ⟨hr_14, h⟩ := h
          refine Zr_br (p := x3 ≤ 8) rfl rfl (zcmp_j (cnd := .le) hr_14.1 hr_14.2) (fun hp => ?_) (fun hp => ?_)
          · replace h := h.1 hp
            show Zr sc 119 68 [zp a0, zj x1, zj x2, zj x3, zmk, zmk] [] w ov w' c s
            refine Zr_st (q := (69, [zp a0, zj x1, zj x2, zj x3, zmk, zmk], [zp a0])) rfl rfl rfl ?_
            show Zr sc 119 69 [zp a0, zj x1, zj x2, zj x3, zmk, zmk] [zp a0] w ov w' c s
            refine rl_gf rfl L0 rfl rfl ?_
            show Zr sc 119 72 [zp a0, zj x1, zj x2, zj x3, zmk, zmk] [zj wy] w ov w' c s
            refine Zr_st (q := (74, [zp a0, zj x1, zj x2, zj x3, zj wy, zmk], [])) rfl rfl rfl ?_
            show Zr sc 119 74 [zp a0, zj x1, zj x2, zj x3, zj wy, zmk] [] w ov w' c s
            refine Zr_st (q := (75, [zp a0, zj x1, zj x2, zj x3, zj wy, zmk], [zp a0])) rfl rfl rfl ?_
            show Zr sc 119 75 [zp a0, zj x1, zj x2, zj x3, zj wy, zmk] [zp a0] w ov w' c s
            refine Zr_st (q := (76, [zp a0, zj x1, zj x2, zj x3, zj wy, zmk], [zj x1, zp a0])) rfl rfl rfl ?_
            show Zr sc 119 76 [zp a0, zj x1, zj x2, zj x3, zj wy, zmk] [zj x1, zp a0] w ov w' c s
            refine rl_pf rfl L0 rfl rfl rfl ?_
            show Zr sc 119 79 [zp a0, zj x1, zj x2, zj x3, zj wy, zmk] [] (w.set a0 (zob 6 [zp (a0 + 1), zp (a0 + 5), zp (a0 + 16), zp (a0 + 27), zp (a0 + 38), zp (a0 + 49), zp (a0 + 60), zj x1])) ov w' c s
            refine Zr_st (q := (80, [zp a0, zj x1, zj x2, zj x3, zj wy, zmk], [zp a0])) rfl rfl rfl ?_
            show Zr sc 119 80 [zp a0, zj x1, zj x2, zj x3, zj wy, zmk] [zp a0] (w.set a0 (zob 6 [zp (a0 + 1), zp (a0 + 5), zp (a0 + 16), zp (a0 + 27), zp (a0 + 38), zp (a0 + 49), zp (a0 + 60), zj x1])) ov w' c s
            refine rl_gf rfl (zw_s L0) rfl rfl ?_
            show Zr sc 119 83 [zp a0, zj x1, zj x2, zj x3, zj wy, zmk] [zp (a0 + 1)] (w.set a0 (zob 6 [zp (a0 + 1), zp (a0 + 5), zp (a0 + 16), zp (a0 + 27), zp (a0 + 38), zp (a0 + 49), zp (a0 + 60), zj x1])) ov w' c s
            obtain ⟨fs_16, hl_15, h⟩ := h
            obtain ⟨w_17, hk_18, h⟩ := h
            refine rn_cal0 (ins := .invokevirtual 67) (rest := []) rfl rfl rfl rfl (zinv_v (fs := _) (zw_o (by omega) hl_15) rfl rfl rfl rfl) rfl rfl hk_18 ?_
            show Zr sc 119 86 [zp a0, zj x1, zj x2, zj x3, zj wy, zmk] [] w_17 ov w' c s
            refine rl_ic rfl ?_
            show Zr sc 119 87 [zp a0, zj x1, zj x2, zj x3, zj wy, zmk] [zj 0] w_17 ov w' c s
            refine Zr_st (q := (89, [zp a0, zj x1, zj x2, zj x3, zj wy, zj 0], [])) rfl rfl rfl ?_
            show Zr sc 119 89 [zp a0, zj x1, zj x2, zj x3, zj wy, zj 0] [] w_17 ov w' c s
            exact h
          · replace h := h.2 hp
            show Zr sc 119 58 [zp a0, zj x1, zj x2, zj x3, zmk, zmk] [] w ov w' c s
            exact h.elim
      · replace h := h.2 hp
        show Zr sc 119 27 [zp a0, zj x1, zj x2, zj x3, zmk, zmk] [] w ov w' c s
        refine Zr_st (q := (28, [zp a0, zj x1, zj x2, zj x3, zmk, zmk], [zj x2])) rfl rfl rfl ?_
        show Zr sc 119 28 [zp a0, zj x1, zj x2, zj x3, zmk, zmk] [zj x2] w ov w' c s
        refine rl_ic rfl ?_
        show Zr sc 119 29 [zp a0, zj x1, zj x2, zj x3, zmk, zmk] [zj 4, zj x2] w ov w' c s
        obtain ⟨hr_19, h⟩ := h
        refine Zr_br (p := x2 = 4) rfl rfl (zcmp_j (cnd := .eq) hr_19.1 hr_19.2) (fun hp => ?_) (fun hp => ?_)
        · replace h := h.1 hp
          show Zr sc 119 48 [zp a0, zj x1, zj x2, zj x3, zmk, zmk] [] w ov w' c s
          refine Zr_st (q := (49, [zp a0, zj x1, zj x2, zj x3, zmk, zmk], [zj x3])) rfl rfl rfl ?_
          show Zr sc 119 49 [zp a0, zj x1, zj x2, zj x3, zmk, zmk] [zj x3] w ov w' c s
          obtain ⟨hr_20, h⟩ := h
          refine Zr_b0 (p := x3 < 0) rfl rfl (zcmp_0 (cnd := .lt) hr_20) (fun hp => ?_) (fun hp => ?_)
          · replace h := h.1 hp
            show Zr sc 119 58 [zp a0, zj x1, zj x2, zj x3, zmk, zmk] [] w ov w' c s
            exact h.elim
          · replace h := h.2 hp
            show Zr sc 119 52 [zp a0, zj x1, zj x2, zj x3, zmk, zmk] [] w ov w' c s
            refine Zr_st (q := (53, [zp a0, zj x1, zj x2, zj x3, zmk, zmk], [zj x3])) rfl rfl rfl ?_
            show Zr sc 119 53 [zp a0, zj x1, zj x2, zj x3, zmk, zmk] [zj x3] w ov w' c s
            refine rl_bi rfl (by decide) ?_
            show Zr sc 119 55 [zp a0, zj x1, zj x2, zj x3, zmk, zmk] [zj 8, zj x3] w ov w' c s
            obtain ⟨hr_21, h⟩ := h
            refine Zr_br (p := x3 ≤ 8) rfl rfl (zcmp_j (cnd := .le) hr_21.1 hr_21.2) (fun hp => ?_) (fun hp => ?_)
            · replace h := h.1 hp
              show Zr sc 119 68 [zp a0, zj x1, zj x2, zj x3, zmk, zmk] [] w ov w' c s
              refine Zr_st (q := (69, [zp a0, zj x1, zj x2, zj x3, zmk, zmk], [zp a0])) rfl rfl rfl ?_
              show Zr sc 119 69 [zp a0, zj x1, zj x2, zj x3, zmk, zmk] [zp a0] w ov w' c s
              refine rl_gf rfl L0 rfl rfl ?_
              show Zr sc 119 72 [zp a0, zj x1, zj x2, zj x3, zmk, zmk] [zj wy] w ov w' c s
              refine Zr_st (q := (74, [zp a0, zj x1, zj x2, zj x3, zj wy, zmk], [])) rfl rfl rfl ?_
              show Zr sc 119 74 [zp a0, zj x1, zj x2, zj x3, zj wy, zmk] [] w ov w' c s
              refine Zr_st (q := (75, [zp a0, zj x1, zj x2, zj x3, zj wy, zmk], [zp a0])) rfl rfl rfl ?_
              show Zr sc 119 75 [zp a0, zj x1, zj x2, zj x3, zj wy, zmk] [zp a0] w ov w' c s
              refine Zr_st (q := (76, [zp a0, zj x1, zj x2, zj x3, zj wy, zmk], [zj x1, zp a0])) rfl rfl rfl ?_
              show Zr sc 119 76 [zp a0, zj x1, zj x2, zj x3, zj wy, zmk] [zj x1, zp a0] w ov w' c s
              refine rl_pf rfl L0 rfl rfl rfl ?_
              show Zr sc 119 79 [zp a0, zj x1, zj x2, zj x3, zj wy, zmk] [] (w.set a0 (zob 6 [zp (a0 + 1), zp (a0 + 5), zp (a0 + 16), zp (a0 + 27), zp (a0 + 38), zp (a0 + 49), zp (a0 + 60), zj x1])) ov w' c s
              refine Zr_st (q := (80, [zp a0, zj x1, zj x2, zj x3, zj wy, zmk], [zp a0])) rfl rfl rfl ?_
              show Zr sc 119 80 [zp a0, zj x1, zj x2, zj x3, zj wy, zmk] [zp a0] (w.set a0 (zob 6 [zp (a0 + 1), zp (a0 + 5), zp (a0 + 16), zp (a0 + 27), zp (a0 + 38), zp (a0 + 49), zp (a0 + 60), zj x1])) ov w' c s
              refine rl_gf rfl (zw_s L0) rfl rfl ?_
              show Zr sc 119 83 [zp a0, zj x1, zj x2, zj x3, zj wy, zmk] [zp (a0 + 1)] (w.set a0 (zob 6 [zp (a0 + 1), zp (a0 + 5), zp (a0 + 16), zp (a0 + 27), zp (a0 + 38), zp (a0 + 49), zp (a0 + 60), zj x1])) ov w' c s
              obtain ⟨fs_23, hl_22, h⟩ := h
              obtain ⟨w_24, hk_25, h⟩ := h
              refine rn_cal0 (ins := .invokevirtual 67) (rest := []) rfl rfl rfl rfl (zinv_v (fs := _) (zw_o (by omega) hl_22) rfl rfl rfl rfl) rfl rfl hk_25 ?_
              show Zr sc 119 86 [zp a0, zj x1, zj x2, zj x3, zj wy, zmk] [] w_24 ov w' c s
              refine rl_ic rfl ?_
              show Zr sc 119 87 [zp a0, zj x1, zj x2, zj x3, zj wy, zmk] [zj 0] w_24 ov w' c s
              refine Zr_st (q := (89, [zp a0, zj x1, zj x2, zj x3, zj wy, zj 0], [])) rfl rfl rfl ?_
              show Zr sc 119 89 [zp a0, zj x1, zj x2, zj x3, zj wy, zj 0] [] w_24 ov w' c s
              exact h
            · replace h := h.2 hp
              show Zr sc 119 58 [zp a0, zj x1, zj x2, zj x3, zmk, zmk] [] w ov w' c s
              exact h.elim
        · replace h := h.2 hp
          show Zr sc 119 32 [zp a0, zj x1, zj x2, zj x3, zmk, zmk] [] w ov w' c s
          refine Zr_st (q := (33, [zp a0, zj x1, zj x2, zj x3, zmk, zmk], [zj x2])) rfl rfl rfl ?_
          show Zr sc 119 33 [zp a0, zj x1, zj x2, zj x3, zmk, zmk] [zj x2] w ov w' c s
          refine rl_bi rfl (by decide) ?_
          show Zr sc 119 35 [zp a0, zj x1, zj x2, zj x3, zmk, zmk] [zj 8, zj x2] w ov w' c s
          obtain ⟨hr_26, h⟩ := h
          refine Zr_br (p := x2 = 8) rfl rfl (zcmp_j (cnd := .eq) hr_26.1 hr_26.2) (fun hp => ?_) (fun hp => ?_)
          · replace h := h.1 hp
            show Zr sc 119 48 [zp a0, zj x1, zj x2, zj x3, zmk, zmk] [] w ov w' c s
            refine Zr_st (q := (49, [zp a0, zj x1, zj x2, zj x3, zmk, zmk], [zj x3])) rfl rfl rfl ?_
            show Zr sc 119 49 [zp a0, zj x1, zj x2, zj x3, zmk, zmk] [zj x3] w ov w' c s
            obtain ⟨hr_27, h⟩ := h
            refine Zr_b0 (p := x3 < 0) rfl rfl (zcmp_0 (cnd := .lt) hr_27) (fun hp => ?_) (fun hp => ?_)
            · replace h := h.1 hp
              show Zr sc 119 58 [zp a0, zj x1, zj x2, zj x3, zmk, zmk] [] w ov w' c s
              exact h.elim
            · replace h := h.2 hp
              show Zr sc 119 52 [zp a0, zj x1, zj x2, zj x3, zmk, zmk] [] w ov w' c s
              refine Zr_st (q := (53, [zp a0, zj x1, zj x2, zj x3, zmk, zmk], [zj x3])) rfl rfl rfl ?_
              show Zr sc 119 53 [zp a0, zj x1, zj x2, zj x3, zmk, zmk] [zj x3] w ov w' c s
              refine rl_bi rfl (by decide) ?_
              show Zr sc 119 55 [zp a0, zj x1, zj x2, zj x3, zmk, zmk] [zj 8, zj x3] w ov w' c s
              obtain ⟨hr_28, h⟩ := h
              refine Zr_br (p := x3 ≤ 8) rfl rfl (zcmp_j (cnd := .le) hr_28.1 hr_28.2) (fun hp => ?_) (fun hp => ?_)
              · replace h := h.1 hp
                show Zr sc 119 68 [zp a0, zj x1, zj x2, zj x3, zmk, zmk] [] w ov w' c s
                refine Zr_st (q := (69, [zp a0, zj x1, zj x2, zj x3, zmk, zmk], [zp a0])) rfl rfl rfl ?_
                show Zr sc 119 69 [zp a0, zj x1, zj x2, zj x3, zmk, zmk] [zp a0] w ov w' c s
                refine rl_gf rfl L0 rfl rfl ?_
                show Zr sc 119 72 [zp a0, zj x1, zj x2, zj x3, zmk, zmk] [zj wy] w ov w' c s
                refine Zr_st (q := (74, [zp a0, zj x1, zj x2, zj x3, zj wy, zmk], [])) rfl rfl rfl ?_
                show Zr sc 119 74 [zp a0, zj x1, zj x2, zj x3, zj wy, zmk] [] w ov w' c s
                refine Zr_st (q := (75, [zp a0, zj x1, zj x2, zj x3, zj wy, zmk], [zp a0])) rfl rfl rfl ?_
                show Zr sc 119 75 [zp a0, zj x1, zj x2, zj x3, zj wy, zmk] [zp a0] w ov w' c s
                refine Zr_st (q := (76, [zp a0, zj x1, zj x2, zj x3, zj wy, zmk], [zj x1, zp a0])) rfl rfl rfl ?_
                show Zr sc 119 76 [zp a0, zj x1, zj x2, zj x3, zj wy, zmk] [zj x1, zp a0] w ov w' c s
                refine rl_pf rfl L0 rfl rfl rfl ?_
                show Zr sc 119 79 [zp a0, zj x1, zj x2, zj x3, zj wy, zmk] [] (w.set a0 (zob 6 [zp (a0 + 1), zp (a0 + 5), zp (a0 + 16), zp (a0 + 27), zp (a0 + 38), zp (a0 + 49), zp (a0 + 60), zj x1])) ov w' c s
                refine Zr_st (q := (80, [zp a0, zj x1, zj x2, zj x3, zj wy, zmk], [zp a0])) rfl rfl rfl ?_
                show Zr sc 119 80 [zp a0, zj x1, zj x2, zj x3, zj wy, zmk] [zp a0] (w.set a0 (zob 6 [zp (a0 + 1), zp (a0 + 5), zp (a0 + 16), zp (a0 + 27), zp (a0 + 38), zp (a0 + 49), zp (a0 + 60), zj x1])) ov w' c s
                refine rl_gf rfl (zw_s L0) rfl rfl ?_
                show Zr sc 119 83 [zp a0, zj x1, zj x2, zj x3, zj wy, zmk] [zp (a0 + 1)] (w.set a0 (zob 6 [zp (a0 + 1), zp (a0 + 5), zp (a0 + 16), zp (a0 + 27), zp (a0 + 38), zp (a0 + 49), zp (a0 + 60), zj x1])) ov w' c s
                obtain ⟨fs_30, hl_29, h⟩ := h
                obtain ⟨w_31, hk_32, h⟩ := h
                refine rn_cal0 (ins := .invokevirtual 67) (rest := []) rfl rfl rfl rfl (zinv_v (fs := _) (zw_o (by omega) hl_29) rfl rfl rfl rfl) rfl rfl hk_32 ?_
                show Zr sc 119 86 [zp a0, zj x1, zj x2, zj x3, zj wy, zmk] [] w_31 ov w' c s
                refine rl_ic rfl ?_
                show Zr sc 119 87 [zp a0, zj x1, zj x2, zj x3, zj wy, zmk] [zj 0] w_31 ov w' c s
                refine Zr_st (q := (89, [zp a0, zj x1, zj x2, zj x3, zj wy, zj 0], [])) rfl rfl rfl ?_
                show Zr sc 119 89 [zp a0, zj x1, zj x2, zj x3, zj wy, zj 0] [] w_31 ov w' c s
                exact h
              · replace h := h.2 hp
                show Zr sc 119 58 [zp a0, zj x1, zj x2, zj x3, zmk, zmk] [] w ov w' c s
                exact h.elim
          · replace h := h.2 hp
            show Zr sc 119 38 [zp a0, zj x1, zj x2, zj x3, zmk, zmk] [] w ov w' c s
            exact h.elim
  · replace h := h.2 hp
    show Zr sc 119 7 [zp a0, zj x1, zj x2, zj x3, zmk, zmk] [] w ov w' c s
    exact h.elim
set_option maxRecDepth 100000 in
theorem V119_89 {sc : List Value} {w w' : List zE} {ov : Option Value} {c s : Nat} {a0 : Nat} {x1 : Int} {x2 : Int} {x3 : Int} {x4 : Int} {x5 : Int} {wy : Int} (L0 : w[a0]? = some (zob 6 [zp (a0 + 1), zp (a0 + 5), zp (a0 + 16), zp (a0 + 27), zp (a0 + 38), zp (a0 + 49), zp (a0 + 60), zj wy])) (h : ((zrg x5 ∧ zrg 6) ∧ ((6 ≤ x5 → (ov = some (zj x4) ∧ w' = w ∧ c = 0 ∧ s = 0)) ∧ (¬ (6 ≤ x5) → (∃ p_4 : Nat, Zc sc 2 [zp a0, zj x5] w (some (zp p_4)) w 0 0 ∧ (∃ cn_5 : Nat, ∃ fs_6 : List Value, w[p_4]? = some (zob cn_5 fs_6) ∧ (cn_5 = 1 ∨ cn_5 = 2 ∨ cn_5 = 4) ∧ (∃ w_11 : List zE, Zc sc 121 [zp p_4, zj x2, zj x3] w none w_11 0 0 ∧ Zr sc 119 89 [zp a0, zj x1, zj x2, zj x3, zj x4, zj (x5 + 1)] [] w_11 ov w' c s))))))) : Zr sc 119 89 [zp a0, zj x1, zj x2, zj x3, zj x4, zj x5] [] w ov w' c s := by
  refine Zr_st (q := (91, [zp a0, zj x1, zj x2, zj x3, zj x4, zj x5], [zj x5])) rfl rfl rfl ?_
  show Zr sc 119 91 [zp a0, zj x1, zj x2, zj x3, zj x4, zj x5] [zj x5] w ov w' c s
  refine rl_bi rfl (by decide) ?_
  show Zr sc 119 93 [zp a0, zj x1, zj x2, zj x3, zj x4, zj x5] [zj 6, zj x5] w ov w' c s
  obtain ⟨hr_1, h⟩ := h
  refine Zr_br (p := 6 ≤ x5) rfl rfl (zcmp_j (cnd := .ge) hr_1.1 hr_1.2) (fun hp => ?_) (fun hp => ?_)
  · replace h := h.1 hp
    show Zr sc 119 113 [zp a0, zj x1, zj x2, zj x3, zj x4, zj x5] [] w ov w' c s
    refine Zr_st (q := (115, [zp a0, zj x1, zj x2, zj x3, zj x4, zj x5], [zj x4])) rfl rfl rfl ?_
    show Zr sc 119 115 [zp a0, zj x1, zj x2, zj x3, zj x4, zj x5] [zj x4] w ov w' c s
    obtain ⟨h1, h2, h3, h4⟩ := h
    subst h1; subst h2; subst h3; subst h4
    exact Zr_ret (ins := .ireturn) rfl rfl
  · replace h := h.2 hp
    show Zr sc 119 96 [zp a0, zj x1, zj x2, zj x3, zj x4, zj x5] [] w ov w' c s
    refine Zr_st (q := (97, [zp a0, zj x1, zj x2, zj x3, zj x4, zj x5], [zp a0])) rfl rfl rfl ?_
    show Zr sc 119 97 [zp a0, zj x1, zj x2, zj x3, zj x4, zj x5] [zp a0] w ov w' c s
    refine Zr_st (q := (99, [zp a0, zj x1, zj x2, zj x3, zj x4, zj x5], [zj x5, zp a0])) rfl rfl rfl ?_
    show Zr sc 119 99 [zp a0, zj x1, zj x2, zj x3, zj x4, zj x5] [zj x5, zp a0] w ov w' c s
    obtain ⟨p_4, hk_9, h⟩ := h
    refine rn_cal0 (ins := .invokevirtual 70) (rest := []) rfl rfl rfl rfl (zinv_v (fs := _) L0 rfl rfl rfl rfl) rfl rfl hk_9 ?_
    show Zr sc 119 102 [zp a0, zj x1, zj x2, zj x3, zj x4, zj x5] [zp p_4] w ov w' c s
    refine Zr_st (q := (103, [zp a0, zj x1, zj x2, zj x3, zj x4, zj x5], [zj x2, zp p_4])) rfl rfl rfl ?_
    show Zr sc 119 103 [zp a0, zj x1, zj x2, zj x3, zj x4, zj x5] [zj x2, zp p_4] w ov w' c s
    refine Zr_st (q := (104, [zp a0, zj x1, zj x2, zj x3, zj x4, zj x5], [zj x3, zj x2, zp p_4])) rfl rfl rfl ?_
    show Zr sc 119 104 [zp a0, zj x1, zj x2, zj x3, zj x4, zj x5] [zj x3, zj x2, zp p_4] w ov w' c s
    obtain ⟨cn_5, fs_6, hw_7, hcn_8, h⟩ := h
    have hz_9 : ∃ kd, zinv 119 (.invokevirtual 74) [zj x3, zj x2, zp p_4] (false, w) = some (kd, 121, [zp p_4, zj x2, zj x3], []) ∧ decide (kd < 6) = true := by rcases hcn_8 with rfl | rfl | rfl <;> exact zinv_u hw_7 rfl rfl rfl rfl rfl rfl rfl
    obtain ⟨kd_10, hz_9⟩ := hz_9
    obtain ⟨w_11, hk_12, h⟩ := h
    refine rn_cal0 (ins := .invokevirtual 74) (rest := []) rfl rfl rfl rfl hz_9.1 rfl hz_9.2 hk_12 ?_
    show Zr sc 119 107 [zp a0, zj x1, zj x2, zj x3, zj x4, zj x5] [] w_11 ov w' c s
    refine rl_inc rfl rfl rfl rfl ?_
    show Zr sc 119 110 [zp a0, zj x1, zj x2, zj x3, zj x4, zj (x5 + 1)] [] w_11 ov w' c s
    refine Zr_st (q := (89, [zp a0, zj x1, zj x2, zj x3, zj x4, zj (x5 + 1)], [])) rfl rfl rfl ?_
    show Zr sc 119 89 [zp a0, zj x1, zj x2, zj x3, zj x4, zj (x5 + 1)] [] w_11 ov w' c s
    exact h

-- HeapwrightLab$Trace.forget()V
set_option maxRecDepth 100000 in
theorem V120_0 {sc : List Value} {w w' : List zE} {ov : Option Value} {c s : Nat} {a0 : Nat} {len : Int} (L0 : w[a0]? = some (zob 5 [zp (a0 + 1), zp (a0 + 2), zp (a0 + 3), zj len])) (h : (ov = none ∧ w' = (w.set a0 (zob 5 [zp (a0 + 1), zp (a0 + 2), zp (a0 + 3), zj 0])) ∧ c = 0 ∧ s = 0)) : Zr sc 120 0 [zp a0] [] w ov w' c s := by
  refine Zr_st (q := (1, [zp a0], [zp a0])) rfl rfl rfl ?_
  show Zr sc 120 1 [zp a0] [zp a0] w ov w' c s
  refine rl_ic rfl ?_
  show Zr sc 120 2 [zp a0] [zj 0, zp a0] w ov w' c s
  refine rl_pf rfl L0 rfl rfl rfl ?_
  show Zr sc 120 5 [zp a0] [] (w.set a0 (zob 5 [zp (a0 + 1), zp (a0 + 2), zp (a0 + 3), zj 0])) ov w' c s
  obtain ⟨h1, h2, h3, h4⟩ := h
  subst h1; subst h2; subst h3; subst h4
  exact Zr_ret (ins := .return_) rfl rfl

-- HeapwrightLab$Memory.beginAnew(II)V
set_option maxRecDepth 100000 in
theorem V121_0_1 {sc : List Value} {w w' : List zE} {ov : Option Value} {c s : Nat} {a0 : Nat} {x1 : Int} {x2 : Int} {wy : Int} {st : Int} {hd : Int} {hn : Int} {sn : Int} {nm : Int} {ar : Int} {pk : Int} {dn : Int} (L0 : w[a0]? = some (zob 1 [zp (a0 + 1), zp (a0 + 6), zj wy, zj st, zj hd, zj hn, zj sn, zp (a0 + 9), zp (a0 + 10), zj nm, zj ar, zj pk, zj dn])) (h : (∃ w_1 : List zE, Zc sc 71 [zp (a0 + 9), zj 0] (((((((w.set a0 (zob 1 [zp (a0 + 1), zp (a0 + 6), zj wy, zj x1, zj hd, zj hn, zj sn, zp (a0 + 9), zp (a0 + 10), zj nm, zj ar, zj pk, zj dn])).set a0 (zob 1 [zp (a0 + 1), zp (a0 + 6), zj wy, zj x1, zj x2, zj hn, zj sn, zp (a0 + 9), zp (a0 + 10), zj nm, zj ar, zj pk, zj dn])).set a0 (zob 1 [zp (a0 + 1), zp (a0 + 6), zj wy, zj x1, zj x2, zj 0, zj sn, zp (a0 + 9), zp (a0 + 10), zj nm, zj ar, zj pk, zj dn])).set a0 (zob 1 [zp (a0 + 1), zp (a0 + 6), zj wy, zj x1, zj x2, zj 0, zj sn, zp (a0 + 9), zp (a0 + 10), zj 0, zj ar, zj pk, zj dn])).set a0 (zob 1 [zp (a0 + 1), zp (a0 + 6), zj wy, zj x1, zj x2, zj 0, zj sn, zp (a0 + 9), zp (a0 + 10), zj 0, zj 0, zj pk, zj dn])).set a0 (zob 1 [zp (a0 + 1), zp (a0 + 6), zj wy, zj x1, zj x2, zj 0, zj sn, zp (a0 + 9), zp (a0 + 10), zj 0, zj 0, zj 0, zj dn])).set a0 (zob 1 [zp (a0 + 1), zp (a0 + 6), zj wy, zj x1, zj x2, zj 0, zj sn, zp (a0 + 9), zp (a0 + 10), zj 0, zj 0, zj 0, zj 0])) none w_1 0 0 ∧ (∃ wy_4 : Int, ∃ st_5 : Int, ∃ hd_6 : Int, ∃ hn_7 : Int, ∃ sn_8 : Int, ∃ nm_9 : Int, ∃ ar_10 : Int, ∃ pk_11 : Int, ∃ dn_12 : Int, w_1[a0]? = some (zob 1 [zp (a0 + 1), zp (a0 + 6), zj wy_4, zj st_5, zj hd_6, zj hn_7, zj sn_8, zp (a0 + 9), zp (a0 + 10), zj nm_9, zj ar_10, zj pk_11, zj dn_12]) ∧ (∃ fs_14 : List Value, w_1[(a0 + 1)]? = some (zob 0 fs_14) ∧ (∃ w_15 : List zE, Zc sc 122 [zp (a0 + 1)] w_1 none w_15 0 0 ∧ (∃ fs_18 : List Value, w_15[a0]? = some (zob 1 fs_18) ∧ (∃ w_19 : List zE, Zc sc 69 [zp a0] w_15 none w_19 0 0 ∧ (ov = none ∧ w' = w_19 ∧ c = 0 ∧ s = 0)))))))) : Zr sc 121 0 [zp a0, zj x1, zj x2] [] w ov w' c s := by
  refine Zr_st (q := (1, [zp a0, zj x1, zj x2], [zp a0])) rfl rfl rfl ?_
  show Zr sc 121 1 [zp a0, zj x1, zj x2] [zp a0] w ov w' c s
  refine Zr_st (q := (2, [zp a0, zj x1, zj x2], [zj x1, zp a0])) rfl rfl rfl ?_
  show Zr sc 121 2 [zp a0, zj x1, zj x2] [zj x1, zp a0] w ov w' c s
  refine rl_pf rfl L0 rfl rfl rfl ?_
  show Zr sc 121 5 [zp a0, zj x1, zj x2] [] (w.set a0 (zob 1 [zp (a0 + 1), zp (a0 + 6), zj wy, zj x1, zj hd, zj hn, zj sn, zp (a0 + 9), zp (a0 + 10), zj nm, zj ar, zj pk, zj dn])) ov w' c s
  refine Zr_st (q := (6, [zp a0, zj x1, zj x2], [zp a0])) rfl rfl rfl ?_
  show Zr sc 121 6 [zp a0, zj x1, zj x2] [zp a0] (w.set a0 (zob 1 [zp (a0 + 1), zp (a0 + 6), zj wy, zj x1, zj hd, zj hn, zj sn, zp (a0 + 9), zp (a0 + 10), zj nm, zj ar, zj pk, zj dn])) ov w' c s
  refine Zr_st (q := (7, [zp a0, zj x1, zj x2], [zj x2, zp a0])) rfl rfl rfl ?_
  show Zr sc 121 7 [zp a0, zj x1, zj x2] [zj x2, zp a0] (w.set a0 (zob 1 [zp (a0 + 1), zp (a0 + 6), zj wy, zj x1, zj hd, zj hn, zj sn, zp (a0 + 9), zp (a0 + 10), zj nm, zj ar, zj pk, zj dn])) ov w' c s
  refine rl_pf rfl (zw_s L0) rfl rfl rfl ?_
  show Zr sc 121 10 [zp a0, zj x1, zj x2] [] ((w.set a0 (zob 1 [zp (a0 + 1), zp (a0 + 6), zj wy, zj x1, zj hd, zj hn, zj sn, zp (a0 + 9), zp (a0 + 10), zj nm, zj ar, zj pk, zj dn])).set a0 (zob 1 [zp (a0 + 1), zp (a0 + 6), zj wy, zj x1, zj x2, zj hn, zj sn, zp (a0 + 9), zp (a0 + 10), zj nm, zj ar, zj pk, zj dn])) ov w' c s
  refine Zr_st (q := (11, [zp a0, zj x1, zj x2], [zp a0])) rfl rfl rfl ?_
  show Zr sc 121 11 [zp a0, zj x1, zj x2] [zp a0] ((w.set a0 (zob 1 [zp (a0 + 1), zp (a0 + 6), zj wy, zj x1, zj hd, zj hn, zj sn, zp (a0 + 9), zp (a0 + 10), zj nm, zj ar, zj pk, zj dn])).set a0 (zob 1 [zp (a0 + 1), zp (a0 + 6), zj wy, zj x1, zj x2, zj hn, zj sn, zp (a0 + 9), zp (a0 + 10), zj nm, zj ar, zj pk, zj dn])) ov w' c s
  refine rl_ic rfl ?_
  show Zr sc 121 12 [zp a0, zj x1, zj x2] [zj 0, zp a0] ((w.set a0 (zob 1 [zp (a0 + 1), zp (a0 + 6), zj wy, zj x1, zj hd, zj hn, zj sn, zp (a0 + 9), zp (a0 + 10), zj nm, zj ar, zj pk, zj dn])).set a0 (zob 1 [zp (a0 + 1), zp (a0 + 6), zj wy, zj x1, zj x2, zj hn, zj sn, zp (a0 + 9), zp (a0 + 10), zj nm, zj ar, zj pk, zj dn])) ov w' c s
  refine rl_pf rfl (zw_s (zw_s L0)) rfl rfl rfl ?_
  show Zr sc 121 15 [zp a0, zj x1, zj x2] [] (((w.set a0 (zob 1 [zp (a0 + 1), zp (a0 + 6), zj wy, zj x1, zj hd, zj hn, zj sn, zp (a0 + 9), zp (a0 + 10), zj nm, zj ar, zj pk, zj dn])).set a0 (zob 1 [zp (a0 + 1), zp (a0 + 6), zj wy, zj x1, zj x2, zj hn, zj sn, zp (a0 + 9), zp (a0 + 10), zj nm, zj ar, zj pk, zj dn])).set a0 (zob 1 [zp (a0 + 1), zp (a0 + 6), zj wy, zj x1, zj x2, zj 0, zj sn, zp (a0 + 9), zp (a0 + 10), zj nm, zj ar, zj pk, zj dn])) ov w' c s
  refine Zr_st (q := (16, [zp a0, zj x1, zj x2], [zp a0])) rfl rfl rfl ?_
  show Zr sc 121 16 [zp a0, zj x1, zj x2] [zp a0] (((w.set a0 (zob 1 [zp (a0 + 1), zp (a0 + 6), zj wy, zj x1, zj hd, zj hn, zj sn, zp (a0 + 9), zp (a0 + 10), zj nm, zj ar, zj pk, zj dn])).set a0 (zob 1 [zp (a0 + 1), zp (a0 + 6), zj wy, zj x1, zj x2, zj hn, zj sn, zp (a0 + 9), zp (a0 + 10), zj nm, zj ar, zj pk, zj dn])).set a0 (zob 1 [zp (a0 + 1), zp (a0 + 6), zj wy, zj x1, zj x2, zj 0, zj sn, zp (a0 + 9), zp (a0 + 10), zj nm, zj ar, zj pk, zj dn])) ov w' c s
  refine rl_ic rfl ?_
  show Zr sc 121 17 [zp a0, zj x1, zj x2] [zj 0, zp a0] (((w.set a0 (zob 1 [zp (a0 + 1), zp (a0 + 6), zj wy, zj x1, zj hd, zj hn, zj sn, zp (a0 + 9), zp (a0 + 10), zj nm, zj ar, zj pk, zj dn])).set a0 (zob 1 [zp (a0 + 1), zp (a0 + 6), zj wy, zj x1, zj x2, zj hn, zj sn, zp (a0 + 9), zp (a0 + 10), zj nm, zj ar, zj pk, zj dn])).set a0 (zob 1 [zp (a0 + 1), zp (a0 + 6), zj wy, zj x1, zj x2, zj 0, zj sn, zp (a0 + 9), zp (a0 + 10), zj nm, zj ar, zj pk, zj dn])) ov w' c s
  refine rl_pf rfl (zw_s (zw_s (zw_s L0))) rfl rfl rfl ?_
  show Zr sc 121 20 [zp a0, zj x1, zj x2] [] ((((w.set a0 (zob 1 [zp (a0 + 1), zp (a0 + 6), zj wy, zj x1, zj hd, zj hn, zj sn, zp (a0 + 9), zp (a0 + 10), zj nm, zj ar, zj pk, zj dn])).set a0 (zob 1 [zp (a0 + 1), zp (a0 + 6), zj wy, zj x1, zj x2, zj hn, zj sn, zp (a0 + 9), zp (a0 + 10), zj nm, zj ar, zj pk, zj dn])).set a0 (zob 1 [zp (a0 + 1), zp (a0 + 6), zj wy, zj x1, zj x2, zj 0, zj sn, zp (a0 + 9), zp (a0 + 10), zj nm, zj ar, zj pk, zj dn])).set a0 (zob 1 [zp (a0 + 1), zp (a0 + 6), zj wy, zj x1, zj x2, zj 0, zj sn, zp (a0 + 9), zp (a0 + 10), zj 0, zj ar, zj pk, zj dn])) ov w' c s
  refine Zr_st (q := (21, [zp a0, zj x1, zj x2], [zp a0])) rfl rfl rfl ?_
  show Zr sc 121 21 [zp a0, zj x1, zj x2] [zp a0] ((((w.set a0 (zob 1 [zp (a0 + 1), zp (a0 + 6), zj wy, zj x1, zj hd, zj hn, zj sn, zp (a0 + 9), zp (a0 + 10), zj nm, zj ar, zj pk, zj dn])).set a0 (zob 1 [zp (a0 + 1), zp (a0 + 6), zj wy, zj x1, zj x2, zj hn, zj sn, zp (a0 + 9), zp (a0 + 10), zj nm, zj ar, zj pk, zj dn])).set a0 (zob 1 [zp (a0 + 1), zp (a0 + 6), zj wy, zj x1, zj x2, zj 0, zj sn, zp (a0 + 9), zp (a0 + 10), zj nm, zj ar, zj pk, zj dn])).set a0 (zob 1 [zp (a0 + 1), zp (a0 + 6), zj wy, zj x1, zj x2, zj 0, zj sn, zp (a0 + 9), zp (a0 + 10), zj 0, zj ar, zj pk, zj dn])) ov w' c s
  refine rl_ic rfl ?_
  show Zr sc 121 22 [zp a0, zj x1, zj x2] [zj 0, zp a0] ((((w.set a0 (zob 1 [zp (a0 + 1), zp (a0 + 6), zj wy, zj x1, zj hd, zj hn, zj sn, zp (a0 + 9), zp (a0 + 10), zj nm, zj ar, zj pk, zj dn])).set a0 (zob 1 [zp (a0 + 1), zp (a0 + 6), zj wy, zj x1, zj x2, zj hn, zj sn, zp (a0 + 9), zp (a0 + 10), zj nm, zj ar, zj pk, zj dn])).set a0 (zob 1 [zp (a0 + 1), zp (a0 + 6), zj wy, zj x1, zj x2, zj 0, zj sn, zp (a0 + 9), zp (a0 + 10), zj nm, zj ar, zj pk, zj dn])).set a0 (zob 1 [zp (a0 + 1), zp (a0 + 6), zj wy, zj x1, zj x2, zj 0, zj sn, zp (a0 + 9), zp (a0 + 10), zj 0, zj ar, zj pk, zj dn])) ov w' c s
  refine rl_pf rfl (zw_s (zw_s (zw_s (zw_s L0)))) rfl rfl rfl ?_
  show Zr sc 121 25 [zp a0, zj x1, zj x2] [] (((((w.set a0 (zob 1 [zp (a0 + 1), zp (a0 + 6), zj wy, zj x1, zj hd, zj hn, zj sn, zp (a0 + 9), zp (a0 + 10), zj nm, zj ar, zj pk, zj dn])).set a0 (zob 1 [zp (a0 + 1), zp (a0 + 6), zj wy, zj x1, zj x2, zj hn, zj sn, zp (a0 + 9), zp (a0 + 10), zj nm, zj ar, zj pk, zj dn])).set a0 (zob 1 [zp (a0 + 1), zp (a0 + 6), zj wy, zj x1, zj x2, zj 0, zj sn, zp (a0 + 9), zp (a0 + 10), zj nm, zj ar, zj pk, zj dn])).set a0 (zob 1 [zp (a0 + 1), zp (a0 + 6), zj wy, zj x1, zj x2, zj 0, zj sn, zp (a0 + 9), zp (a0 + 10), zj 0, zj ar, zj pk, zj dn])).set a0 (zob 1 [zp (a0 + 1), zp (a0 + 6), zj wy, zj x1, zj x2, zj 0, zj sn, zp (a0 + 9), zp (a0 + 10), zj 0, zj 0, zj pk, zj dn])) ov w' c s
  refine Zr_st (q := (26, [zp a0, zj x1, zj x2], [zp a0])) rfl rfl rfl ?_
  show Zr sc 121 26 [zp a0, zj x1, zj x2] [zp a0] (((((w.set a0 (zob 1 [zp (a0 + 1), zp (a0 + 6), zj wy, zj x1, zj hd, zj hn, zj sn, zp (a0 + 9), zp (a0 + 10), zj nm, zj ar, zj pk, zj dn])).set a0 (zob 1 [zp (a0 + 1), zp (a0 + 6), zj wy, zj x1, zj x2, zj hn, zj sn, zp (a0 + 9), zp (a0 + 10), zj nm, zj ar, zj pk, zj dn])).set a0 (zob 1 [zp (a0 + 1), zp (a0 + 6), zj wy, zj x1, zj x2, zj 0, zj sn, zp (a0 + 9), zp (a0 + 10), zj nm, zj ar, zj pk, zj dn])).set a0 (zob 1 [zp (a0 + 1), zp (a0 + 6), zj wy, zj x1, zj x2, zj 0, zj sn, zp (a0 + 9), zp (a0 + 10), zj 0, zj ar, zj pk, zj dn])).set a0 (zob 1 [zp (a0 + 1), zp (a0 + 6), zj wy, zj x1, zj x2, zj 0, zj sn, zp (a0 + 9), zp (a0 + 10), zj 0, zj 0, zj pk, zj dn])) ov w' c s
  refine rl_ic rfl ?_
  show Zr sc 121 27 [zp a0, zj x1, zj x2] [zj 0, zp a0] (((((w.set a0 (zob 1 [zp (a0 + 1), zp (a0 + 6), zj wy, zj x1, zj hd, zj hn, zj sn, zp (a0 + 9), zp (a0 + 10), zj nm, zj ar, zj pk, zj dn])).set a0 (zob 1 [zp (a0 + 1), zp (a0 + 6), zj wy, zj x1, zj x2, zj hn, zj sn, zp (a0 + 9), zp (a0 + 10), zj nm, zj ar, zj pk, zj dn])).set a0 (zob 1 [zp (a0 + 1), zp (a0 + 6), zj wy, zj x1, zj x2, zj 0, zj sn, zp (a0 + 9), zp (a0 + 10), zj nm, zj ar, zj pk, zj dn])).set a0 (zob 1 [zp (a0 + 1), zp (a0 + 6), zj wy, zj x1, zj x2, zj 0, zj sn, zp (a0 + 9), zp (a0 + 10), zj 0, zj ar, zj pk, zj dn])).set a0 (zob 1 [zp (a0 + 1), zp (a0 + 6), zj wy, zj x1, zj x2, zj 0, zj sn, zp (a0 + 9), zp (a0 + 10), zj 0, zj 0, zj pk, zj dn])) ov w' c s
  refine rl_pf rfl (zw_s (zw_s (zw_s (zw_s (zw_s L0))))) rfl rfl rfl ?_
  show Zr sc 121 30 [zp a0, zj x1, zj x2] [] ((((((w.set a0 (zob 1 [zp (a0 + 1), zp (a0 + 6), zj wy, zj x1, zj hd, zj hn, zj sn, zp (a0 + 9), zp (a0 + 10), zj nm, zj ar, zj pk, zj dn])).set a0 (zob 1 [zp (a0 + 1), zp (a0 + 6), zj wy, zj x1, zj x2, zj hn, zj sn, zp (a0 + 9), zp (a0 + 10), zj nm, zj ar, zj pk, zj dn])).set a0 (zob 1 [zp (a0 + 1), zp (a0 + 6), zj wy, zj x1, zj x2, zj 0, zj sn, zp (a0 + 9), zp (a0 + 10), zj nm, zj ar, zj pk, zj dn])).set a0 (zob 1 [zp (a0 + 1), zp (a0 + 6), zj wy, zj x1, zj x2, zj 0, zj sn, zp (a0 + 9), zp (a0 + 10), zj 0, zj ar, zj pk, zj dn])).set a0 (zob 1 [zp (a0 + 1), zp (a0 + 6), zj wy, zj x1, zj x2, zj 0, zj sn, zp (a0 + 9), zp (a0 + 10), zj 0, zj 0, zj pk, zj dn])).set a0 (zob 1 [zp (a0 + 1), zp (a0 + 6), zj wy, zj x1, zj x2, zj 0, zj sn, zp (a0 + 9), zp (a0 + 10), zj 0, zj 0, zj 0, zj dn])) ov w' c s
  refine Zr_st (q := (31, [zp a0, zj x1, zj x2], [zp a0])) rfl rfl rfl ?_
  show Zr sc 121 31 [zp a0, zj x1, zj x2] [zp a0] ((((((w.set a0 (zob 1 [zp (a0 + 1), zp (a0 + 6), zj wy, zj x1, zj hd, zj hn, zj sn, zp (a0 + 9), zp (a0 + 10), zj nm, zj ar, zj pk, zj dn])).set a0 (zob 1 [zp (a0 + 1), zp (a0 + 6), zj wy, zj x1, zj x2, zj hn, zj sn, zp (a0 + 9), zp (a0 + 10), zj nm, zj ar, zj pk, zj dn])).set a0 (zob 1 [zp (a0 + 1), zp (a0 + 6), zj wy, zj x1, zj x2, zj 0, zj sn, zp (a0 + 9), zp (a0 + 10), zj nm, zj ar, zj pk, zj dn])).set a0 (zob 1 [zp (a0 + 1), zp (a0 + 6), zj wy, zj x1, zj x2, zj 0, zj sn, zp (a0 + 9), zp (a0 + 10), zj 0, zj ar, zj pk, zj dn])).set a0 (zob 1 [zp (a0 + 1), zp (a0 + 6), zj wy, zj x1, zj x2, zj 0, zj sn, zp (a0 + 9), zp (a0 + 10), zj 0, zj 0, zj pk, zj dn])).set a0 (zob 1 [zp (a0 + 1), zp (a0 + 6), zj wy, zj x1, zj x2, zj 0, zj sn, zp (a0 + 9), zp (a0 + 10), zj 0, zj 0, zj 0, zj dn])) ov w' c s
  refine rl_ic rfl ?_
  show Zr sc 121 32 [zp a0, zj x1, zj x2] [zj 0, zp a0] ((((((w.set a0 (zob 1 [zp (a0 + 1), zp (a0 + 6), zj wy, zj x1, zj hd, zj hn, zj sn, zp (a0 + 9), zp (a0 + 10), zj nm, zj ar, zj pk, zj dn])).set a0 (zob 1 [zp (a0 + 1), zp (a0 + 6), zj wy, zj x1, zj x2, zj hn, zj sn, zp (a0 + 9), zp (a0 + 10), zj nm, zj ar, zj pk, zj dn])).set a0 (zob 1 [zp (a0 + 1), zp (a0 + 6), zj wy, zj x1, zj x2, zj 0, zj sn, zp (a0 + 9), zp (a0 + 10), zj nm, zj ar, zj pk, zj dn])).set a0 (zob 1 [zp (a0 + 1), zp (a0 + 6), zj wy, zj x1, zj x2, zj 0, zj sn, zp (a0 + 9), zp (a0 + 10), zj 0, zj ar, zj pk, zj dn])).set a0 (zob 1 [zp (a0 + 1), zp (a0 + 6), zj wy, zj x1, zj x2, zj 0, zj sn, zp (a0 + 9), zp (a0 + 10), zj 0, zj 0, zj pk, zj dn])).set a0 (zob 1 [zp (a0 + 1), zp (a0 + 6), zj wy, zj x1, zj x2, zj 0, zj sn, zp (a0 + 9), zp (a0 + 10), zj 0, zj 0, zj 0, zj dn])) ov w' c s
  refine rl_pf rfl (zw_s (zw_s (zw_s (zw_s (zw_s (zw_s L0)))))) rfl rfl rfl ?_
  show Zr sc 121 35 [zp a0, zj x1, zj x2] [] (((((((w.set a0 (zob 1 [zp (a0 + 1), zp (a0 + 6), zj wy, zj x1, zj hd, zj hn, zj sn, zp (a0 + 9), zp (a0 + 10), zj nm, zj ar, zj pk, zj dn])).set a0 (zob 1 [zp (a0 + 1), zp (a0 + 6), zj wy, zj x1, zj x2, zj hn, zj sn, zp (a0 + 9), zp (a0 + 10), zj nm, zj ar, zj pk, zj dn])).set a0 (zob 1 [zp (a0 + 1), zp (a0 + 6), zj wy, zj x1, zj x2, zj 0, zj sn, zp (a0 + 9), zp (a0 + 10), zj nm, zj ar, zj pk, zj dn])).set a0 (zob 1 [zp (a0 + 1), zp (a0 + 6), zj wy, zj x1, zj x2, zj 0, zj sn, zp (a0 + 9), zp (a0 + 10), zj 0, zj ar, zj pk, zj dn])).set a0 (zob 1 [zp (a0 + 1), zp (a0 + 6), zj wy, zj x1, zj x2, zj 0, zj sn, zp (a0 + 9), zp (a0 + 10), zj 0, zj 0, zj pk, zj dn])).set a0 (zob 1 [zp (a0 + 1), zp (a0 + 6), zj wy, zj x1, zj x2, zj 0, zj sn, zp (a0 + 9), zp (a0 + 10), zj 0, zj 0, zj 0, zj dn])).set a0 (zob 1 [zp (a0 + 1), zp (a0 + 6), zj wy, zj x1, zj x2, zj 0, zj sn, zp (a0 + 9), zp (a0 + 10), zj 0, zj 0, zj 0, zj 0])) ov w' c s
  refine Zr_st (q := (36, [zp a0, zj x1, zj x2], [zp a0])) rfl rfl rfl ?_
  show Zr sc 121 36 [zp a0, zj x1, zj x2] [zp a0] (((((((w.set a0 (zob 1 [zp (a0 + 1), zp (a0 + 6), zj wy, zj x1, zj hd, zj hn, zj sn, zp (a0 + 9), zp (a0 + 10), zj nm, zj ar, zj pk, zj dn])).set a0 (zob 1 [zp (a0 + 1), zp (a0 + 6), zj wy, zj x1, zj x2, zj hn, zj sn, zp (a0 + 9), zp (a0 + 10), zj nm, zj ar, zj pk, zj dn])).set a0 (zob 1 [zp (a0 + 1), zp (a0 + 6), zj wy, zj x1, zj x2, zj 0, zj sn, zp (a0 + 9), zp (a0 + 10), zj nm, zj ar, zj pk, zj dn])).set a0 (zob 1 [zp (a0 + 1), zp (a0 + 6), zj wy, zj x1, zj x2, zj 0, zj sn, zp (a0 + 9), zp (a0 + 10), zj 0, zj ar, zj pk, zj dn])).set a0 (zob 1 [zp (a0 + 1), zp (a0 + 6), zj wy, zj x1, zj x2, zj 0, zj sn, zp (a0 + 9), zp (a0 + 10), zj 0, zj 0, zj pk, zj dn])).set a0 (zob 1 [zp (a0 + 1), zp (a0 + 6), zj wy, zj x1, zj x2, zj 0, zj sn, zp (a0 + 9), zp (a0 + 10), zj 0, zj 0, zj 0, zj dn])).set a0 (zob 1 [zp (a0 + 1), zp (a0 + 6), zj wy, zj x1, zj x2, zj 0, zj sn, zp (a0 + 9), zp (a0 + 10), zj 0, zj 0, zj 0, zj 0])) ov w' c s
  refine rl_gf rfl (zw_s (zw_s (zw_s (zw_s (zw_s (zw_s (zw_s L0))))))) rfl rfl ?_
  show Zr sc 121 39 [zp a0, zj x1, zj x2] [zp (a0 + 9)] (((((((w.set a0 (zob 1 [zp (a0 + 1), zp (a0 + 6), zj wy, zj x1, zj hd, zj hn, zj sn, zp (a0 + 9), zp (a0 + 10), zj nm, zj ar, zj pk, zj dn])).set a0 (zob 1 [zp (a0 + 1), zp (a0 + 6), zj wy, zj x1, zj x2, zj hn, zj sn, zp (a0 + 9), zp (a0 + 10), zj nm, zj ar, zj pk, zj dn])).set a0 (zob 1 [zp (a0 + 1), zp (a0 + 6), zj wy, zj x1, zj x2, zj 0, zj sn, zp (a0 + 9), zp (a0 + 10), zj nm, zj ar, zj pk, zj dn])).set a0 (zob 1 [zp (a0 + 1), zp (a0 + 6), zj wy, zj x1, zj x2, zj 0, zj sn, zp (a0 + 9), zp (a0 + 10), zj 0, zj ar, zj pk, zj dn])).set a0 (zob 1 [zp (a0 + 1), zp (a0 + 6), zj wy, zj x1, zj x2, zj 0, zj sn, zp (a0 + 9), zp (a0 + 10), zj 0, zj 0, zj pk, zj dn])).set a0 (zob 1 [zp (a0 + 1), zp (a0 + 6), zj wy, zj x1, zj x2, zj 0, zj sn, zp (a0 + 9), zp (a0 + 10), zj 0, zj 0, zj 0, zj dn])).set a0 (zob 1 [zp (a0 + 1), zp (a0 + 6), zj wy, zj x1, zj x2, zj 0, zj sn, zp (a0 + 9), zp (a0 + 10), zj 0, zj 0, zj 0, zj 0])) ov w' c s
  refine rl_ic rfl ?_
  show Zr sc 121 40 [zp a0, zj x1, zj x2] [zj 0, zp (a0 + 9)] (((((((w.set a0 (zob 1 [zp (a0 + 1), zp (a0 + 6), zj wy, zj x1, zj hd, zj hn, zj sn, zp (a0 + 9), zp (a0 + 10), zj nm, zj ar, zj pk, zj dn])).set a0 (zob 1 [zp (a0 + 1), zp (a0 + 6), zj wy, zj x1, zj x2, zj hn, zj sn, zp (a0 + 9), zp (a0 + 10), zj nm, zj ar, zj pk, zj dn])).set a0 (zob 1 [zp (a0 + 1), zp (a0 + 6), zj wy, zj x1, zj x2, zj 0, zj sn, zp (a0 + 9), zp (a0 + 10), zj nm, zj ar, zj pk, zj dn])).set a0 (zob 1 [zp (a0 + 1), zp (a0 + 6), zj wy, zj x1, zj x2, zj 0, zj sn, zp (a0 + 9), zp (a0 + 10), zj 0, zj ar, zj pk, zj dn])).set a0 (zob 1 [zp (a0 + 1), zp (a0 + 6), zj wy, zj x1, zj x2, zj 0, zj sn, zp (a0 + 9), zp (a0 + 10), zj 0, zj 0, zj pk, zj dn])).set a0 (zob 1 [zp (a0 + 1), zp (a0 + 6), zj wy, zj x1, zj x2, zj 0, zj sn, zp (a0 + 9), zp (a0 + 10), zj 0, zj 0, zj 0, zj dn])).set a0 (zob 1 [zp (a0 + 1), zp (a0 + 6), zj wy, zj x1, zj x2, zj 0, zj sn, zp (a0 + 9), zp (a0 + 10), zj 0, zj 0, zj 0, zj 0])) ov w' c s
  obtain ⟨w_1, hk_2, h⟩ := h
  refine rn_cal0 (ins := .invokestatic 68) (rest := []) rfl rfl rfl rfl (zinv_t rfl rfl rfl rfl) rfl rfl hk_2 ?_
  show Zr sc 121 43 [zp a0, zj x1, zj x2] [] w_1 ov w' c s
  refine Zr_st (q := (44, [zp a0, zj x1, zj x2], [zp a0])) rfl rfl rfl ?_
  show Zr sc 121 44 [zp a0, zj x1, zj x2] [zp a0] w_1 ov w' c s
  obtain ⟨wy_4, st_5, hd_6, hn_7, sn_8, nm_9, ar_10, pk_11, dn_12, hw_3, h⟩ := h
  refine rl_gf rfl hw_3 rfl rfl ?_
  show Zr sc 121 47 [zp a0, zj x1, zj x2] [zp (a0 + 1)] w_1 ov w' c s
  obtain ⟨fs_14, hl_13, h⟩ := h
  obtain ⟨w_15, hk_16, h⟩ := h
  refine rn_cal0 (ins := .invokevirtual 74) (rest := []) rfl rfl rfl rfl (zinv_v (fs := _) hl_13 rfl rfl rfl rfl) rfl rfl hk_16 ?_
  show Zr sc 121 50 [zp a0, zj x1, zj x2] [] w_15 ov w' c s
  refine Zr_st (q := (51, [zp a0, zj x1, zj x2], [zp a0])) rfl rfl rfl ?_
  show Zr sc 121 51 [zp a0, zj x1, zj x2] [zp a0] w_15 ov w' c s
  obtain ⟨fs_18, hl_17, h⟩ := h
  obtain ⟨w_19, hk_20, h⟩ := h
  refine rn_cal0 (ins := .invokevirtual 77) (rest := []) rfl rfl rfl rfl (zinv_v (fs := _) hl_17 rfl rfl rfl rfl) rfl rfl hk_20 ?_
  show Zr sc 121 54 [zp a0, zj x1, zj x2] [] w_19 ov w' c s
  obtain ⟨h1, h2, h3, h4⟩ := h
  subst h1; subst h2; subst h3; subst h4
  exact Zr_ret (ins := .return_) rfl rfl

-- HeapwrightLab$Memory.beginAnew(II)V
set_option maxRecDepth 100000 in
theorem V121_0_2 {sc : List Value} {w w' : List zE} {ov : Option Value} {c s : Nat} {a0 : Nat} {x1 : Int} {x2 : Int} {wy : Int} {st : Int} {hd : Int} {hn : Int} {sn : Int} {nm : Int} {ar : Int} {pk : Int} {dn : Int} (L0 : w[a0]? = some (zob 2 [zp (a0 + 1), zp (a0 + 6), zj wy, zj st, zj hd, zj hn, zj sn, zp (a0 + 9), zp (a0 + 10), zj nm, zj ar, zj pk, zj dn])) (h : (∃ w_1 : List zE, Zc sc 71 [zp (a0 + 9), zj 0] (((((((w.set a0 (zob 2 [zp (a0 + 1), zp (a0 + 6), zj wy, zj x1, zj hd, zj hn, zj sn, zp (a0 + 9), zp (a0 + 10), zj nm, zj ar, zj pk, zj dn])).set a0 (zob 2 [zp (a0 + 1), zp (a0 + 6), zj wy, zj x1, zj x2, zj hn, zj sn, zp (a0 + 9), zp (a0 + 10), zj nm, zj ar, zj pk, zj dn])).set a0 (zob 2 [zp (a0 + 1), zp (a0 + 6), zj wy, zj x1, zj x2, zj 0, zj sn, zp (a0 + 9), zp (a0 + 10), zj nm, zj ar, zj pk, zj dn])).set a0 (zob 2 [zp (a0 + 1), zp (a0 + 6), zj wy, zj x1, zj x2, zj 0, zj sn, zp (a0 + 9), zp (a0 + 10), zj 0, zj ar, zj pk, zj dn])).set a0 (zob 2 [zp (a0 + 1), zp (a0 + 6), zj wy, zj x1, zj x2, zj 0, zj sn, zp (a0 + 9), zp (a0 + 10), zj 0, zj 0, zj pk, zj dn])).set a0 (zob 2 [zp (a0 + 1), zp (a0 + 6), zj wy, zj x1, zj x2, zj 0, zj sn, zp (a0 + 9), zp (a0 + 10), zj 0, zj 0, zj 0, zj dn])).set a0 (zob 2 [zp (a0 + 1), zp (a0 + 6), zj wy, zj x1, zj x2, zj 0, zj sn, zp (a0 + 9), zp (a0 + 10), zj 0, zj 0, zj 0, zj 0])) none w_1 0 0 ∧ (∃ wy_4 : Int, ∃ st_5 : Int, ∃ hd_6 : Int, ∃ hn_7 : Int, ∃ sn_8 : Int, ∃ nm_9 : Int, ∃ ar_10 : Int, ∃ pk_11 : Int, ∃ dn_12 : Int, w_1[a0]? = some (zob 2 [zp (a0 + 1), zp (a0 + 6), zj wy_4, zj st_5, zj hd_6, zj hn_7, zj sn_8, zp (a0 + 9), zp (a0 + 10), zj nm_9, zj ar_10, zj pk_11, zj dn_12]) ∧ (∃ fs_14 : List Value, w_1[(a0 + 1)]? = some (zob 0 fs_14) ∧ (∃ w_15 : List zE, Zc sc 122 [zp (a0 + 1)] w_1 none w_15 0 0 ∧ (∃ fs_18 : List Value, w_15[a0]? = some (zob 2 fs_18) ∧ (∃ w_19 : List zE, Zc sc 69 [zp a0] w_15 none w_19 0 0 ∧ (ov = none ∧ w' = w_19 ∧ c = 0 ∧ s = 0)))))))) : Zr sc 121 0 [zp a0, zj x1, zj x2] [] w ov w' c s := by
  refine Zr_st (q := (1, [zp a0, zj x1, zj x2], [zp a0])) rfl rfl rfl ?_
  show Zr sc 121 1 [zp a0, zj x1, zj x2] [zp a0] w ov w' c s
  refine Zr_st (q := (2, [zp a0, zj x1, zj x2], [zj x1, zp a0])) rfl rfl rfl ?_
  show Zr sc 121 2 [zp a0, zj x1, zj x2] [zj x1, zp a0] w ov w' c s
  refine rl_pf rfl L0 rfl rfl rfl ?_
  show Zr sc 121 5 [zp a0, zj x1, zj x2] [] (w.set a0 (zob 2 [zp (a0 + 1), zp (a0 + 6), zj wy, zj x1, zj hd, zj hn, zj sn, zp (a0 + 9), zp (a0 + 10), zj nm, zj ar, zj pk, zj dn])) ov w' c s
  refine Zr_st (q := (6, [zp a0, zj x1, zj x2], [zp a0])) rfl rfl rfl ?_
  show Zr sc 121 6 [zp a0, zj x1, zj x2] [zp a0] (w.set a0 (zob 2 [zp (a0 + 1), zp (a0 + 6), zj wy, zj x1, zj hd, zj hn, zj sn, zp (a0 + 9), zp (a0 + 10), zj nm, zj ar, zj pk, zj dn])) ov w' c s
  refine Zr_st (q := (7, [zp a0, zj x1, zj x2], [zj x2, zp a0])) rfl rfl rfl ?_
  show Zr sc 121 7 [zp a0, zj x1, zj x2] [zj x2, zp a0] (w.set a0 (zob 2 [zp (a0 + 1), zp (a0 + 6), zj wy, zj x1, zj hd, zj hn, zj sn, zp (a0 + 9), zp (a0 + 10), zj nm, zj ar, zj pk, zj dn])) ov w' c s
  refine rl_pf rfl (zw_s L0) rfl rfl rfl ?_
  show Zr sc 121 10 [zp a0, zj x1, zj x2] [] ((w.set a0 (zob 2 [zp (a0 + 1), zp (a0 + 6), zj wy, zj x1, zj hd, zj hn, zj sn, zp (a0 + 9), zp (a0 + 10), zj nm, zj ar, zj pk, zj dn])).set a0 (zob 2 [zp (a0 + 1), zp (a0 + 6), zj wy, zj x1, zj x2, zj hn, zj sn, zp (a0 + 9), zp (a0 + 10), zj nm, zj ar, zj pk, zj dn])) ov w' c s
  refine Zr_st (q := (11, [zp a0, zj x1, zj x2], [zp a0])) rfl rfl rfl ?_
  show Zr sc 121 11 [zp a0, zj x1, zj x2] [zp a0] ((w.set a0 (zob 2 [zp (a0 + 1), zp (a0 + 6), zj wy, zj x1, zj hd, zj hn, zj sn, zp (a0 + 9), zp (a0 + 10), zj nm, zj ar, zj pk, zj dn])).set a0 (zob 2 [zp (a0 + 1), zp (a0 + 6), zj wy, zj x1, zj x2, zj hn, zj sn, zp (a0 + 9), zp (a0 + 10), zj nm, zj ar, zj pk, zj dn])) ov w' c s
  refine rl_ic rfl ?_
  show Zr sc 121 12 [zp a0, zj x1, zj x2] [zj 0, zp a0] ((w.set a0 (zob 2 [zp (a0 + 1), zp (a0 + 6), zj wy, zj x1, zj hd, zj hn, zj sn, zp (a0 + 9), zp (a0 + 10), zj nm, zj ar, zj pk, zj dn])).set a0 (zob 2 [zp (a0 + 1), zp (a0 + 6), zj wy, zj x1, zj x2, zj hn, zj sn, zp (a0 + 9), zp (a0 + 10), zj nm, zj ar, zj pk, zj dn])) ov w' c s
  refine rl_pf rfl (zw_s (zw_s L0)) rfl rfl rfl ?_
  show Zr sc 121 15 [zp a0, zj x1, zj x2] [] (((w.set a0 (zob 2 [zp (a0 + 1), zp (a0 + 6), zj wy, zj x1, zj hd, zj hn, zj sn, zp (a0 + 9), zp (a0 + 10), zj nm, zj ar, zj pk, zj dn])).set a0 (zob 2 [zp (a0 + 1), zp (a0 + 6), zj wy, zj x1, zj x2, zj hn, zj sn, zp (a0 + 9), zp (a0 + 10), zj nm, zj ar, zj pk, zj dn])).set a0 (zob 2 [zp (a0 + 1), zp (a0 + 6), zj wy, zj x1, zj x2, zj 0, zj sn, zp (a0 + 9), zp (a0 + 10), zj nm, zj ar, zj pk, zj dn])) ov w' c s
  refine Zr_st (q := (16, [zp a0, zj x1, zj x2], [zp a0])) rfl rfl rfl ?_
  show Zr sc 121 16 [zp a0, zj x1, zj x2] [zp a0] (((w.set a0 (zob 2 [zp (a0 + 1), zp (a0 + 6), zj wy, zj x1, zj hd, zj hn, zj sn, zp (a0 + 9), zp (a0 + 10), zj nm, zj ar, zj pk, zj dn])).set a0 (zob 2 [zp (a0 + 1), zp (a0 + 6), zj wy, zj x1, zj x2, zj hn, zj sn, zp (a0 + 9), zp (a0 + 10), zj nm, zj ar, zj pk, zj dn])).set a0 (zob 2 [zp (a0 + 1), zp (a0 + 6), zj wy, zj x1, zj x2, zj 0, zj sn, zp (a0 + 9), zp (a0 + 10), zj nm, zj ar, zj pk, zj dn])) ov w' c s
  refine rl_ic rfl ?_
  show Zr sc 121 17 [zp a0, zj x1, zj x2] [zj 0, zp a0] (((w.set a0 (zob 2 [zp (a0 + 1), zp (a0 + 6), zj wy, zj x1, zj hd, zj hn, zj sn, zp (a0 + 9), zp (a0 + 10), zj nm, zj ar, zj pk, zj dn])).set a0 (zob 2 [zp (a0 + 1), zp (a0 + 6), zj wy, zj x1, zj x2, zj hn, zj sn, zp (a0 + 9), zp (a0 + 10), zj nm, zj ar, zj pk, zj dn])).set a0 (zob 2 [zp (a0 + 1), zp (a0 + 6), zj wy, zj x1, zj x2, zj 0, zj sn, zp (a0 + 9), zp (a0 + 10), zj nm, zj ar, zj pk, zj dn])) ov w' c s
  refine rl_pf rfl (zw_s (zw_s (zw_s L0))) rfl rfl rfl ?_
  show Zr sc 121 20 [zp a0, zj x1, zj x2] [] ((((w.set a0 (zob 2 [zp (a0 + 1), zp (a0 + 6), zj wy, zj x1, zj hd, zj hn, zj sn, zp (a0 + 9), zp (a0 + 10), zj nm, zj ar, zj pk, zj dn])).set a0 (zob 2 [zp (a0 + 1), zp (a0 + 6), zj wy, zj x1, zj x2, zj hn, zj sn, zp (a0 + 9), zp (a0 + 10), zj nm, zj ar, zj pk, zj dn])).set a0 (zob 2 [zp (a0 + 1), zp (a0 + 6), zj wy, zj x1, zj x2, zj 0, zj sn, zp (a0 + 9), zp (a0 + 10), zj nm, zj ar, zj pk, zj dn])).set a0 (zob 2 [zp (a0 + 1), zp (a0 + 6), zj wy, zj x1, zj x2, zj 0, zj sn, zp (a0 + 9), zp (a0 + 10), zj 0, zj ar, zj pk, zj dn])) ov w' c s
  refine Zr_st (q := (21, [zp a0, zj x1, zj x2], [zp a0])) rfl rfl rfl ?_
  show Zr sc 121 21 [zp a0, zj x1, zj x2] [zp a0] ((((w.set a0 (zob 2 [zp (a0 + 1), zp (a0 + 6), zj wy, zj x1, zj hd, zj hn, zj sn, zp (a0 + 9), zp (a0 + 10), zj nm, zj ar, zj pk, zj dn])).set a0 (zob 2 [zp (a0 + 1), zp (a0 + 6), zj wy, zj x1, zj x2, zj hn, zj sn, zp (a0 + 9), zp (a0 + 10), zj nm, zj ar, zj pk, zj dn])).set a0 (zob 2 [zp (a0 + 1), zp (a0 + 6), zj wy, zj x1, zj x2, zj 0, zj sn, zp (a0 + 9), zp (a0 + 10), zj nm, zj ar, zj pk, zj dn])).set a0 (zob 2 [zp (a0 + 1), zp (a0 + 6), zj wy, zj x1, zj x2, zj 0, zj sn, zp (a0 + 9), zp (a0 + 10), zj 0, zj ar, zj pk, zj dn])) ov w' c s
  refine rl_ic rfl ?_
  show Zr sc 121 22 [zp a0, zj x1, zj x2] [zj 0, zp a0] ((((w.set a0 (zob 2 [zp (a0 + 1), zp (a0 + 6), zj wy, zj x1, zj hd, zj hn, zj sn, zp (a0 + 9), zp (a0 + 10), zj nm, zj ar, zj pk, zj dn])).set a0 (zob 2 [zp (a0 + 1), zp (a0 + 6), zj wy, zj x1, zj x2, zj hn, zj sn, zp (a0 + 9), zp (a0 + 10), zj nm, zj ar, zj pk, zj dn])).set a0 (zob 2 [zp (a0 + 1), zp (a0 + 6), zj wy, zj x1, zj x2, zj 0, zj sn, zp (a0 + 9), zp (a0 + 10), zj nm, zj ar, zj pk, zj dn])).set a0 (zob 2 [zp (a0 + 1), zp (a0 + 6), zj wy, zj x1, zj x2, zj 0, zj sn, zp (a0 + 9), zp (a0 + 10), zj 0, zj ar, zj pk, zj dn])) ov w' c s
  refine rl_pf rfl (zw_s (zw_s (zw_s (zw_s L0)))) rfl rfl rfl ?_
  show Zr sc 121 25 [zp a0, zj x1, zj x2] [] (((((w.set a0 (zob 2 [zp (a0 + 1), zp (a0 + 6), zj wy, zj x1, zj hd, zj hn, zj sn, zp (a0 + 9), zp (a0 + 10), zj nm, zj ar, zj pk, zj dn])).set a0 (zob 2 [zp (a0 + 1), zp (a0 + 6), zj wy, zj x1, zj x2, zj hn, zj sn, zp (a0 + 9), zp (a0 + 10), zj nm, zj ar, zj pk, zj dn])).set a0 (zob 2 [zp (a0 + 1), zp (a0 + 6), zj wy, zj x1, zj x2, zj 0, zj sn, zp (a0 + 9), zp (a0 + 10), zj nm, zj ar, zj pk, zj dn])).set a0 (zob 2 [zp (a0 + 1), zp (a0 + 6), zj wy, zj x1, zj x2, zj 0, zj sn, zp (a0 + 9), zp (a0 + 10), zj 0, zj ar, zj pk, zj dn])).set a0 (zob 2 [zp (a0 + 1), zp (a0 + 6), zj wy, zj x1, zj x2, zj 0, zj sn, zp (a0 + 9), zp (a0 + 10), zj 0, zj 0, zj pk, zj dn])) ov w' c s
  refine Zr_st (q := (26, [zp a0, zj x1, zj x2], [zp a0])) rfl rfl rfl ?_
  show Zr sc 121 26 [zp a0, zj x1, zj x2] [zp a0] (((((w.set a0 (zob 2 [zp (a0 + 1), zp (a0 + 6), zj wy, zj x1, zj hd, zj hn, zj sn, zp (a0 + 9), zp (a0 + 10), zj nm, zj ar, zj pk, zj dn])).set a0 (zob 2 [zp (a0 + 1), zp (a0 + 6), zj wy, zj x1, zj x2, zj hn, zj sn, zp (a0 + 9), zp (a0 + 10), zj nm, zj ar, zj pk, zj dn])).set a0 (zob 2 [zp (a0 + 1), zp (a0 + 6), zj wy, zj x1, zj x2, zj 0, zj sn, zp (a0 + 9), zp (a0 + 10), zj nm, zj ar, zj pk, zj dn])).set a0 (zob 2 [zp (a0 + 1), zp (a0 + 6), zj wy, zj x1, zj x2, zj 0, zj sn, zp (a0 + 9), zp (a0 + 10), zj 0, zj ar, zj pk, zj dn])).set a0 (zob 2 [zp (a0 + 1), zp (a0 + 6), zj wy, zj x1, zj x2, zj 0, zj sn, zp (a0 + 9), zp (a0 + 10), zj 0, zj 0, zj pk, zj dn])) ov w' c s
  refine rl_ic rfl ?_
  show Zr sc 121 27 [zp a0, zj x1, zj x2] [zj 0, zp a0] (((((w.set a0 (zob 2 [zp (a0 + 1), zp (a0 + 6), zj wy, zj x1, zj hd, zj hn, zj sn, zp (a0 + 9), zp (a0 + 10), zj nm, zj ar, zj pk, zj dn])).set a0 (zob 2 [zp (a0 + 1), zp (a0 + 6), zj wy, zj x1, zj x2, zj hn, zj sn, zp (a0 + 9), zp (a0 + 10), zj nm, zj ar, zj pk, zj dn])).set a0 (zob 2 [zp (a0 + 1), zp (a0 + 6), zj wy, zj x1, zj x2, zj 0, zj sn, zp (a0 + 9), zp (a0 + 10), zj nm, zj ar, zj pk, zj dn])).set a0 (zob 2 [zp (a0 + 1), zp (a0 + 6), zj wy, zj x1, zj x2, zj 0, zj sn, zp (a0 + 9), zp (a0 + 10), zj 0, zj ar, zj pk, zj dn])).set a0 (zob 2 [zp (a0 + 1), zp (a0 + 6), zj wy, zj x1, zj x2, zj 0, zj sn, zp (a0 + 9), zp (a0 + 10), zj 0, zj 0, zj pk, zj dn])) ov w' c s
  refine rl_pf rfl (zw_s (zw_s (zw_s (zw_s (zw_s L0))))) rfl rfl rfl ?_
  show Zr sc 121 30 [zp a0, zj x1, zj x2] [] ((((((w.set a0 (zob 2 [zp (a0 + 1), zp (a0 + 6), zj wy, zj x1, zj hd, zj hn, zj sn, zp (a0 + 9), zp (a0 + 10), zj nm, zj ar, zj pk, zj dn])).set a0 (zob 2 [zp (a0 + 1), zp (a0 + 6), zj wy, zj x1, zj x2, zj hn, zj sn, zp (a0 + 9), zp (a0 + 10), zj nm, zj ar, zj pk, zj dn])).set a0 (zob 2 [zp (a0 + 1), zp (a0 + 6), zj wy, zj x1, zj x2, zj 0, zj sn, zp (a0 + 9), zp (a0 + 10), zj nm, zj ar, zj pk, zj dn])).set a0 (zob 2 [zp (a0 + 1), zp (a0 + 6), zj wy, zj x1, zj x2, zj 0, zj sn, zp (a0 + 9), zp (a0 + 10), zj 0, zj ar, zj pk, zj dn])).set a0 (zob 2 [zp (a0 + 1), zp (a0 + 6), zj wy, zj x1, zj x2, zj 0, zj sn, zp (a0 + 9), zp (a0 + 10), zj 0, zj 0, zj pk, zj dn])).set a0 (zob 2 [zp (a0 + 1), zp (a0 + 6), zj wy, zj x1, zj x2, zj 0, zj sn, zp (a0 + 9), zp (a0 + 10), zj 0, zj 0, zj 0, zj dn])) ov w' c s
  refine Zr_st (q := (31, [zp a0, zj x1, zj x2], [zp a0])) rfl rfl rfl ?_
  show Zr sc 121 31 [zp a0, zj x1, zj x2] [zp a0] ((((((w.set a0 (zob 2 [zp (a0 + 1), zp (a0 + 6), zj wy, zj x1, zj hd, zj hn, zj sn, zp (a0 + 9), zp (a0 + 10), zj nm, zj ar, zj pk, zj dn])).set a0 (zob 2 [zp (a0 + 1), zp (a0 + 6), zj wy, zj x1, zj x2, zj hn, zj sn, zp (a0 + 9), zp (a0 + 10), zj nm, zj ar, zj pk, zj dn])).set a0 (zob 2 [zp (a0 + 1), zp (a0 + 6), zj wy, zj x1, zj x2, zj 0, zj sn, zp (a0 + 9), zp (a0 + 10), zj nm, zj ar, zj pk, zj dn])).set a0 (zob 2 [zp (a0 + 1), zp (a0 + 6), zj wy, zj x1, zj x2, zj 0, zj sn, zp (a0 + 9), zp (a0 + 10), zj 0, zj ar, zj pk, zj dn])).set a0 (zob 2 [zp (a0 + 1), zp (a0 + 6), zj wy, zj x1, zj x2, zj 0, zj sn, zp (a0 + 9), zp (a0 + 10), zj 0, zj 0, zj pk, zj dn])).set a0 (zob 2 [zp (a0 + 1), zp (a0 + 6), zj wy, zj x1, zj x2, zj 0, zj sn, zp (a0 + 9), zp (a0 + 10), zj 0, zj 0, zj 0, zj dn])) ov w' c s
  refine rl_ic rfl ?_
  show Zr sc 121 32 [zp a0, zj x1, zj x2] [zj 0, zp a0] ((((((w.set a0 (zob 2 [zp (a0 + 1), zp (a0 + 6), zj wy, zj x1, zj hd, zj hn, zj sn, zp (a0 + 9), zp (a0 + 10), zj nm, zj ar, zj pk, zj dn])).set a0 (zob 2 [zp (a0 + 1), zp (a0 + 6), zj wy, zj x1, zj x2, zj hn, zj sn, zp (a0 + 9), zp (a0 + 10), zj nm, zj ar, zj pk, zj dn])).set a0 (zob 2 [zp (a0 + 1), zp (a0 + 6), zj wy, zj x1, zj x2, zj 0, zj sn, zp (a0 + 9), zp (a0 + 10), zj nm, zj ar, zj pk, zj dn])).set a0 (zob 2 [zp (a0 + 1), zp (a0 + 6), zj wy, zj x1, zj x2, zj 0, zj sn, zp (a0 + 9), zp (a0 + 10), zj 0, zj ar, zj pk, zj dn])).set a0 (zob 2 [zp (a0 + 1), zp (a0 + 6), zj wy, zj x1, zj x2, zj 0, zj sn, zp (a0 + 9), zp (a0 + 10), zj 0, zj 0, zj pk, zj dn])).set a0 (zob 2 [zp (a0 + 1), zp (a0 + 6), zj wy, zj x1, zj x2, zj 0, zj sn, zp (a0 + 9), zp (a0 + 10), zj 0, zj 0, zj 0, zj dn])) ov w' c s
  refine rl_pf rfl (zw_s (zw_s (zw_s (zw_s (zw_s (zw_s L0)))))) rfl rfl rfl ?_
  show Zr sc 121 35 [zp a0, zj x1, zj x2] [] (((((((w.set a0 (zob 2 [zp (a0 + 1), zp (a0 + 6), zj wy, zj x1, zj hd, zj hn, zj sn, zp (a0 + 9), zp (a0 + 10), zj nm, zj ar, zj pk, zj dn])).set a0 (zob 2 [zp (a0 + 1), zp (a0 + 6), zj wy, zj x1, zj x2, zj hn, zj sn, zp (a0 + 9), zp (a0 + 10), zj nm, zj ar, zj pk, zj dn])).set a0 (zob 2 [zp (a0 + 1), zp (a0 + 6), zj wy, zj x1, zj x2, zj 0, zj sn, zp (a0 + 9), zp (a0 + 10), zj nm, zj ar, zj pk, zj dn])).set a0 (zob 2 [zp (a0 + 1), zp (a0 + 6), zj wy, zj x1, zj x2, zj 0, zj sn, zp (a0 + 9), zp (a0 + 10), zj 0, zj ar, zj pk, zj dn])).set a0 (zob 2 [zp (a0 + 1), zp (a0 + 6), zj wy, zj x1, zj x2, zj 0, zj sn, zp (a0 + 9), zp (a0 + 10), zj 0, zj 0, zj pk, zj dn])).set a0 (zob 2 [zp (a0 + 1), zp (a0 + 6), zj wy, zj x1, zj x2, zj 0, zj sn, zp (a0 + 9), zp (a0 + 10), zj 0, zj 0, zj 0, zj dn])).set a0 (zob 2 [zp (a0 + 1), zp (a0 + 6), zj wy, zj x1, zj x2, zj 0, zj sn, zp (a0 + 9), zp (a0 + 10), zj 0, zj 0, zj 0, zj 0])) ov w' c s
  refine Zr_st (q := (36, [zp a0, zj x1, zj x2], [zp a0])) rfl rfl rfl ?_
  show Zr sc 121 36 [zp a0, zj x1, zj x2] [zp a0] (((((((w.set a0 (zob 2 [zp (a0 + 1), zp (a0 + 6), zj wy, zj x1, zj hd, zj hn, zj sn, zp (a0 + 9), zp (a0 + 10), zj nm, zj ar, zj pk, zj dn])).set a0 (zob 2 [zp (a0 + 1), zp (a0 + 6), zj wy, zj x1, zj x2, zj hn, zj sn, zp (a0 + 9), zp (a0 + 10), zj nm, zj ar, zj pk, zj dn])).set a0 (zob 2 [zp (a0 + 1), zp (a0 + 6), zj wy, zj x1, zj x2, zj 0, zj sn, zp (a0 + 9), zp (a0 + 10), zj nm, zj ar, zj pk, zj dn])).set a0 (zob 2 [zp (a0 + 1), zp (a0 + 6), zj wy, zj x1, zj x2, zj 0, zj sn, zp (a0 + 9), zp (a0 + 10), zj 0, zj ar, zj pk, zj dn])).set a0 (zob 2 [zp (a0 + 1), zp (a0 + 6), zj wy, zj x1, zj x2, zj 0, zj sn, zp (a0 + 9), zp (a0 + 10), zj 0, zj 0, zj pk, zj dn])).set a0 (zob 2 [zp (a0 + 1), zp (a0 + 6), zj wy, zj x1, zj x2, zj 0, zj sn, zp (a0 + 9), zp (a0 + 10), zj 0, zj 0, zj 0, zj dn])).set a0 (zob 2 [zp (a0 + 1), zp (a0 + 6), zj wy, zj x1, zj x2, zj 0, zj sn, zp (a0 + 9), zp (a0 + 10), zj 0, zj 0, zj 0, zj 0])) ov w' c s
  refine rl_gf rfl (zw_s (zw_s (zw_s (zw_s (zw_s (zw_s (zw_s L0))))))) rfl rfl ?_
  show Zr sc 121 39 [zp a0, zj x1, zj x2] [zp (a0 + 9)] (((((((w.set a0 (zob 2 [zp (a0 + 1), zp (a0 + 6), zj wy, zj x1, zj hd, zj hn, zj sn, zp (a0 + 9), zp (a0 + 10), zj nm, zj ar, zj pk, zj dn])).set a0 (zob 2 [zp (a0 + 1), zp (a0 + 6), zj wy, zj x1, zj x2, zj hn, zj sn, zp (a0 + 9), zp (a0 + 10), zj nm, zj ar, zj pk, zj dn])).set a0 (zob 2 [zp (a0 + 1), zp (a0 + 6), zj wy, zj x1, zj x2, zj 0, zj sn, zp (a0 + 9), zp (a0 + 10), zj nm, zj ar, zj pk, zj dn])).set a0 (zob 2 [zp (a0 + 1), zp (a0 + 6), zj wy, zj x1, zj x2, zj 0, zj sn, zp (a0 + 9), zp (a0 + 10), zj 0, zj ar, zj pk, zj dn])).set a0 (zob 2 [zp (a0 + 1), zp (a0 + 6), zj wy, zj x1, zj x2, zj 0, zj sn, zp (a0 + 9), zp (a0 + 10), zj 0, zj 0, zj pk, zj dn])).set a0 (zob 2 [zp (a0 + 1), zp (a0 + 6), zj wy, zj x1, zj x2, zj 0, zj sn, zp (a0 + 9), zp (a0 + 10), zj 0, zj 0, zj 0, zj dn])).set a0 (zob 2 [zp (a0 + 1), zp (a0 + 6), zj wy, zj x1, zj x2, zj 0, zj sn, zp (a0 + 9), zp (a0 + 10), zj 0, zj 0, zj 0, zj 0])) ov w' c s
  refine rl_ic rfl ?_
  show Zr sc 121 40 [zp a0, zj x1, zj x2] [zj 0, zp (a0 + 9)] (((((((w.set a0 (zob 2 [zp (a0 + 1), zp (a0 + 6), zj wy, zj x1, zj hd, zj hn, zj sn, zp (a0 + 9), zp (a0 + 10), zj nm, zj ar, zj pk, zj dn])).set a0 (zob 2 [zp (a0 + 1), zp (a0 + 6), zj wy, zj x1, zj x2, zj hn, zj sn, zp (a0 + 9), zp (a0 + 10), zj nm, zj ar, zj pk, zj dn])).set a0 (zob 2 [zp (a0 + 1), zp (a0 + 6), zj wy, zj x1, zj x2, zj 0, zj sn, zp (a0 + 9), zp (a0 + 10), zj nm, zj ar, zj pk, zj dn])).set a0 (zob 2 [zp (a0 + 1), zp (a0 + 6), zj wy, zj x1, zj x2, zj 0, zj sn, zp (a0 + 9), zp (a0 + 10), zj 0, zj ar, zj pk, zj dn])).set a0 (zob 2 [zp (a0 + 1), zp (a0 + 6), zj wy, zj x1, zj x2, zj 0, zj sn, zp (a0 + 9), zp (a0 + 10), zj 0, zj 0, zj pk, zj dn])).set a0 (zob 2 [zp (a0 + 1), zp (a0 + 6), zj wy, zj x1, zj x2, zj 0, zj sn, zp (a0 + 9), zp (a0 + 10), zj 0, zj 0, zj 0, zj dn])).set a0 (zob 2 [zp (a0 + 1), zp (a0 + 6), zj wy, zj x1, zj x2, zj 0, zj sn, zp (a0 + 9), zp (a0 + 10), zj 0, zj 0, zj 0, zj 0])) ov w' c s
  obtain ⟨w_1, hk_2, h⟩ := h
  refine rn_cal0 (ins := .invokestatic 68) (rest := []) rfl rfl rfl rfl (zinv_t rfl rfl rfl rfl) rfl rfl hk_2 ?_
  show Zr sc 121 43 [zp a0, zj x1, zj x2] [] w_1 ov w' c s
  refine Zr_st (q := (44, [zp a0, zj x1, zj x2], [zp a0])) rfl rfl rfl ?_
  show Zr sc 121 44 [zp a0, zj x1, zj x2] [zp a0] w_1 ov w' c s
  obtain ⟨wy_4, st_5, hd_6, hn_7, sn_8, nm_9, ar_10, pk_11, dn_12, hw_3, h⟩ := h
  refine rl_gf rfl hw_3 rfl rfl ?_
  show Zr sc 121 47 [zp a0, zj x1, zj x2] [zp (a0 + 1)] w_1 ov w' c s
  obtain ⟨fs_14, hl_13, h⟩ := h
  obtain ⟨w_15, hk_16, h⟩ := h
  refine rn_cal0 (ins := .invokevirtual 74) (rest := []) rfl rfl rfl rfl (zinv_v (fs := _) hl_13 rfl rfl rfl rfl) rfl rfl hk_16 ?_
  show Zr sc 121 50 [zp a0, zj x1, zj x2] [] w_15 ov w' c s
  refine Zr_st (q := (51, [zp a0, zj x1, zj x2], [zp a0])) rfl rfl rfl ?_
  show Zr sc 121 51 [zp a0, zj x1, zj x2] [zp a0] w_15 ov w' c s
  obtain ⟨fs_18, hl_17, h⟩ := h
  obtain ⟨w_19, hk_20, h⟩ := h
  refine rn_cal0 (ins := .invokevirtual 77) (rest := []) rfl rfl rfl rfl (zinv_v (fs := _) hl_17 rfl rfl rfl rfl) rfl rfl hk_20 ?_
  show Zr sc 121 54 [zp a0, zj x1, zj x2] [] w_19 ov w' c s
  obtain ⟨h1, h2, h3, h4⟩ := h
  subst h1; subst h2; subst h3; subst h4
  exact Zr_ret (ins := .return_) rfl rfl

-- HeapwrightLab$Memory.beginAnew(II)V
set_option maxRecDepth 100000 in
theorem V121_0_4 {sc : List Value} {w w' : List zE} {ov : Option Value} {c s : Nat} {a0 : Nat} {x1 : Int} {x2 : Int} {wy : Int} {st : Int} {hd : Int} {hn : Int} {sn : Int} {nm : Int} {ar : Int} {pk : Int} {dn : Int} (L0 : w[a0]? = some (zob 4 [zp (a0 + 1), zp (a0 + 6), zj wy, zj st, zj hd, zj hn, zj sn, zp (a0 + 9), zp (a0 + 10), zj nm, zj ar, zj pk, zj dn, zp (a0 + 11)])) (h : (∃ w_1 : List zE, Zc sc 71 [zp (a0 + 9), zj 0] (((((((w.set a0 (zob 4 [zp (a0 + 1), zp (a0 + 6), zj wy, zj x1, zj hd, zj hn, zj sn, zp (a0 + 9), zp (a0 + 10), zj nm, zj ar, zj pk, zj dn, zp (a0 + 11)])).set a0 (zob 4 [zp (a0 + 1), zp (a0 + 6), zj wy, zj x1, zj x2, zj hn, zj sn, zp (a0 + 9), zp (a0 + 10), zj nm, zj ar, zj pk, zj dn, zp (a0 + 11)])).set a0 (zob 4 [zp (a0 + 1), zp (a0 + 6), zj wy, zj x1, zj x2, zj 0, zj sn, zp (a0 + 9), zp (a0 + 10), zj nm, zj ar, zj pk, zj dn, zp (a0 + 11)])).set a0 (zob 4 [zp (a0 + 1), zp (a0 + 6), zj wy, zj x1, zj x2, zj 0, zj sn, zp (a0 + 9), zp (a0 + 10), zj 0, zj ar, zj pk, zj dn, zp (a0 + 11)])).set a0 (zob 4 [zp (a0 + 1), zp (a0 + 6), zj wy, zj x1, zj x2, zj 0, zj sn, zp (a0 + 9), zp (a0 + 10), zj 0, zj 0, zj pk, zj dn, zp (a0 + 11)])).set a0 (zob 4 [zp (a0 + 1), zp (a0 + 6), zj wy, zj x1, zj x2, zj 0, zj sn, zp (a0 + 9), zp (a0 + 10), zj 0, zj 0, zj 0, zj dn, zp (a0 + 11)])).set a0 (zob 4 [zp (a0 + 1), zp (a0 + 6), zj wy, zj x1, zj x2, zj 0, zj sn, zp (a0 + 9), zp (a0 + 10), zj 0, zj 0, zj 0, zj 0, zp (a0 + 11)])) none w_1 0 0 ∧ (∃ wy_4 : Int, ∃ st_5 : Int, ∃ hd_6 : Int, ∃ hn_7 : Int, ∃ sn_8 : Int, ∃ nm_9 : Int, ∃ ar_10 : Int, ∃ pk_11 : Int, ∃ dn_12 : Int, w_1[a0]? = some (zob 4 [zp (a0 + 1), zp (a0 + 6), zj wy_4, zj st_5, zj hd_6, zj hn_7, zj sn_8, zp (a0 + 9), zp (a0 + 10), zj nm_9, zj ar_10, zj pk_11, zj dn_12, zp (a0 + 11)]) ∧ (∃ fs_14 : List Value, w_1[(a0 + 1)]? = some (zob 0 fs_14) ∧ (∃ w_15 : List zE, Zc sc 122 [zp (a0 + 1)] w_1 none w_15 0 0 ∧ (∃ fs_18 : List Value, w_15[a0]? = some (zob 4 fs_18) ∧ (∃ w_19 : List zE, Zc sc 69 [zp a0] w_15 none w_19 0 0 ∧ (ov = none ∧ w' = w_19 ∧ c = 0 ∧ s = 0)))))))) : Zr sc 121 0 [zp a0, zj x1, zj x2] [] w ov w' c s := by
  refine Zr_st (q := (1, [zp a0, zj x1, zj x2], [zp a0])) rfl rfl rfl ?_
  show Zr sc 121 1 [zp a0, zj x1, zj x2] [zp a0] w ov w' c s
  refine Zr_st (q := (2, [zp a0, zj x1, zj x2], [zj x1, zp a0])) rfl rfl rfl ?_
  show Zr sc 121 2 [zp a0, zj x1, zj x2] [zj x1, zp a0] w ov w' c s
  refine rl_pf rfl L0 rfl rfl rfl ?_
  show Zr sc 121 5 [zp a0, zj x1, zj x2] [] (w.set a0 (zob 4 [zp (a0 + 1), zp (a0 + 6), zj wy, zj x1, zj hd, zj hn, zj sn, zp (a0 + 9), zp (a0 + 10), zj nm, zj ar, zj pk, zj dn, zp (a0 + 11)])) ov w' c s
  refine Zr_st (q := (6, [zp a0, zj x1, zj x2], [zp a0])) rfl rfl rfl ?_
  show Zr sc 121 6 [zp a0, zj x1, zj x2] [zp a0] (w.set a0 (zob 4 [zp (a0 + 1), zp (a0 + 6), zj wy, zj x1, zj hd, zj hn, zj sn, zp (a0 + 9), zp (a0 + 10), zj nm, zj ar, zj pk, zj dn, zp (a0 + 11)])) ov w' c s
  refine Zr_st (q := (7, [zp a0, zj x1, zj x2], [zj x2, zp a0])) rfl rfl rfl ?_
  show Zr sc 121 7 [zp a0, zj x1, zj x2] [zj x2, zp a0] (w.set a0 (zob 4 [zp (a0 + 1), zp (a0 + 6), zj wy, zj x1, zj hd, zj hn, zj sn, zp (a0 + 9), zp (a0 + 10), zj nm, zj ar, zj pk, zj dn, zp (a0 + 11)])) ov w' c s
  refine rl_pf rfl (zw_s L0) rfl rfl rfl ?_
  show Zr sc 121 10 [zp a0, zj x1, zj x2] [] ((w.set a0 (zob 4 [zp (a0 + 1), zp (a0 + 6), zj wy, zj x1, zj hd, zj hn, zj sn, zp (a0 + 9), zp (a0 + 10), zj nm, zj ar, zj pk, zj dn, zp (a0 + 11)])).set a0 (zob 4 [zp (a0 + 1), zp (a0 + 6), zj wy, zj x1, zj x2, zj hn, zj sn, zp (a0 + 9), zp (a0 + 10), zj nm, zj ar, zj pk, zj dn, zp (a0 + 11)])) ov w' c s
  refine Zr_st (q := (11, [zp a0, zj x1, zj x2], [zp a0])) rfl rfl rfl ?_
  show Zr sc 121 11 [zp a0, zj x1, zj x2] [zp a0] ((w.set a0 (zob 4 [zp (a0 + 1), zp (a0 + 6), zj wy, zj x1, zj hd, zj hn, zj sn, zp (a0 + 9), zp (a0 + 10), zj nm, zj ar, zj pk, zj dn, zp (a0 + 11)])).set a0 (zob 4 [zp (a0 + 1), zp (a0 + 6), zj wy, zj x1, zj x2, zj hn, zj sn, zp (a0 + 9), zp (a0 + 10), zj nm, zj ar, zj pk, zj dn, zp (a0 + 11)])) ov w' c s
  refine rl_ic rfl ?_
  show Zr sc 121 12 [zp a0, zj x1, zj x2] [zj 0, zp a0] ((w.set a0 (zob 4 [zp (a0 + 1), zp (a0 + 6), zj wy, zj x1, zj hd, zj hn, zj sn, zp (a0 + 9), zp (a0 + 10), zj nm, zj ar, zj pk, zj dn, zp (a0 + 11)])).set a0 (zob 4 [zp (a0 + 1), zp (a0 + 6), zj wy, zj x1, zj x2, zj hn, zj sn, zp (a0 + 9), zp (a0 + 10), zj nm, zj ar, zj pk, zj dn, zp (a0 + 11)])) ov w' c s
  refine rl_pf rfl (zw_s (zw_s L0)) rfl rfl rfl ?_
  show Zr sc 121 15 [zp a0, zj x1, zj x2] [] (((w.set a0 (zob 4 [zp (a0 + 1), zp (a0 + 6), zj wy, zj x1, zj hd, zj hn, zj sn, zp (a0 + 9), zp (a0 + 10), zj nm, zj ar, zj pk, zj dn, zp (a0 + 11)])).set a0 (zob 4 [zp (a0 + 1), zp (a0 + 6), zj wy, zj x1, zj x2, zj hn, zj sn, zp (a0 + 9), zp (a0 + 10), zj nm, zj ar, zj pk, zj dn, zp (a0 + 11)])).set a0 (zob 4 [zp (a0 + 1), zp (a0 + 6), zj wy, zj x1, zj x2, zj 0, zj sn, zp (a0 + 9), zp (a0 + 10), zj nm, zj ar, zj pk, zj dn, zp (a0 + 11)])) ov w' c s
  refine Zr_st (q := (16, [zp a0, zj x1, zj x2], [zp a0])) rfl rfl rfl ?_
  show Zr sc 121 16 [zp a0, zj x1, zj x2] [zp a0] (((w.set a0 (zob 4 [zp (a0 + 1), zp (a0 + 6), zj wy, zj x1, zj hd, zj hn, zj sn, zp (a0 + 9), zp (a0 + 10), zj nm, zj ar, zj pk, zj dn, zp (a0 + 11)])).set a0 (zob 4 [zp (a0 + 1), zp (a0 + 6), zj wy, zj x1, zj x2, zj hn, zj sn, zp (a0 + 9), zp (a0 + 10), zj nm, zj ar, zj pk, zj dn, zp (a0 + 11)])).set a0 (zob 4 [zp (a0 + 1), zp (a0 + 6), zj wy, zj x1, zj x2, zj 0, zj sn, zp (a0 + 9), zp (a0 + 10), zj nm, zj ar, zj pk, zj dn, zp (a0 + 11)])) ov w' c s
  refine rl_ic rfl ?_
  show Zr sc 121 17 [zp a0, zj x1, zj x2] [zj 0, zp a0] (((w.set a0 (zob 4 [zp (a0 + 1), zp (a0 + 6), zj wy, zj x1, zj hd, zj hn, zj sn, zp (a0 + 9), zp (a0 + 10), zj nm, zj ar, zj pk, zj dn, zp (a0 + 11)])).set a0 (zob 4 [zp (a0 + 1), zp (a0 + 6), zj wy, zj x1, zj x2, zj hn, zj sn, zp (a0 + 9), zp (a0 + 10), zj nm, zj ar, zj pk, zj dn, zp (a0 + 11)])).set a0 (zob 4 [zp (a0 + 1), zp (a0 + 6), zj wy, zj x1, zj x2, zj 0, zj sn, zp (a0 + 9), zp (a0 + 10), zj nm, zj ar, zj pk, zj dn, zp (a0 + 11)])) ov w' c s
  refine rl_pf rfl (zw_s (zw_s (zw_s L0))) rfl rfl rfl ?_
  show Zr sc 121 20 [zp a0, zj x1, zj x2] [] ((((w.set a0 (zob 4 [zp (a0 + 1), zp (a0 + 6), zj wy, zj x1, zj hd, zj hn, zj sn, zp (a0 + 9), zp (a0 + 10), zj nm, zj ar, zj pk, zj dn, zp (a0 + 11)])).set a0 (zob 4 [zp (a0 + 1), zp (a0 + 6), zj wy, zj x1, zj x2, zj hn, zj sn, zp (a0 + 9), zp (a0 + 10), zj nm, zj ar, zj pk, zj dn, zp (a0 + 11)])).set a0 (zob 4 [zp (a0 + 1), zp (a0 + 6), zj wy, zj x1, zj x2, zj 0, zj sn, zp (a0 + 9), zp (a0 + 10), zj nm, zj ar, zj pk, zj dn, zp (a0 + 11)])).set a0 (zob 4 [zp (a0 + 1), zp (a0 + 6), zj wy, zj x1, zj x2, zj 0, zj sn, zp (a0 + 9), zp (a0 + 10), zj 0, zj ar, zj pk, zj dn, zp (a0 + 11)])) ov w' c s
  refine Zr_st (q := (21, [zp a0, zj x1, zj x2], [zp a0])) rfl rfl rfl ?_
  show Zr sc 121 21 [zp a0, zj x1, zj x2] [zp a0] ((((w.set a0 (zob 4 [zp (a0 + 1), zp (a0 + 6), zj wy, zj x1, zj hd, zj hn, zj sn, zp (a0 + 9), zp (a0 + 10), zj nm, zj ar, zj pk, zj dn, zp (a0 + 11)])).set a0 (zob 4 [zp (a0 + 1), zp (a0 + 6), zj wy, zj x1, zj x2, zj hn, zj sn, zp (a0 + 9), zp (a0 + 10), zj nm, zj ar, zj pk, zj dn, zp (a0 + 11)])).set a0 (zob 4 [zp (a0 + 1), zp (a0 + 6), zj wy, zj x1, zj x2, zj 0, zj sn, zp (a0 + 9), zp (a0 + 10), zj nm, zj ar, zj pk, zj dn, zp (a0 + 11)])).set a0 (zob 4 [zp (a0 + 1), zp (a0 + 6), zj wy, zj x1, zj x2, zj 0, zj sn, zp (a0 + 9), zp (a0 + 10), zj 0, zj ar, zj pk, zj dn, zp (a0 + 11)])) ov w' c s
  refine rl_ic rfl ?_
  show Zr sc 121 22 [zp a0, zj x1, zj x2] [zj 0, zp a0] ((((w.set a0 (zob 4 [zp (a0 + 1), zp (a0 + 6), zj wy, zj x1, zj hd, zj hn, zj sn, zp (a0 + 9), zp (a0 + 10), zj nm, zj ar, zj pk, zj dn, zp (a0 + 11)])).set a0 (zob 4 [zp (a0 + 1), zp (a0 + 6), zj wy, zj x1, zj x2, zj hn, zj sn, zp (a0 + 9), zp (a0 + 10), zj nm, zj ar, zj pk, zj dn, zp (a0 + 11)])).set a0 (zob 4 [zp (a0 + 1), zp (a0 + 6), zj wy, zj x1, zj x2, zj 0, zj sn, zp (a0 + 9), zp (a0 + 10), zj nm, zj ar, zj pk, zj dn, zp (a0 + 11)])).set a0 (zob 4 [zp (a0 + 1), zp (a0 + 6), zj wy, zj x1, zj x2, zj 0, zj sn, zp (a0 + 9), zp (a0 + 10), zj 0, zj ar, zj pk, zj dn, zp (a0 + 11)])) ov w' c s
  refine rl_pf rfl (zw_s (zw_s (zw_s (zw_s L0)))) rfl rfl rfl ?_
  show Zr sc 121 25 [zp a0, zj x1, zj x2] [] (((((w.set a0 (zob 4 [zp (a0 + 1), zp (a0 + 6), zj wy, zj x1, zj hd, zj hn, zj sn, zp (a0 + 9), zp (a0 + 10), zj nm, zj ar, zj pk, zj dn, zp (a0 + 11)])).set a0 (zob 4 [zp (a0 + 1), zp (a0 + 6), zj wy, zj x1, zj x2, zj hn, zj sn, zp (a0 + 9), zp (a0 + 10), zj nm, zj ar, zj pk, zj dn, zp (a0 + 11)])).set a0 (zob 4 [zp (a0 + 1), zp (a0 + 6), zj wy, zj x1, zj x2, zj 0, zj sn, zp (a0 + 9), zp (a0 + 10), zj nm, zj ar, zj pk, zj dn, zp (a0 + 11)])).set a0 (zob 4 [zp (a0 + 1), zp (a0 + 6), zj wy, zj x1, zj x2, zj 0, zj sn, zp (a0 + 9), zp (a0 + 10), zj 0, zj ar, zj pk, zj dn, zp (a0 + 11)])).set a0 (zob 4 [zp (a0 + 1), zp (a0 + 6), zj wy, zj x1, zj x2, zj 0, zj sn, zp (a0 + 9), zp (a0 + 10), zj 0, zj 0, zj pk, zj dn, zp (a0 + 11)])) ov w' c s
  refine Zr_st (q := (26, [zp a0, zj x1, zj x2], [zp a0])) rfl rfl rfl ?_
  show Zr sc 121 26 [zp a0, zj x1, zj x2] [zp a0] (((((w.set a0 (zob 4 [zp (a0 + 1), zp (a0 + 6), zj wy, zj x1, zj hd, zj hn, zj sn, zp (a0 + 9), zp (a0 + 10), zj nm, zj ar, zj pk, zj dn, zp (a0 + 11)])).set a0 (zob 4 [zp (a0 + 1), zp (a0 + 6), zj wy, zj x1, zj x2, zj hn, zj sn, zp (a0 + 9), zp (a0 + 10), zj nm, zj ar, zj pk, zj dn, zp (a0 + 11)])).set a0 (zob 4 [zp (a0 + 1), zp (a0 + 6), zj wy, zj x1, zj x2, zj 0, zj sn, zp (a0 + 9), zp (a0 + 10), zj nm, zj ar, zj pk, zj dn, zp (a0 + 11)])).set a0 (zob 4 [zp (a0 + 1), zp (a0 + 6), zj wy, zj x1, zj x2, zj 0, zj sn, zp (a0 + 9), zp (a0 + 10), zj 0, zj ar, zj pk, zj dn, zp (a0 + 11)])).set a0 (zob 4 [zp (a0 + 1), zp (a0 + 6), zj wy, zj x1, zj x2, zj 0, zj sn, zp (a0 + 9), zp (a0 + 10), zj 0, zj 0, zj pk, zj dn, zp (a0 + 11)])) ov w' c s
  refine rl_ic rfl ?_
  show Zr sc 121 27 [zp a0, zj x1, zj x2] [zj 0, zp a0] (((((w.set a0 (zob 4 [zp (a0 + 1), zp (a0 + 6), zj wy, zj x1, zj hd, zj hn, zj sn, zp (a0 + 9), zp (a0 + 10), zj nm, zj ar, zj pk, zj dn, zp (a0 + 11)])).set a0 (zob 4 [zp (a0 + 1), zp (a0 + 6), zj wy, zj x1, zj x2, zj hn, zj sn, zp (a0 + 9), zp (a0 + 10), zj nm, zj ar, zj pk, zj dn, zp (a0 + 11)])).set a0 (zob 4 [zp (a0 + 1), zp (a0 + 6), zj wy, zj x1, zj x2, zj 0, zj sn, zp (a0 + 9), zp (a0 + 10), zj nm, zj ar, zj pk, zj dn, zp (a0 + 11)])).set a0 (zob 4 [zp (a0 + 1), zp (a0 + 6), zj wy, zj x1, zj x2, zj 0, zj sn, zp (a0 + 9), zp (a0 + 10), zj 0, zj ar, zj pk, zj dn, zp (a0 + 11)])).set a0 (zob 4 [zp (a0 + 1), zp (a0 + 6), zj wy, zj x1, zj x2, zj 0, zj sn, zp (a0 + 9), zp (a0 + 10), zj 0, zj 0, zj pk, zj dn, zp (a0 + 11)])) ov w' c s
  refine rl_pf rfl (zw_s (zw_s (zw_s (zw_s (zw_s L0))))) rfl rfl rfl ?_
  show Zr sc 121 30 [zp a0, zj x1, zj x2] [] ((((((w.set a0 (zob 4 [zp (a0 + 1), zp (a0 + 6), zj wy, zj x1, zj hd, zj hn, zj sn, zp (a0 + 9), zp (a0 + 10), zj nm, zj ar, zj pk, zj dn, zp (a0 + 11)])).set a0 (zob 4 [zp (a0 + 1), zp (a0 + 6), zj wy, zj x1, zj x2, zj hn, zj sn, zp (a0 + 9), zp (a0 + 10), zj nm, zj ar, zj pk, zj dn, zp (a0 + 11)])).set a0 (zob 4 [zp (a0 + 1), zp (a0 + 6), zj wy, zj x1, zj x2, zj 0, zj sn, zp (a0 + 9), zp (a0 + 10), zj nm, zj ar, zj pk, zj dn, zp (a0 + 11)])).set a0 (zob 4 [zp (a0 + 1), zp (a0 + 6), zj wy, zj x1, zj x2, zj 0, zj sn, zp (a0 + 9), zp (a0 + 10), zj 0, zj ar, zj pk, zj dn, zp (a0 + 11)])).set a0 (zob 4 [zp (a0 + 1), zp (a0 + 6), zj wy, zj x1, zj x2, zj 0, zj sn, zp (a0 + 9), zp (a0 + 10), zj 0, zj 0, zj pk, zj dn, zp (a0 + 11)])).set a0 (zob 4 [zp (a0 + 1), zp (a0 + 6), zj wy, zj x1, zj x2, zj 0, zj sn, zp (a0 + 9), zp (a0 + 10), zj 0, zj 0, zj 0, zj dn, zp (a0 + 11)])) ov w' c s
  refine Zr_st (q := (31, [zp a0, zj x1, zj x2], [zp a0])) rfl rfl rfl ?_
  show Zr sc 121 31 [zp a0, zj x1, zj x2] [zp a0] ((((((w.set a0 (zob 4 [zp (a0 + 1), zp (a0 + 6), zj wy, zj x1, zj hd, zj hn, zj sn, zp (a0 + 9), zp (a0 + 10), zj nm, zj ar, zj pk, zj dn, zp (a0 + 11)])).set a0 (zob 4 [zp (a0 + 1), zp (a0 + 6), zj wy, zj x1, zj x2, zj hn, zj sn, zp (a0 + 9), zp (a0 + 10), zj nm, zj ar, zj pk, zj dn, zp (a0 + 11)])).set a0 (zob 4 [zp (a0 + 1), zp (a0 + 6), zj wy, zj x1, zj x2, zj 0, zj sn, zp (a0 + 9), zp (a0 + 10), zj nm, zj ar, zj pk, zj dn, zp (a0 + 11)])).set a0 (zob 4 [zp (a0 + 1), zp (a0 + 6), zj wy, zj x1, zj x2, zj 0, zj sn, zp (a0 + 9), zp (a0 + 10), zj 0, zj ar, zj pk, zj dn, zp (a0 + 11)])).set a0 (zob 4 [zp (a0 + 1), zp (a0 + 6), zj wy, zj x1, zj x2, zj 0, zj sn, zp (a0 + 9), zp (a0 + 10), zj 0, zj 0, zj pk, zj dn, zp (a0 + 11)])).set a0 (zob 4 [zp (a0 + 1), zp (a0 + 6), zj wy, zj x1, zj x2, zj 0, zj sn, zp (a0 + 9), zp (a0 + 10), zj 0, zj 0, zj 0, zj dn, zp (a0 + 11)])) ov w' c s
  refine rl_ic rfl ?_
  show Zr sc 121 32 [zp a0, zj x1, zj x2] [zj 0, zp a0] ((((((w.set a0 (zob 4 [zp (a0 + 1), zp (a0 + 6), zj wy, zj x1, zj hd, zj hn, zj sn, zp (a0 + 9), zp (a0 + 10), zj nm, zj ar, zj pk, zj dn, zp (a0 + 11)])).set a0 (zob 4 [zp (a0 + 1), zp (a0 + 6), zj wy, zj x1, zj x2, zj hn, zj sn, zp (a0 + 9), zp (a0 + 10), zj nm, zj ar, zj pk, zj dn, zp (a0 + 11)])).set a0 (zob 4 [zp (a0 + 1), zp (a0 + 6), zj wy, zj x1, zj x2, zj 0, zj sn, zp (a0 + 9), zp (a0 + 10), zj nm, zj ar, zj pk, zj dn, zp (a0 + 11)])).set a0 (zob 4 [zp (a0 + 1), zp (a0 + 6), zj wy, zj x1, zj x2, zj 0, zj sn, zp (a0 + 9), zp (a0 + 10), zj 0, zj ar, zj pk, zj dn, zp (a0 + 11)])).set a0 (zob 4 [zp (a0 + 1), zp (a0 + 6), zj wy, zj x1, zj x2, zj 0, zj sn, zp (a0 + 9), zp (a0 + 10), zj 0, zj 0, zj pk, zj dn, zp (a0 + 11)])).set a0 (zob 4 [zp (a0 + 1), zp (a0 + 6), zj wy, zj x1, zj x2, zj 0, zj sn, zp (a0 + 9), zp (a0 + 10), zj 0, zj 0, zj 0, zj dn, zp (a0 + 11)])) ov w' c s
  refine rl_pf rfl (zw_s (zw_s (zw_s (zw_s (zw_s (zw_s L0)))))) rfl rfl rfl ?_
  show Zr sc 121 35 [zp a0, zj x1, zj x2] [] (((((((w.set a0 (zob 4 [zp (a0 + 1), zp (a0 + 6), zj wy, zj x1, zj hd, zj hn, zj sn, zp (a0 + 9), zp (a0 + 10), zj nm, zj ar, zj pk, zj dn, zp (a0 + 11)])).set a0 (zob 4 [zp (a0 + 1), zp (a0 + 6), zj wy, zj x1, zj x2, zj hn, zj sn, zp (a0 + 9), zp (a0 + 10), zj nm, zj ar, zj pk, zj dn, zp (a0 + 11)])).set a0 (zob 4 [zp (a0 + 1), zp (a0 + 6), zj wy, zj x1, zj x2, zj 0, zj sn, zp (a0 + 9), zp (a0 + 10), zj nm, zj ar, zj pk, zj dn, zp (a0 + 11)])).set a0 (zob 4 [zp (a0 + 1), zp (a0 + 6), zj wy, zj x1, zj x2, zj 0, zj sn, zp (a0 + 9), zp (a0 + 10), zj 0, zj ar, zj pk, zj dn, zp (a0 + 11)])).set a0 (zob 4 [zp (a0 + 1), zp (a0 + 6), zj wy, zj x1, zj x2, zj 0, zj sn, zp (a0 + 9), zp (a0 + 10), zj 0, zj 0, zj pk, zj dn, zp (a0 + 11)])).set a0 (zob 4 [zp (a0 + 1), zp (a0 + 6), zj wy, zj x1, zj x2, zj 0, zj sn, zp (a0 + 9), zp (a0 + 10), zj 0, zj 0, zj 0, zj dn, zp (a0 + 11)])).set a0 (zob 4 [zp (a0 + 1), zp (a0 + 6), zj wy, zj x1, zj x2, zj 0, zj sn, zp (a0 + 9), zp (a0 + 10), zj 0, zj 0, zj 0, zj 0, zp (a0 + 11)])) ov w' c s
  refine Zr_st (q := (36, [zp a0, zj x1, zj x2], [zp a0])) rfl rfl rfl ?_
  show Zr sc 121 36 [zp a0, zj x1, zj x2] [zp a0] (((((((w.set a0 (zob 4 [zp (a0 + 1), zp (a0 + 6), zj wy, zj x1, zj hd, zj hn, zj sn, zp (a0 + 9), zp (a0 + 10), zj nm, zj ar, zj pk, zj dn, zp (a0 + 11)])).set a0 (zob 4 [zp (a0 + 1), zp (a0 + 6), zj wy, zj x1, zj x2, zj hn, zj sn, zp (a0 + 9), zp (a0 + 10), zj nm, zj ar, zj pk, zj dn, zp (a0 + 11)])).set a0 (zob 4 [zp (a0 + 1), zp (a0 + 6), zj wy, zj x1, zj x2, zj 0, zj sn, zp (a0 + 9), zp (a0 + 10), zj nm, zj ar, zj pk, zj dn, zp (a0 + 11)])).set a0 (zob 4 [zp (a0 + 1), zp (a0 + 6), zj wy, zj x1, zj x2, zj 0, zj sn, zp (a0 + 9), zp (a0 + 10), zj 0, zj ar, zj pk, zj dn, zp (a0 + 11)])).set a0 (zob 4 [zp (a0 + 1), zp (a0 + 6), zj wy, zj x1, zj x2, zj 0, zj sn, zp (a0 + 9), zp (a0 + 10), zj 0, zj 0, zj pk, zj dn, zp (a0 + 11)])).set a0 (zob 4 [zp (a0 + 1), zp (a0 + 6), zj wy, zj x1, zj x2, zj 0, zj sn, zp (a0 + 9), zp (a0 + 10), zj 0, zj 0, zj 0, zj dn, zp (a0 + 11)])).set a0 (zob 4 [zp (a0 + 1), zp (a0 + 6), zj wy, zj x1, zj x2, zj 0, zj sn, zp (a0 + 9), zp (a0 + 10), zj 0, zj 0, zj 0, zj 0, zp (a0 + 11)])) ov w' c s
  refine rl_gf rfl (zw_s (zw_s (zw_s (zw_s (zw_s (zw_s (zw_s L0))))))) rfl rfl ?_
  show Zr sc 121 39 [zp a0, zj x1, zj x2] [zp (a0 + 9)] (((((((w.set a0 (zob 4 [zp (a0 + 1), zp (a0 + 6), zj wy, zj x1, zj hd, zj hn, zj sn, zp (a0 + 9), zp (a0 + 10), zj nm, zj ar, zj pk, zj dn, zp (a0 + 11)])).set a0 (zob 4 [zp (a0 + 1), zp (a0 + 6), zj wy, zj x1, zj x2, zj hn, zj sn, zp (a0 + 9), zp (a0 + 10), zj nm, zj ar, zj pk, zj dn, zp (a0 + 11)])).set a0 (zob 4 [zp (a0 + 1), zp (a0 + 6), zj wy, zj x1, zj x2, zj 0, zj sn, zp (a0 + 9), zp (a0 + 10), zj nm, zj ar, zj pk, zj dn, zp (a0 + 11)])).set a0 (zob 4 [zp (a0 + 1), zp (a0 + 6), zj wy, zj x1, zj x2, zj 0, zj sn, zp (a0 + 9), zp (a0 + 10), zj 0, zj ar, zj pk, zj dn, zp (a0 + 11)])).set a0 (zob 4 [zp (a0 + 1), zp (a0 + 6), zj wy, zj x1, zj x2, zj 0, zj sn, zp (a0 + 9), zp (a0 + 10), zj 0, zj 0, zj pk, zj dn, zp (a0 + 11)])).set a0 (zob 4 [zp (a0 + 1), zp (a0 + 6), zj wy, zj x1, zj x2, zj 0, zj sn, zp (a0 + 9), zp (a0 + 10), zj 0, zj 0, zj 0, zj dn, zp (a0 + 11)])).set a0 (zob 4 [zp (a0 + 1), zp (a0 + 6), zj wy, zj x1, zj x2, zj 0, zj sn, zp (a0 + 9), zp (a0 + 10), zj 0, zj 0, zj 0, zj 0, zp (a0 + 11)])) ov w' c s
  refine rl_ic rfl ?_
  show Zr sc 121 40 [zp a0, zj x1, zj x2] [zj 0, zp (a0 + 9)] (((((((w.set a0 (zob 4 [zp (a0 + 1), zp (a0 + 6), zj wy, zj x1, zj hd, zj hn, zj sn, zp (a0 + 9), zp (a0 + 10), zj nm, zj ar, zj pk, zj dn, zp (a0 + 11)])).set a0 (zob 4 [zp (a0 + 1), zp (a0 + 6), zj wy, zj x1, zj x2, zj hn, zj sn, zp (a0 + 9), zp (a0 + 10), zj nm, zj ar, zj pk, zj dn, zp (a0 + 11)])).set a0 (zob 4 [zp (a0 + 1), zp (a0 + 6), zj wy, zj x1, zj x2, zj 0, zj sn, zp (a0 + 9), zp (a0 + 10), zj nm, zj ar, zj pk, zj dn, zp (a0 + 11)])).set a0 (zob 4 [zp (a0 + 1), zp (a0 + 6), zj wy, zj x1, zj x2, zj 0, zj sn, zp (a0 + 9), zp (a0 + 10), zj 0, zj ar, zj pk, zj dn, zp (a0 + 11)])).set a0 (zob 4 [zp (a0 + 1), zp (a0 + 6), zj wy, zj x1, zj x2, zj 0, zj sn, zp (a0 + 9), zp (a0 + 10), zj 0, zj 0, zj pk, zj dn, zp (a0 + 11)])).set a0 (zob 4 [zp (a0 + 1), zp (a0 + 6), zj wy, zj x1, zj x2, zj 0, zj sn, zp (a0 + 9), zp (a0 + 10), zj 0, zj 0, zj 0, zj dn, zp (a0 + 11)])).set a0 (zob 4 [zp (a0 + 1), zp (a0 + 6), zj wy, zj x1, zj x2, zj 0, zj sn, zp (a0 + 9), zp (a0 + 10), zj 0, zj 0, zj 0, zj 0, zp (a0 + 11)])) ov w' c s
  obtain ⟨w_1, hk_2, h⟩ := h
  refine rn_cal0 (ins := .invokestatic 68) (rest := []) rfl rfl rfl rfl (zinv_t rfl rfl rfl rfl) rfl rfl hk_2 ?_
  show Zr sc 121 43 [zp a0, zj x1, zj x2] [] w_1 ov w' c s
  refine Zr_st (q := (44, [zp a0, zj x1, zj x2], [zp a0])) rfl rfl rfl ?_
  show Zr sc 121 44 [zp a0, zj x1, zj x2] [zp a0] w_1 ov w' c s
  obtain ⟨wy_4, st_5, hd_6, hn_7, sn_8, nm_9, ar_10, pk_11, dn_12, hw_3, h⟩ := h
  refine rl_gf rfl hw_3 rfl rfl ?_
  show Zr sc 121 47 [zp a0, zj x1, zj x2] [zp (a0 + 1)] w_1 ov w' c s
  obtain ⟨fs_14, hl_13, h⟩ := h
  obtain ⟨w_15, hk_16, h⟩ := h
  refine rn_cal0 (ins := .invokevirtual 74) (rest := []) rfl rfl rfl rfl (zinv_v (fs := _) hl_13 rfl rfl rfl rfl) rfl rfl hk_16 ?_
  show Zr sc 121 50 [zp a0, zj x1, zj x2] [] w_15 ov w' c s
  refine Zr_st (q := (51, [zp a0, zj x1, zj x2], [zp a0])) rfl rfl rfl ?_
  show Zr sc 121 51 [zp a0, zj x1, zj x2] [zp a0] w_15 ov w' c s
  obtain ⟨fs_18, hl_17, h⟩ := h
  obtain ⟨w_19, hk_20, h⟩ := h
  refine rn_cal0 (ins := .invokevirtual 77) (rest := []) rfl rfl rfl rfl (zinv_v (fs := _) hl_17 rfl rfl rfl rfl) rfl rfl hk_20 ?_
  show Zr sc 121 54 [zp a0, zj x1, zj x2] [] w_19 ov w' c s
  obtain ⟨h1, h2, h3, h4⟩ := h
  subst h1; subst h2; subst h3; subst h4
  exact Zr_ret (ins := .return_) rfl rfl

-- HeapwrightLab$Blocks.removeAll()V
set_option maxRecDepth 100000 in
theorem V122_0 {sc : List Value} {w w' : List zE} {ov : Option Value} {c s : Nat} {a0 : Nat} {ct : Int} {rt : Int} (L0 : w[a0]? = some (zob 0 [zp (a0 + 1), zp (a0 + 2), zp (a0 + 3), zp (a0 + 4), zj ct, zj rt])) (h : (∃ w_1 : List zE, Zc sc 71 [zp (a0 + 3), zj 0] w none w_1 0 0 ∧ (∃ ct_4 : Int, ∃ rt_5 : Int, w_1[a0]? = some (zob 0 [zp (a0 + 1), zp (a0 + 2), zp (a0 + 3), zp (a0 + 4), zj ct_4, zj rt_5]) ∧ (ov = none ∧ w' = ((w_1.set a0 (zob 0 [zp (a0 + 1), zp (a0 + 2), zp (a0 + 3), zp (a0 + 4), zj 0, zj rt_5])).set a0 (zob 0 [zp (a0 + 1), zp (a0 + 2), zp (a0 + 3), zp (a0 + 4), zj 0, zj 0])) ∧ c = 0 ∧ s = 0)))) : Zr sc 122 0 [zp a0] [] w ov w' c s := by
  refine Zr_st (q := (1, [zp a0], [zp a0])) rfl rfl rfl ?_
  show Zr sc 122 1 [zp a0] [zp a0] w ov w' c s
  refine rl_gf rfl L0 rfl rfl ?_
  show Zr sc 122 4 [zp a0] [zp (a0 + 3)] w ov w' c s
  refine rl_ic rfl ?_
  show Zr sc 122 5 [zp a0] [zj 0, zp (a0 + 3)] w ov w' c s
  obtain ⟨w_1, hk_2, h⟩ := h
  refine rn_cal0 (ins := .invokestatic 24) (rest := []) rfl rfl rfl rfl (zinv_t rfl rfl rfl rfl) rfl rfl hk_2 ?_
  show Zr sc 122 8 [zp a0] [] w_1 ov w' c s
  refine Zr_st (q := (9, [zp a0], [zp a0])) rfl rfl rfl ?_
  show Zr sc 122 9 [zp a0] [zp a0] w_1 ov w' c s
  refine rl_ic rfl ?_
  show Zr sc 122 10 [zp a0] [zj 0, zp a0] w_1 ov w' c s
  obtain ⟨ct_4, rt_5, hw_3, h⟩ := h
  refine rl_pf rfl hw_3 rfl rfl rfl ?_
  show Zr sc 122 13 [zp a0] [] (w_1.set a0 (zob 0 [zp (a0 + 1), zp (a0 + 2), zp (a0 + 3), zp (a0 + 4), zj 0, zj rt_5])) ov w' c s
  refine Zr_st (q := (14, [zp a0], [zp a0])) rfl rfl rfl ?_
  show Zr sc 122 14 [zp a0] [zp a0] (w_1.set a0 (zob 0 [zp (a0 + 1), zp (a0 + 2), zp (a0 + 3), zp (a0 + 4), zj 0, zj rt_5])) ov w' c s
  refine rl_ic rfl ?_
  show Zr sc 122 15 [zp a0] [zj 0, zp a0] (w_1.set a0 (zob 0 [zp (a0 + 1), zp (a0 + 2), zp (a0 + 3), zp (a0 + 4), zj 0, zj rt_5])) ov w' c s
  refine rl_pf rfl (zw_s hw_3) rfl rfl rfl ?_
  show Zr sc 122 18 [zp a0] [] ((w_1.set a0 (zob 0 [zp (a0 + 1), zp (a0 + 2), zp (a0 + 3), zp (a0 + 4), zj 0, zj rt_5])).set a0 (zob 0 [zp (a0 + 1), zp (a0 + 2), zp (a0 + 3), zp (a0 + 4), zj 0, zj 0])) ov w' c s
  obtain ⟨h1, h2, h3, h4⟩ := h
  subst h1; subst h2; subst h3; subst h4
  exact Zr_ret (ins := .return_) rfl rfl

-- HeapwrightLabLaw$Pool.roomOf(I)I
set_option maxRecDepth 100000 in
theorem V123_0 {sc : List Value} {w w' : List zE} {ov : Option Value} {c s : Nat} {a0 : Nat} {x1 : Int} {dr : Int} {wy : Int} {st : Int} {hd : Int} {nm : Int} {ar : Int} {hn : Int} {pk : Int} {D : Nat} {tl : Int} (L0 : w[a0]? = some (zob 7 [zp (a0 + 1), .ref 0, zj dr, zj wy, zj st, zj hd, zp (a0 + 73), zj nm, zp (a0 + 74), zp (a0 + 75), zp (a0 + 76), zj ar, zj hn, zp (a0 + 77), zj pk, zp D, zj tl])) (h : ((zrg wy ∧ zrg 4) ∧ ((4 ≤ wy → ((zrg wy ∧ zrg 4) ∧ ((wy = 4 → Zr sc 123 46 [zp a0, zj x1, zj (x1 + hd), zj 8] [] w ov w' c s) ∧ (¬ (wy = 4) → ((zrg (x1 + hd) ∧ zrg 128) ∧ ((128 < (x1 + hd) → Zr sc 123 46 [zp a0, zj x1, zj (x1 + hd), zj 128] [] w ov w' c s) ∧ (¬ (128 < (x1 + hd)) → Zr sc 123 46 [zp a0, zj x1, zj (x1 + hd), zj 8] [] w ov w' c s))))))) ∧ (¬ (4 ≤ wy) → Zr sc 123 46 [zp a0, zj x1, zj (x1 + hd), zj st] [] w ov w' c s)))) : Zr sc 123 0 [zp a0, zj x1, zmk, zmk] [] w ov w' c s := by
  refine Zr_st (q := (1, [zp a0, zj x1, zmk, zmk], [zj x1])) rfl rfl rfl ?_
  show Zr sc 123 1 [zp a0, zj x1, zmk, zmk] [zj x1] w ov w' c s
  refine Zr_st (q := (2, [zp a0, zj x1, zmk, zmk], [zp a0, zj x1])) rfl rfl rfl ?_
  show Zr sc 123 2 [zp a0, zj x1, zmk, zmk] [zp a0, zj x1] w ov w' c s
  refine rl_gf rfl L0 rfl rfl ?_
  show Zr sc 123 5 [zp a0, zj x1, zmk, zmk] [zj hd, zj x1] w ov w' c s
  refine rl_add rfl ?_
  show Zr sc 123 6 [zp a0, zj x1, zmk, zmk] [zj (x1 + hd)] w ov w' c s
  refine Zr_st (q := (7, [zp a0, zj x1, zj (x1 + hd), zmk], [])) rfl rfl rfl ?_
  show Zr sc 123 7 [zp a0, zj x1, zj (x1 + hd), zmk] [] w ov w' c s
  refine Zr_st (q := (8, [zp a0, zj x1, zj (x1 + hd), zmk], [zp a0])) rfl rfl rfl ?_
  show Zr sc 123 8 [zp a0, zj x1, zj (x1 + hd), zmk] [zp a0] w ov w' c s
  refine rl_gf rfl L0 rfl rfl ?_
  show Zr sc 123 11 [zp a0, zj x1, zj (x1 + hd), zmk] [zj wy] w ov w' c s
  refine rl_ic rfl ?_
  show Zr sc 123 12 [zp a0, zj x1, zj (x1 + hd), zmk] [zj 4, zj wy] w ov w' c s
  obtain ⟨hr_1, h⟩ := h
  refine Zr_br (p := 4 ≤ wy) rfl rfl (zcmp_j (cnd := .ge) hr_1.1 hr_1.2) (fun hp => ?_) (fun hp => ?_)
  · replace h := h.1 hp
    show Zr sc 123 22 [zp a0, zj x1, zj (x1 + hd), zmk] [] w ov w' c s
    refine Zr_st (q := (23, [zp a0, zj x1, zj (x1 + hd), zmk], [zp a0])) rfl rfl rfl ?_
    show Zr sc 123 23 [zp a0, zj x1, zj (x1 + hd), zmk] [zp a0] w ov w' c s
    refine rl_gf rfl L0 rfl rfl ?_
    show Zr sc 123 26 [zp a0, zj x1, zj (x1 + hd), zmk] [zj wy] w ov w' c s
    refine rl_ic rfl ?_
    show Zr sc 123 27 [zp a0, zj x1, zj (x1 + hd), zmk] [zj 4, zj wy] w ov w' c s
    obtain ⟨hr_2, h⟩ := h
    refine Zr_br (p := wy = 4) rfl rfl (zcmp_j (cnd := .eq) hr_2.1 hr_2.2) (fun hp => ?_) (fun hp => ?_)
    · replace h := h.1 hp
      show Zr sc 123 37 [zp a0, zj x1, zj (x1 + hd), zmk] [] w ov w' c s
      refine rl_bi rfl (by decide) ?_
      show Zr sc 123 39 [zp a0, zj x1, zj (x1 + hd), zmk] [zj 8] w ov w' c s
      refine Zr_st (q := (45, [zp a0, zj x1, zj (x1 + hd), zmk], [zj 8])) rfl rfl rfl ?_
      show Zr sc 123 45 [zp a0, zj x1, zj (x1 + hd), zmk] [zj 8] w ov w' c s
      refine Zr_st (q := (46, [zp a0, zj x1, zj (x1 + hd), zj 8], [])) rfl rfl rfl ?_
      show Zr sc 123 46 [zp a0, zj x1, zj (x1 + hd), zj 8] [] w ov w' c s
      exact h
    · replace h := h.2 hp
      show Zr sc 123 30 [zp a0, zj x1, zj (x1 + hd), zmk] [] w ov w' c s
      refine Zr_st (q := (31, [zp a0, zj x1, zj (x1 + hd), zmk], [zj (x1 + hd)])) rfl rfl rfl ?_
      show Zr sc 123 31 [zp a0, zj x1, zj (x1 + hd), zmk] [zj (x1 + hd)] w ov w' c s
      refine rl_si rfl (by decide) ?_
      show Zr sc 123 34 [zp a0, zj x1, zj (x1 + hd), zmk] [zj 128, zj (x1 + hd)] w ov w' c s
      obtain ⟨hr_3, h⟩ := h
      refine Zr_br (p := 128 < (x1 + hd)) rfl rfl (zcmp_j (cnd := .gt) hr_3.1 hr_3.2) (fun hp => ?_) (fun hp => ?_)
      · replace h := h.1 hp
        show Zr sc 123 42 [zp a0, zj x1, zj (x1 + hd), zmk] [] w ov w' c s
        refine rl_si rfl (by decide) ?_
        show Zr sc 123 45 [zp a0, zj x1, zj (x1 + hd), zmk] [zj 128] w ov w' c s
        refine Zr_st (q := (46, [zp a0, zj x1, zj (x1 + hd), zj 128], [])) rfl rfl rfl ?_
        show Zr sc 123 46 [zp a0, zj x1, zj (x1 + hd), zj 128] [] w ov w' c s
        exact h
      · replace h := h.2 hp
        show Zr sc 123 37 [zp a0, zj x1, zj (x1 + hd), zmk] [] w ov w' c s
        refine rl_bi rfl (by decide) ?_
        show Zr sc 123 39 [zp a0, zj x1, zj (x1 + hd), zmk] [zj 8] w ov w' c s
        refine Zr_st (q := (45, [zp a0, zj x1, zj (x1 + hd), zmk], [zj 8])) rfl rfl rfl ?_
        show Zr sc 123 45 [zp a0, zj x1, zj (x1 + hd), zmk] [zj 8] w ov w' c s
        refine Zr_st (q := (46, [zp a0, zj x1, zj (x1 + hd), zj 8], [])) rfl rfl rfl ?_
        show Zr sc 123 46 [zp a0, zj x1, zj (x1 + hd), zj 8] [] w ov w' c s
        exact h
  · replace h := h.2 hp
    show Zr sc 123 15 [zp a0, zj x1, zj (x1 + hd), zmk] [] w ov w' c s
    refine Zr_st (q := (16, [zp a0, zj x1, zj (x1 + hd), zmk], [zp a0])) rfl rfl rfl ?_
    show Zr sc 123 16 [zp a0, zj x1, zj (x1 + hd), zmk] [zp a0] w ov w' c s
    refine rl_gf rfl L0 rfl rfl ?_
    show Zr sc 123 19 [zp a0, zj x1, zj (x1 + hd), zmk] [zj st] w ov w' c s
    refine Zr_st (q := (45, [zp a0, zj x1, zj (x1 + hd), zmk], [zj st])) rfl rfl rfl ?_
    show Zr sc 123 45 [zp a0, zj x1, zj (x1 + hd), zmk] [zj st] w ov w' c s
    refine Zr_st (q := (46, [zp a0, zj x1, zj (x1 + hd), zj st], [])) rfl rfl rfl ?_
    show Zr sc 123 46 [zp a0, zj x1, zj (x1 + hd), zj st] [] w ov w' c s
    exact h
set_option maxRecDepth 100000 in
theorem V123_46 {sc : List Value} {w w' : List zE} {ov : Option Value} {c s : Nat} {a0 : Nat} {x1 : Int} {x2 : Int} {x3 : Int} {dr : Int} {wy : Int} {st : Int} {hd : Int} {nm : Int} {ar : Int} {hn : Int} {pk : Int} {D : Nat} {tl : Int} (L0 : w[a0]? = some (zob 7 [zp (a0 + 1), .ref 0, zj dr, zj wy, zj st, zj hd, zp (a0 + 73), zj nm, zp (a0 + 74), zp (a0 + 75), zp (a0 + 76), zj ar, zj hn, zp (a0 + 77), zj pk, zp D, zj tl])) (h : ((zrg x3 ∧ zrg x2) ∧ ((x2 ≤ x3 → (ov = some (zj x3) ∧ w' = w ∧ c = 0 ∧ s = 0)) ∧ (¬ (x2 ≤ x3) → ((zrg wy ∧ zrg 4) ∧ ((4 ≤ wy → ((zrg wy ∧ zrg 4) ∧ ((wy = 4 → Zr sc 123 46 [zp a0, zj x1, zj x2, zj (x3 + x3)] [] w ov w' c s) ∧ (¬ (wy = 4) → ((zrg x2 ∧ zrg 128) ∧ ((128 < x2 → Zr sc 123 46 [zp a0, zj x1, zj x2, zj (x3 + 128)] [] w ov w' c s) ∧ (¬ (128 < x2) → Zr sc 123 46 [zp a0, zj x1, zj x2, zj (x3 + x3)] [] w ov w' c s))))))) ∧ (¬ (4 ≤ wy) → Zr sc 123 46 [zp a0, zj x1, zj x2, zj (x3 + st)] [] w ov w' c s))))))) : Zr sc 123 46 [zp a0, zj x1, zj x2, zj x3] [] w ov w' c s := by
  refine Zr_st (q := (47, [zp a0, zj x1, zj x2, zj x3], [zj x3])) rfl rfl rfl ?_
  show Zr sc 123 47 [zp a0, zj x1, zj x2, zj x3] [zj x3] w ov w' c s
  refine Zr_st (q := (48, [zp a0, zj x1, zj x2, zj x3], [zj x2, zj x3])) rfl rfl rfl ?_
  show Zr sc 123 48 [zp a0, zj x1, zj x2, zj x3] [zj x2, zj x3] w ov w' c s
  obtain ⟨hr_1, h⟩ := h
  refine Zr_br (p := x2 ≤ x3) rfl rfl (zcmp_j (cnd := .ge) hr_1.1 hr_1.2) (fun hp => ?_) (fun hp => ?_)
  · replace h := h.1 hp
    show Zr sc 123 94 [zp a0, zj x1, zj x2, zj x3] [] w ov w' c s
    refine Zr_st (q := (95, [zp a0, zj x1, zj x2, zj x3], [zj x3])) rfl rfl rfl ?_
    show Zr sc 123 95 [zp a0, zj x1, zj x2, zj x3] [zj x3] w ov w' c s
    obtain ⟨h1, h2, h3, h4⟩ := h
    subst h1; subst h2; subst h3; subst h4
    exact Zr_ret (ins := .ireturn) rfl rfl
  · replace h := h.2 hp
    show Zr sc 123 51 [zp a0, zj x1, zj x2, zj x3] [] w ov w' c s
    refine Zr_st (q := (52, [zp a0, zj x1, zj x2, zj x3], [zj x3])) rfl rfl rfl ?_
    show Zr sc 123 52 [zp a0, zj x1, zj x2, zj x3] [zj x3] w ov w' c s
    refine Zr_st (q := (53, [zp a0, zj x1, zj x2, zj x3], [zp a0, zj x3])) rfl rfl rfl ?_
    show Zr sc 123 53 [zp a0, zj x1, zj x2, zj x3] [zp a0, zj x3] w ov w' c s
    refine rl_gf rfl L0 rfl rfl ?_
    show Zr sc 123 56 [zp a0, zj x1, zj x2, zj x3] [zj wy, zj x3] w ov w' c s
    refine rl_ic rfl ?_
    show Zr sc 123 57 [zp a0, zj x1, zj x2, zj x3] [zj 4, zj wy, zj x3] w ov w' c s
    obtain ⟨hr_2, h⟩ := h
    refine Zr_br (p := 4 ≤ wy) rfl rfl (zcmp_j (cnd := .ge) hr_2.1 hr_2.2) (fun hp => ?_) (fun hp => ?_)
    · replace h := h.1 hp
      show Zr sc 123 67 [zp a0, zj x1, zj x2, zj x3] [zj x3] w ov w' c s
      refine Zr_st (q := (68, [zp a0, zj x1, zj x2, zj x3], [zp a0, zj x3])) rfl rfl rfl ?_
      show Zr sc 123 68 [zp a0, zj x1, zj x2, zj x3] [zp a0, zj x3] w ov w' c s
      refine rl_gf rfl L0 rfl rfl ?_
      show Zr sc 123 71 [zp a0, zj x1, zj x2, zj x3] [zj wy, zj x3] w ov w' c s
      refine rl_ic rfl ?_
      show Zr sc 123 72 [zp a0, zj x1, zj x2, zj x3] [zj 4, zj wy, zj x3] w ov w' c s
      obtain ⟨hr_3, h⟩ := h
      refine Zr_br (p := wy = 4) rfl rfl (zcmp_j (cnd := .eq) hr_3.1 hr_3.2) (fun hp => ?_) (fun hp => ?_)
      · replace h := h.1 hp
        show Zr sc 123 82 [zp a0, zj x1, zj x2, zj x3] [zj x3] w ov w' c s
        refine Zr_st (q := (83, [zp a0, zj x1, zj x2, zj x3], [zj x3, zj x3])) rfl rfl rfl ?_
        show Zr sc 123 83 [zp a0, zj x1, zj x2, zj x3] [zj x3, zj x3] w ov w' c s
        refine Zr_st (q := (89, [zp a0, zj x1, zj x2, zj x3], [zj x3, zj x3])) rfl rfl rfl ?_
        show Zr sc 123 89 [zp a0, zj x1, zj x2, zj x3] [zj x3, zj x3] w ov w' c s
        refine rl_add rfl ?_
        show Zr sc 123 90 [zp a0, zj x1, zj x2, zj x3] [zj (x3 + x3)] w ov w' c s
        refine Zr_st (q := (91, [zp a0, zj x1, zj x2, zj (x3 + x3)], [])) rfl rfl rfl ?_
        show Zr sc 123 91 [zp a0, zj x1, zj x2, zj (x3 + x3)] [] w ov w' c s
        refine Zr_st (q := (46, [zp a0, zj x1, zj x2, zj (x3 + x3)], [])) rfl rfl rfl ?_
        show Zr sc 123 46 [zp a0, zj x1, zj x2, zj (x3 + x3)] [] w ov w' c s
        exact h
      · replace h := h.2 hp
        show Zr sc 123 75 [zp a0, zj x1, zj x2, zj x3] [zj x3] w ov w' c s
        refine Zr_st (q := (76, [zp a0, zj x1, zj x2, zj x3], [zj x2, zj x3])) rfl rfl rfl ?_
        show Zr sc 123 76 [zp a0, zj x1, zj x2, zj x3] [zj x2, zj x3] w ov w' c s
        refine rl_si rfl (by decide) ?_
        show Zr sc 123 79 [zp a0, zj x1, zj x2, zj x3] [zj 128, zj x2, zj x3] w ov w' c s
        obtain ⟨hr_4, h⟩ := h
        refine Zr_br (p := 128 < x2) rfl rfl (zcmp_j (cnd := .gt) hr_4.1 hr_4.2) (fun hp => ?_) (fun hp => ?_)
        · replace h := h.1 hp
          show Zr sc 123 86 [zp a0, zj x1, zj x2, zj x3] [zj x3] w ov w' c s
          refine rl_si rfl (by decide) ?_
          show Zr sc 123 89 [zp a0, zj x1, zj x2, zj x3] [zj 128, zj x3] w ov w' c s
          refine rl_add rfl ?_
          show Zr sc 123 90 [zp a0, zj x1, zj x2, zj x3] [zj (x3 + 128)] w ov w' c s
          refine Zr_st (q := (91, [zp a0, zj x1, zj x2, zj (x3 + 128)], [])) rfl rfl rfl ?_
          show Zr sc 123 91 [zp a0, zj x1, zj x2, zj (x3 + 128)] [] w ov w' c s
          refine Zr_st (q := (46, [zp a0, zj x1, zj x2, zj (x3 + 128)], [])) rfl rfl rfl ?_
          show Zr sc 123 46 [zp a0, zj x1, zj x2, zj (x3 + 128)] [] w ov w' c s
          exact h
        · replace h := h.2 hp
          show Zr sc 123 82 [zp a0, zj x1, zj x2, zj x3] [zj x3] w ov w' c s
          refine Zr_st (q := (83, [zp a0, zj x1, zj x2, zj x3], [zj x3, zj x3])) rfl rfl rfl ?_
          show Zr sc 123 83 [zp a0, zj x1, zj x2, zj x3] [zj x3, zj x3] w ov w' c s
          refine Zr_st (q := (89, [zp a0, zj x1, zj x2, zj x3], [zj x3, zj x3])) rfl rfl rfl ?_
          show Zr sc 123 89 [zp a0, zj x1, zj x2, zj x3] [zj x3, zj x3] w ov w' c s
          refine rl_add rfl ?_
          show Zr sc 123 90 [zp a0, zj x1, zj x2, zj x3] [zj (x3 + x3)] w ov w' c s
          refine Zr_st (q := (91, [zp a0, zj x1, zj x2, zj (x3 + x3)], [])) rfl rfl rfl ?_
          show Zr sc 123 91 [zp a0, zj x1, zj x2, zj (x3 + x3)] [] w ov w' c s
          refine Zr_st (q := (46, [zp a0, zj x1, zj x2, zj (x3 + x3)], [])) rfl rfl rfl ?_
          show Zr sc 123 46 [zp a0, zj x1, zj x2, zj (x3 + x3)] [] w ov w' c s
          exact h
    · replace h := h.2 hp
      show Zr sc 123 60 [zp a0, zj x1, zj x2, zj x3] [zj x3] w ov w' c s
      refine Zr_st (q := (61, [zp a0, zj x1, zj x2, zj x3], [zp a0, zj x3])) rfl rfl rfl ?_
      show Zr sc 123 61 [zp a0, zj x1, zj x2, zj x3] [zp a0, zj x3] w ov w' c s
      refine rl_gf rfl L0 rfl rfl ?_
      show Zr sc 123 64 [zp a0, zj x1, zj x2, zj x3] [zj st, zj x3] w ov w' c s
      refine Zr_st (q := (89, [zp a0, zj x1, zj x2, zj x3], [zj st, zj x3])) rfl rfl rfl ?_
      show Zr sc 123 89 [zp a0, zj x1, zj x2, zj x3] [zj st, zj x3] w ov w' c s
      refine rl_add rfl ?_
      show Zr sc 123 90 [zp a0, zj x1, zj x2, zj x3] [zj (x3 + st)] w ov w' c s
      refine Zr_st (q := (91, [zp a0, zj x1, zj x2, zj (x3 + st)], [])) rfl rfl rfl ?_
      show Zr sc 123 91 [zp a0, zj x1, zj x2, zj (x3 + st)] [] w ov w' c s
      refine Zr_st (q := (46, [zp a0, zj x1, zj x2, zj (x3 + st)], [])) rfl rfl rfl ?_
      show Zr sc 123 46 [zp a0, zj x1, zj x2, zj (x3 + st)] [] w ov w' c s
      exact h

-- HeapwrightLabLaw$Pool.ask(I)Z
set_option maxRecDepth 100000 in
theorem V124_0 {sc : List Value} {w w' : List zE} {ov : Option Value} {c s : Nat} {a0 : Nat} {x1 : Int} {dr : Int} {wy : Int} {st : Int} {hd : Int} {nm : Int} {ar : Int} {hn : Int} {pk : Int} {D : Nat} {tl : Int} {sz : List Int} {rm : List Int} {am : List Int} (L0 : w[a0]? = some (zob 7 [zp (a0 + 1), .ref 0, zj dr, zj wy, zj st, zj hd, zp (a0 + 73), zj nm, zp (a0 + 74), zp (a0 + 75), zp (a0 + 76), zj ar, zj hn, zp (a0 + 77), zj pk, zp D, zj tl])) (L74 : w[(a0 + 74)]? = some (za sz)) (L75 : w[(a0 + 75)]? = some (za rm)) (L76 : w[(a0 + 76)]? = some (za am)) (h : (((0 : Int) ≤ nm ∧ nm < (sz.length : Int) ∧ nm ≤ (2147483647 : Int)) ∧ (∃ r_4 : Int, Zc sc 123 [zp a0, zj x1] ((w.set a0 (zob 7 [zp (a0 + 1), .ref 0, zj dr, zj wy, zj st, zj hd, zp (a0 + 73), zj (nm + 1), zp (a0 + 74), zp (a0 + 75), zp (a0 + 76), zj ar, zj hn, zp (a0 + 77), zj pk, zp D, zj tl])).set (a0 + 74) (za (zsi sz nm x1))) (some (zj r_4)) ((w.set a0 (zob 7 [zp (a0 + 1), .ref 0, zj dr, zj wy, zj st, zj hd, zp (a0 + 73), zj (nm + 1), zp (a0 + 74), zp (a0 + 75), zp (a0 + 76), zj ar, zj hn, zp (a0 + 77), zj pk, zp D, zj tl])).set (a0 + 74) (za (zsi sz nm x1))) 0 0 ∧ (((0 : Int) ≤ nm ∧ nm < (rm.length : Int) ∧ nm ≤ (2147483647 : Int)) ∧ (((0 : Int) ≤ nm ∧ nm < (am.length : Int) ∧ nm ≤ (2147483647 : Int)) ∧ (((0 : Int) ≤ nm ∧ nm < ((zsi rm nm r_4).length : Int) ∧ nm ≤ (2147483647 : Int)) ∧ (∃ r_10 : Int, ∃ w_8 : List zE, ∃ c_11 s_12 c_13 s_14 : Nat, Zc sc 125 [zp a0, zj (zgi (zsi rm nm r_4) nm)] ((((w.set a0 (zob 7 [zp (a0 + 1), .ref 0, zj dr, zj wy, zj st, zj hd, zp (a0 + 73), zj (nm + 1), zp (a0 + 74), zp (a0 + 75), zp (a0 + 76), zj ar, zj hn, zp (a0 + 77), zj pk, zp D, zj tl])).set (a0 + 74) (za (zsi sz nm x1))).set (a0 + 75) (za (zsi rm nm r_4))).set (a0 + 76) (za (zsi am nm ar))) (some (zj r_10)) w_8 c_11 s_12 ∧ (c = c_11 + c_13 ∧ s = s_12 + s_14) ∧ ((zrg r_10) ∧ ((0 ≤ r_10 → (∃ dr_18 : Int, ∃ wy_19 : Int, ∃ st_20 : Int, ∃ hd_21 : Int, ∃ nm_22 : Int, ∃ ar_23 : Int, ∃ hn_24 : Int, ∃ pk_25 : Int, ∃ D_26 : Nat, ∃ tl_27 : Int, w_8[a0]? = some (zob 7 [zp (a0 + 1), .ref 0, zj dr_18, zj wy_19, zj st_20, zj hd_21, zp (a0 + 73), zj nm_22, zp (a0 + 74), zp (a0 + 75), zp (a0 + 76), zj ar_23, zj hn_24, zp (a0 + 77), zj pk_25, zp D_26, zj tl_27]) ∧ (∃ l_30 : List Int, w_8[(a0 + 75)]? = some (za l_30) ∧ (((0 : Int) ≤ nm ∧ nm < (l_30.length : Int) ∧ nm ≤ (2147483647 : Int)) ∧ (∃ w_31 : List zE, Zc sc 131 [zp a0, zj r_10, zj (zgi l_30 nm), zj nm] w_8 none w_31 0 0 ∧ Zr sc 124 80 [zp a0, zj x1, zj nm, zj r_10] [] w_31 ov w' c_13 s_14))))) ∧ (¬ (0 ≤ r_10) → (∃ dr_34 : Int, ∃ wy_35 : Int, ∃ st_36 : Int, ∃ hd_37 : Int, ∃ nm_38 : Int, ∃ ar_39 : Int, ∃ hn_40 : Int, ∃ pk_41 : Int, ∃ D_42 : Nat, ∃ tl_43 : Int, w_8[a0]? = some (zob 7 [zp (a0 + 1), .ref 0, zj dr_34, zj wy_35, zj st_36, zj hd_37, zp (a0 + 73), zj nm_38, zp (a0 + 74), zp (a0 + 75), zp (a0 + 76), zj ar_39, zj hn_40, zp (a0 + 77), zj pk_41, zp D_42, zj tl_43]) ∧ (∃ l_46 : List Int, w_8[(a0 + 77)]? = some (za l_46) ∧ (((0 : Int) ≤ 4 ∧ 4 < (l_46.length : Int) ∧ 4 ≤ (2147483647 : Int)) ∧ (((0 : Int) ≤ 4 ∧ 4 < (l_46.length : Int) ∧ 4 ≤ (2147483647 : Int)) ∧ Zr sc 124 80 [zp a0, zj x1, zj nm, zj r_10] [] (w_8.set (a0 + 77) (za (zsi l_46 4 ((zgi l_46 4) + 1)))) ov w' c_13 s_14)))))))))))))) : Zr sc 124 0 [zp a0, zj x1, zmk, zmk] [] w ov w' c s := by
  refine Zr_st (q := (1, [zp a0, zj x1, zmk, zmk], [zp a0])) rfl rfl rfl ?_
  show Zr sc 124 1 [zp a0, zj x1, zmk, zmk] [zp a0] w ov w' c s
  refine Zr_st (q := (2, [zp a0, zj x1, zmk, zmk], [zp a0, zp a0])) rfl rfl rfl ?_
  show Zr sc 124 2 [zp a0, zj x1, zmk, zmk] [zp a0, zp a0] w ov w' c s
  refine rl_gf rfl L0 rfl rfl ?_
  show Zr sc 124 5 [zp a0, zj x1, zmk, zmk] [zj nm, zp a0] w ov w' c s
  refine Zr_st (q := (6, [zp a0, zj x1, zmk, zmk], [zj nm, zp a0, zj nm])) rfl rfl rfl ?_
  show Zr sc 124 6 [zp a0, zj x1, zmk, zmk] [zj nm, zp a0, zj nm] w ov w' c s
  refine rl_ic rfl ?_
  show Zr sc 124 7 [zp a0, zj x1, zmk, zmk] [zj 1, zj nm, zp a0, zj nm] w ov w' c s
  refine rl_add rfl ?_
  show Zr sc 124 8 [zp a0, zj x1, zmk, zmk] [zj (nm + 1), zp a0, zj nm] w ov w' c s
  refine rl_pf rfl L0 rfl rfl rfl ?_
  show Zr sc 124 11 [zp a0, zj x1, zmk, zmk] [zj nm] (w.set a0 (zob 7 [zp (a0 + 1), .ref 0, zj dr, zj wy, zj st, zj hd, zp (a0 + 73), zj (nm + 1), zp (a0 + 74), zp (a0 + 75), zp (a0 + 76), zj ar, zj hn, zp (a0 + 77), zj pk, zp D, zj tl])) ov w' c s
  refine Zr_st (q := (12, [zp a0, zj x1, zj nm, zmk], [])) rfl rfl rfl ?_
  show Zr sc 124 12 [zp a0, zj x1, zj nm, zmk] [] (w.set a0 (zob 7 [zp (a0 + 1), .ref 0, zj dr, zj wy, zj st, zj hd, zp (a0 + 73), zj (nm + 1), zp (a0 + 74), zp (a0 + 75), zp (a0 + 76), zj ar, zj hn, zp (a0 + 77), zj pk, zp D, zj tl])) ov w' c s
  refine Zr_st (q := (13, [zp a0, zj x1, zj nm, zmk], [zp a0])) rfl rfl rfl ?_
  show Zr sc 124 13 [zp a0, zj x1, zj nm, zmk] [zp a0] (w.set a0 (zob 7 [zp (a0 + 1), .ref 0, zj dr, zj wy, zj st, zj hd, zp (a0 + 73), zj (nm + 1), zp (a0 + 74), zp (a0 + 75), zp (a0 + 76), zj ar, zj hn, zp (a0 + 77), zj pk, zp D, zj tl])) ov w' c s
  refine rl_gf rfl (zw_s L0) rfl rfl ?_
  show Zr sc 124 16 [zp a0, zj x1, zj nm, zmk] [zp (a0 + 74)] (w.set a0 (zob 7 [zp (a0 + 1), .ref 0, zj dr, zj wy, zj st, zj hd, zp (a0 + 73), zj (nm + 1), zp (a0 + 74), zp (a0 + 75), zp (a0 + 76), zj ar, zj hn, zp (a0 + 77), zj pk, zp D, zj tl])) ov w' c s
  refine Zr_st (q := (17, [zp a0, zj x1, zj nm, zmk], [zj nm, zp (a0 + 74)])) rfl rfl rfl ?_
  show Zr sc 124 17 [zp a0, zj x1, zj nm, zmk] [zj nm, zp (a0 + 74)] (w.set a0 (zob 7 [zp (a0 + 1), .ref 0, zj dr, zj wy, zj st, zj hd, zp (a0 + 73), zj (nm + 1), zp (a0 + 74), zp (a0 + 75), zp (a0 + 76), zj ar, zj hn, zp (a0 + 77), zj pk, zp D, zj tl])) ov w' c s
  refine Zr_st (q := (18, [zp a0, zj x1, zj nm, zmk], [zj x1, zj nm, zp (a0 + 74)])) rfl rfl rfl ?_
  show Zr sc 124 18 [zp a0, zj x1, zj nm, zmk] [zj x1, zj nm, zp (a0 + 74)] (w.set a0 (zob 7 [zp (a0 + 1), .ref 0, zj dr, zj wy, zj st, zj hd, zp (a0 + 73), zj (nm + 1), zp (a0 + 74), zp (a0 + 75), zp (a0 + 76), zj ar, zj hn, zp (a0 + 77), zj pk, zp D, zj tl])) ov w' c s
  obtain ⟨hi_1, h⟩ := h
  refine rl_is rfl (zw_o (by omega) L74) hi_1.1 hi_1.2.1 hi_1.2.2 ?_
  show Zr sc 124 19 [zp a0, zj x1, zj nm, zmk] [] ((w.set a0 (zob 7 [zp (a0 + 1), .ref 0, zj dr, zj wy, zj st, zj hd, zp (a0 + 73), zj (nm + 1), zp (a0 + 74), zp (a0 + 75), zp (a0 + 76), zj ar, zj hn, zp (a0 + 77), zj pk, zp D, zj tl])).set (a0 + 74) (za (zsi sz nm x1))) ov w' c s
  refine Zr_st (q := (20, [zp a0, zj x1, zj nm, zmk], [zp a0])) rfl rfl rfl ?_
  show Zr sc 124 20 [zp a0, zj x1, zj nm, zmk] [zp a0] ((w.set a0 (zob 7 [zp (a0 + 1), .ref 0, zj dr, zj wy, zj st, zj hd, zp (a0 + 73), zj (nm + 1), zp (a0 + 74), zp (a0 + 75), zp (a0 + 76), zj ar, zj hn, zp (a0 + 77), zj pk, zp D, zj tl])).set (a0 + 74) (za (zsi sz nm x1))) ov w' c s
  refine rl_gf rfl (zw_o (by omega) (zw_s L0)) rfl rfl ?_
  show Zr sc 124 23 [zp a0, zj x1, zj nm, zmk] [zp (a0 + 75)] ((w.set a0 (zob 7 [zp (a0 + 1), .ref 0, zj dr, zj wy, zj st, zj hd, zp (a0 + 73), zj (nm + 1), zp (a0 + 74), zp (a0 + 75), zp (a0 + 76), zj ar, zj hn, zp (a0 + 77), zj pk, zp D, zj tl])).set (a0 + 74) (za (zsi sz nm x1))) ov w' c s
  refine Zr_st (q := (24, [zp a0, zj x1, zj nm, zmk], [zj nm, zp (a0 + 75)])) rfl rfl rfl ?_
  show Zr sc 124 24 [zp a0, zj x1, zj nm, zmk] [zj nm, zp (a0 + 75)] ((w.set a0 (zob 7 [zp (a0 + 1), .ref 0, zj dr, zj wy, zj st, zj hd, zp (a0 + 73), zj (nm + 1), zp (a0 + 74), zp (a0 + 75), zp (a0 + 76), zj ar, zj hn, zp (a0 + 77), zj pk, zp D, zj tl])).set (a0 + 74) (za (zsi sz nm x1))) ov w' c s
  refine Zr_st (q := (25, [zp a0, zj x1, zj nm, zmk], [zp a0, zj nm, zp (a0 + 75)])) rfl rfl rfl ?_
  show Zr sc 124 25 [zp a0, zj x1, zj nm, zmk] [zp a0, zj nm, zp (a0 + 75)] ((w.set a0 (zob 7 [zp (a0 + 1), .ref 0, zj dr, zj wy, zj st, zj hd, zp (a0 + 73), zj (nm + 1), zp (a0 + 74), zp (a0 + 75), zp (a0 + 76), zj ar, zj hn, zp (a0 + 77), zj pk, zp D, zj tl])).set (a0 + 74) (za (zsi sz nm x1))) ov w' c s
  refine Zr_st (q := (26, [zp a0, zj x1, zj nm, zmk], [zj x1, zp a0, zj nm, zp (a0 + 75)])) rfl rfl rfl ?_
  show Zr sc 124 26 [zp a0, zj x1, zj nm, zmk] [zj x1, zp a0, zj nm, zp (a0 + 75)] ((w.set a0 (zob 7 [zp (a0 + 1), .ref 0, zj dr, zj wy, zj st, zj hd, zp (a0 + 73), zj (nm + 1), zp (a0 + 74), zp (a0 + 75), zp (a0 + 76), zj ar, zj hn, zp (a0 + 77), zj pk, zp D, zj tl])).set (a0 + 74) (za (zsi sz nm x1))) ov w' c s
  obtain ⟨r_4, hk_9, h⟩ := h
  refine rn_cal0 (ins := .invokevirtual 127) (rest := [zj nm, zp (a0 + 75)]) rfl rfl rfl rfl (zinv_v (fs := _) (zw_o (by omega) (zw_s L0)) rfl rfl rfl rfl) rfl rfl hk_9 ?_
  show Zr sc 124 29 [zp a0, zj x1, zj nm, zmk] [zj r_4, zj nm, zp (a0 + 75)] ((w.set a0 (zob 7 [zp (a0 + 1), .ref 0, zj dr, zj wy, zj st, zj hd, zp (a0 + 73), zj (nm + 1), zp (a0 + 74), zp (a0 + 75), zp (a0 + 76), zj ar, zj hn, zp (a0 + 77), zj pk, zp D, zj tl])).set (a0 + 74) (za (zsi sz nm x1))) ov w' c s
  obtain ⟨hi_5, h⟩ := h
  refine rl_is rfl (zw_o (by omega) (zw_o (by omega) L75)) hi_5.1 hi_5.2.1 hi_5.2.2 ?_
  show Zr sc 124 30 [zp a0, zj x1, zj nm, zmk] [] (((w.set a0 (zob 7 [zp (a0 + 1), .ref 0, zj dr, zj wy, zj st, zj hd, zp (a0 + 73), zj (nm + 1), zp (a0 + 74), zp (a0 + 75), zp (a0 + 76), zj ar, zj hn, zp (a0 + 77), zj pk, zp D, zj tl])).set (a0 + 74) (za (zsi sz nm x1))).set (a0 + 75) (za (zsi rm nm r_4))) ov w' c s
  refine Zr_st (q := (31, [zp a0, zj x1, zj nm, zmk], [zp a0])) rfl rfl rfl ?_
  show Zr sc 124 31 [zp a0, zj x1, zj nm, zmk] [zp a0] (((w.set a0 (zob 7 [zp (a0 + 1), .ref 0, zj dr, zj wy, zj st, zj hd, zp (a0 + 73), zj (nm + 1), zp (a0 + 74), zp (a0 + 75), zp (a0 + 76), zj ar, zj hn, zp (a0 + 77), zj pk, zp D, zj tl])).set (a0 + 74) (za (zsi sz nm x1))).set (a0 + 75) (za (zsi rm nm r_4))) ov w' c s
  refine rl_gf rfl (zw_o (by omega) (zw_o (by omega) (zw_s L0))) rfl rfl ?_
  show Zr sc 124 34 [zp a0, zj x1, zj nm, zmk] [zp (a0 + 76)] (((w.set a0 (zob 7 [zp (a0 + 1), .ref 0, zj dr, zj wy, zj st, zj hd, zp (a0 + 73), zj (nm + 1), zp (a0 + 74), zp (a0 + 75), zp (a0 + 76), zj ar, zj hn, zp (a0 + 77), zj pk, zp D, zj tl])).set (a0 + 74) (za (zsi sz nm x1))).set (a0 + 75) (za (zsi rm nm r_4))) ov w' c s
  refine Zr_st (q := (35, [zp a0, zj x1, zj nm, zmk], [zj nm, zp (a0 + 76)])) rfl rfl rfl ?_
  show Zr sc 124 35 [zp a0, zj x1, zj nm, zmk] [zj nm, zp (a0 + 76)] (((w.set a0 (zob 7 [zp (a0 + 1), .ref 0, zj dr, zj wy, zj st, zj hd, zp (a0 + 73), zj (nm + 1), zp (a0 + 74), zp (a0 + 75), zp (a0 + 76), zj ar, zj hn, zp (a0 + 77), zj pk, zp D, zj tl])).set (a0 + 74) (za (zsi sz nm x1))).set (a0 + 75) (za (zsi rm nm r_4))) ov w' c s
  refine Zr_st (q := (36, [zp a0, zj x1, zj nm, zmk], [zp a0, zj nm, zp (a0 + 76)])) rfl rfl rfl ?_
  show Zr sc 124 36 [zp a0, zj x1, zj nm, zmk] [zp a0, zj nm, zp (a0 + 76)] (((w.set a0 (zob 7 [zp (a0 + 1), .ref 0, zj dr, zj wy, zj st, zj hd, zp (a0 + 73), zj (nm + 1), zp (a0 + 74), zp (a0 + 75), zp (a0 + 76), zj ar, zj hn, zp (a0 + 77), zj pk, zp D, zj tl])).set (a0 + 74) (za (zsi sz nm x1))).set (a0 + 75) (za (zsi rm nm r_4))) ov w' c s
  refine rl_gf rfl (zw_o (by omega) (zw_o (by omega) (zw_s L0))) rfl rfl ?_
  show Zr sc 124 39 [zp a0, zj x1, zj nm, zmk] [zj ar, zj nm, zp (a0 + 76)] (((w.set a0 (zob 7 [zp (a0 + 1), .ref 0, zj dr, zj wy, zj st, zj hd, zp (a0 + 73), zj (nm + 1), zp (a0 + 74), zp (a0 + 75), zp (a0 + 76), zj ar, zj hn, zp (a0 + 77), zj pk, zp D, zj tl])).set (a0 + 74) (za (zsi sz nm x1))).set (a0 + 75) (za (zsi rm nm r_4))) ov w' c s
  obtain ⟨hi_6, h⟩ := h
  refine rl_is rfl (zw_o (by omega) (zw_o (by omega) (zw_o (by omega) L76))) hi_6.1 hi_6.2.1 hi_6.2.2 ?_
  show Zr sc 124 40 [zp a0, zj x1, zj nm, zmk] [] ((((w.set a0 (zob 7 [zp (a0 + 1), .ref 0, zj dr, zj wy, zj st, zj hd, zp (a0 + 73), zj (nm + 1), zp (a0 + 74), zp (a0 + 75), zp (a0 + 76), zj ar, zj hn, zp (a0 + 77), zj pk, zp D, zj tl])).set (a0 + 74) (za (zsi sz nm x1))).set (a0 + 75) (za (zsi rm nm r_4))).set (a0 + 76) (za (zsi am nm ar))) ov w' c s
  refine Zr_st (q := (41, [zp a0, zj x1, zj nm, zmk], [zp a0])) rfl rfl rfl ?_
  show Zr sc 124 41 [zp a0, zj x1, zj nm, zmk] [zp a0] ((((w.set a0 (zob 7 [zp (a0 + 1), .ref 0, zj dr, zj wy, zj st, zj hd, zp (a0 + 73), zj (nm + 1), zp (a0 + 74), zp (a0 + 75), zp (a0 + 76), zj ar, zj hn, zp (a0 + 77), zj pk, zp D, zj tl])).set (a0 + 74) (za (zsi sz nm x1))).set (a0 + 75) (za (zsi rm nm r_4))).set (a0 + 76) (za (zsi am nm ar))) ov w' c s
  refine Zr_st (q := (42, [zp a0, zj x1, zj nm, zmk], [zp a0, zp a0])) rfl rfl rfl ?_
  show Zr sc 124 42 [zp a0, zj x1, zj nm, zmk] [zp a0, zp a0] ((((w.set a0 (zob 7 [zp (a0 + 1), .ref 0, zj dr, zj wy, zj st, zj hd, zp (a0 + 73), zj (nm + 1), zp (a0 + 74), zp (a0 + 75), zp (a0 + 76), zj ar, zj hn, zp (a0 + 77), zj pk, zp D, zj tl])).set (a0 + 74) (za (zsi sz nm x1))).set (a0 + 75) (za (zsi rm nm r_4))).set (a0 + 76) (za (zsi am nm ar))) ov w' c s
  refine rl_gf rfl (zw_o (by omega) (zw_o (by omega) (zw_o (by omega) (zw_s L0)))) rfl rfl ?_
  show Zr sc 124 45 [zp a0, zj x1, zj nm, zmk] [zp (a0 + 75), zp a0] ((((w.set a0 (zob 7 [zp (a0 + 1), .ref 0, zj dr, zj wy, zj st, zj hd, zp (a0 + 73), zj (nm + 1), zp (a0 + 74), zp (a0 + 75), zp (a0 + 76), zj ar, zj hn, zp (a0 + 77), zj pk, zp D, zj tl])).set (a0 + 74) (za (zsi sz nm x1))).set (a0 + 75) (za (zsi rm nm r_4))).set (a0 + 76) (za (zsi am nm ar))) ov w' c s
  refine Zr_st (q := (46, [zp a0, zj x1, zj nm, zmk], [zj nm, zp (a0 + 75), zp a0])) rfl rfl rfl ?_
  show Zr sc 124 46 [zp a0, zj x1, zj nm, zmk] [zj nm, zp (a0 + 75), zp a0] ((((w.set a0 (zob 7 [zp (a0 + 1), .ref 0, zj dr, zj wy, zj st, zj hd, zp (a0 + 73), zj (nm + 1), zp (a0 + 74), zp (a0 + 75), zp (a0 + 76), zj ar, zj hn, zp (a0 + 77), zj pk, zp D, zj tl])).set (a0 + 74) (za (zsi sz nm x1))).set (a0 + 75) (za (zsi rm nm r_4))).set (a0 + 76) (za (zsi am nm ar))) ov w' c s
  obtain ⟨hi_7, h⟩ := h
  refine rl_ia rfl (zw_o (by omega) (zw_s (zw_o (by omega) (zw_o (by omega) L75)))) hi_7.1 hi_7.2.1 hi_7.2.2 ?_
  show Zr sc 124 47 [zp a0, zj x1, zj nm, zmk] [zj (zgi (zsi rm nm r_4) nm), zp a0] ((((w.set a0 (zob 7 [zp (a0 + 1), .ref 0, zj dr, zj wy, zj st, zj hd, zp (a0 + 73), zj (nm + 1), zp (a0 + 74), zp (a0 + 75), zp (a0 + 76), zj ar, zj hn, zp (a0 + 77), zj pk, zp D, zj tl])).set (a0 + 74) (za (zsi sz nm x1))).set (a0 + 75) (za (zsi rm nm r_4))).set (a0 + 76) (za (zsi am nm ar))) ov w' c s
  obtain ⟨r_10, w_8, c_11, s_12, c_13, s_14, hk_9, hc_15, h⟩ := h
  refine rl_cal (ins := .invokevirtual 133) (rest := []) rfl rfl rfl rfl (zinv_v (fs := _) (zw_o (by omega) (zw_o (by omega) (zw_o (by omega) (zw_s L0)))) rfl rfl rfl rfl) rfl rfl hk_9 ?_ hc_15.1 hc_15.2
  show Zr sc 124 50 [zp a0, zj x1, zj nm, zmk] [zj r_10] w_8 ov w' c_13 s_14
  refine Zr_st (q := (51, [zp a0, zj x1, zj nm, zj r_10], [])) rfl rfl rfl ?_
  show Zr sc 124 51 [zp a0, zj x1, zj nm, zj r_10] [] w_8 ov w' c_13 s_14
  refine Zr_st (q := (52, [zp a0, zj x1, zj nm, zj r_10], [zj r_10])) rfl rfl rfl ?_
  show Zr sc 124 52 [zp a0, zj x1, zj nm, zj r_10] [zj r_10] w_8 ov w' c_13 s_14
  obtain ⟨hr_16, h⟩ := h
  refine Zr_b0 (p := 0 ≤ r_10) rfl rfl (zcmp_0 (cnd := .ge) hr_16) (fun hp => ?_) (fun hp => ?_)
  · replace h := h.1 hp
    show Zr sc 124 68 [zp a0, zj x1, zj nm, zj r_10] [] w_8 ov w' c_13 s_14
    refine Zr_st (q := (69, [zp a0, zj x1, zj nm, zj r_10], [zp a0])) rfl rfl rfl ?_
    show Zr sc 124 69 [zp a0, zj x1, zj nm, zj r_10] [zp a0] w_8 ov w' c_13 s_14
    refine Zr_st (q := (70, [zp a0, zj x1, zj nm, zj r_10], [zj r_10, zp a0])) rfl rfl rfl ?_
    show Zr sc 124 70 [zp a0, zj x1, zj nm, zj r_10] [zj r_10, zp a0] w_8 ov w' c_13 s_14
    refine Zr_st (q := (71, [zp a0, zj x1, zj nm, zj r_10], [zp a0, zj r_10, zp a0])) rfl rfl rfl ?_
    show Zr sc 124 71 [zp a0, zj x1, zj nm, zj r_10] [zp a0, zj r_10, zp a0] w_8 ov w' c_13 s_14
    obtain ⟨dr_18, wy_19, st_20, hd_21, nm_22, ar_23, hn_24, pk_25, D_26, tl_27, hw_17, h⟩ := h
    refine rl_gf rfl hw_17 rfl rfl ?_
    show Zr sc 124 74 [zp a0, zj x1, zj nm, zj r_10] [zp (a0 + 75), zj r_10, zp a0] w_8 ov w' c_13 s_14
    refine Zr_st (q := (75, [zp a0, zj x1, zj nm, zj r_10], [zj nm, zp (a0 + 75), zj r_10, zp a0])) rfl rfl rfl ?_
    show Zr sc 124 75 [zp a0, zj x1, zj nm, zj r_10] [zj nm, zp (a0 + 75), zj r_10, zp a0] w_8 ov w' c_13 s_14
    obtain ⟨l_30, hw_29, h⟩ := h
    obtain ⟨hi_28, h⟩ := h
    refine rl_ia rfl hw_29 hi_28.1 hi_28.2.1 hi_28.2.2 ?_
    show Zr sc 124 76 [zp a0, zj x1, zj nm, zj r_10] [zj (zgi l_30 nm), zj r_10, zp a0] w_8 ov w' c_13 s_14
    refine Zr_st (q := (77, [zp a0, zj x1, zj nm, zj r_10], [zj nm, zj (zgi l_30 nm), zj r_10, zp a0])) rfl rfl rfl ?_
    show Zr sc 124 77 [zp a0, zj x1, zj nm, zj r_10] [zj nm, zj (zgi l_30 nm), zj r_10, zp a0] w_8 ov w' c_13 s_14
    obtain ⟨w_31, hk_32, h⟩ := h
    refine rn_cal0 (ins := .invokevirtual 110) (rest := []) rfl rfl rfl rfl (zinv_v (fs := _) hw_17 rfl rfl rfl rfl) rfl rfl hk_32 ?_
    show Zr sc 124 80 [zp a0, zj x1, zj nm, zj r_10] [] w_31 ov w' c_13 s_14
    exact h
  · replace h := h.2 hp
    show Zr sc 124 55 [zp a0, zj x1, zj nm, zj r_10] [] w_8 ov w' c_13 s_14
    refine Zr_st (q := (56, [zp a0, zj x1, zj nm, zj r_10], [zp a0])) rfl rfl rfl ?_
    show Zr sc 124 56 [zp a0, zj x1, zj nm, zj r_10] [zp a0] w_8 ov w' c_13 s_14
    obtain ⟨dr_34, wy_35, st_36, hd_37, nm_38, ar_39, hn_40, pk_41, D_42, tl_43, hw_33, h⟩ := h
    refine rl_gf rfl hw_33 rfl rfl ?_
    show Zr sc 124 59 [zp a0, zj x1, zj nm, zj r_10] [zp (a0 + 77)] w_8 ov w' c_13 s_14
    refine rl_ic rfl ?_
    show Zr sc 124 60 [zp a0, zj x1, zj nm, zj r_10] [zj 4, zp (a0 + 77)] w_8 ov w' c_13 s_14
    refine Zr_st (q := (61, [zp a0, zj x1, zj nm, zj r_10], [zj 4, zp (a0 + 77), zj 4, zp (a0 + 77)])) rfl rfl rfl ?_
    show Zr sc 124 61 [zp a0, zj x1, zj nm, zj r_10] [zj 4, zp (a0 + 77), zj 4, zp (a0 + 77)] w_8 ov w' c_13 s_14
    obtain ⟨l_46, hw_45, h⟩ := h
    obtain ⟨hi_44, h⟩ := h
    refine rl_ia rfl hw_45 hi_44.1 hi_44.2.1 hi_44.2.2 ?_
    show Zr sc 124 62 [zp a0, zj x1, zj nm, zj r_10] [zj (zgi l_46 4), zj 4, zp (a0 + 77)] w_8 ov w' c_13 s_14
    refine rl_ic rfl ?_
    show Zr sc 124 63 [zp a0, zj x1, zj nm, zj r_10] [zj 1, zj (zgi l_46 4), zj 4, zp (a0 + 77)] w_8 ov w' c_13 s_14
    refine rl_add rfl ?_
    show Zr sc 124 64 [zp a0, zj x1, zj nm, zj r_10] [zj ((zgi l_46 4) + 1), zj 4, zp (a0 + 77)] w_8 ov w' c_13 s_14
    obtain ⟨hi_47, h⟩ := h
    refine rl_is rfl hw_45 hi_47.1 hi_47.2.1 hi_47.2.2 ?_
    show Zr sc 124 65 [zp a0, zj x1, zj nm, zj r_10] [] (w_8.set (a0 + 77) (za (zsi l_46 4 ((zgi l_46 4) + 1)))) ov w' c_13 s_14
    refine Zr_st (q := (80, [zp a0, zj x1, zj nm, zj r_10], [])) rfl rfl rfl ?_
    show Zr sc 124 80 [zp a0, zj x1, zj nm, zj r_10] [] (w_8.set (a0 + 77) (za (zsi l_46 4 ((zgi l_46 4) + 1)))) ov w' c_13 s_14
    exact h
set_option maxRecDepth 100000 in
theorem V124_80 {sc : List Value} {w w' : List zE} {ov : Option Value} {c s : Nat} {a0 : Nat} {x1 : Int} {x2 : Int} {x3 : Int} {dr : Int} {wy : Int} {st : Int} {hd : Int} {nm : Int} {ar : Int} {hn : Int} {pk : Int} {D : Nat} {tl : Int} (L0 : w[a0]? = some (zob 7 [zp (a0 + 1), .ref 0, zj dr, zj wy, zj st, zj hd, zp (a0 + 73), zj nm, zp (a0 + 74), zp (a0 + 75), zp (a0 + 76), zj ar, zj hn, zp (a0 + 77), zj pk, zp D, zj tl])) (h : (∃ w_1 : List zE, ∃ c_3 s_4 c_5 s_6 : Nat, Zc sc 132 [zp a0, zj 0, zj x1, zj 0] w none w_1 c_3 s_4 ∧ (c = c_3 + c_5 ∧ s = s_4 + s_6) ∧ (∃ dr_9 : Int, ∃ wy_10 : Int, ∃ st_11 : Int, ∃ hd_12 : Int, ∃ nm_13 : Int, ∃ ar_14 : Int, ∃ hn_15 : Int, ∃ pk_16 : Int, ∃ D_17 : Nat, ∃ tl_18 : Int, w_1[a0]? = some (zob 7 [zp (a0 + 1), .ref 0, zj dr_9, zj wy_10, zj st_11, zj hd_12, zp (a0 + 73), zj nm_13, zp (a0 + 74), zp (a0 + 75), zp (a0 + 76), zj ar_14, zj hn_15, zp (a0 + 77), zj pk_16, zp D_17, zj tl_18]) ∧ ((zrg tl_18) ∧ ((tl_18 = 0 → (ov = some (zj 1) ∧ w' = w_1 ∧ c_5 = 0 ∧ s_6 = 0)) ∧ (¬ (tl_18 = 0) → (∃ fs_21 : List Value, w_1[(a0 + 1)]? = some (zob 6 fs_21) ∧ (∃ r_24 : Int, ∃ w_22 : List zE, Zc sc 134 [zp (a0 + 1), zj x1] w_1 (some (zj r_24)) w_22 0 0 ∧ ((zrg r_24 ∧ zrg x2) ∧ ((r_24 ≠ x2 → (ov = some (zj 0) ∧ w' = w_22 ∧ c_5 = 0 ∧ s_6 = 0)) ∧ (¬ (r_24 ≠ x2) → (∃ dr_27 : Int, ∃ wy_28 : Int, ∃ st_29 : Int, ∃ hd_30 : Int, ∃ nm_31 : Int, ∃ ar_32 : Int, ∃ hn_33 : Int, ∃ pk_34 : Int, ∃ D_35 : Nat, ∃ tl_36 : Int, w_22[a0]? = some (zob 7 [zp (a0 + 1), .ref 0, zj dr_27, zj wy_28, zj st_29, zj hd_30, zp (a0 + 73), zj nm_31, zp (a0 + 74), zp (a0 + 75), zp (a0 + 76), zj ar_32, zj hn_33, zp (a0 + 77), zj pk_34, zp D_35, zj tl_36]) ∧ (∃ fs_38 : List Value, w_22[(a0 + 1)]? = some (zob 6 fs_38) ∧ (∃ r_41 : Int, Zc sc 4 [zp (a0 + 1), zj x2] w_22 (some (zj r_41)) w_22 0 0 ∧ ((zrg x3) ∧ ((x3 < 0 → ((zrg r_41 ∧ zrg 0) ∧ ((r_41 ≠ 0 → (ov = some (zj 0) ∧ w' = w_22 ∧ c_5 = 0 ∧ s_6 = 0)) ∧ (¬ (r_41 ≠ 0) → (∃ r_46 : Int, Zc sc 8 [zp (a0 + 1), zj x2] w_22 (some (zj r_46)) w_22 0 0 ∧ ((zrg r_46 ∧ zrg x3) ∧ ((r_46 ≠ x3 → (ov = some (zj 0) ∧ w' = w_22 ∧ c_5 = 0 ∧ s_6 = 0)) ∧ (¬ (r_46 ≠ x3) → (ov = some (zj 1) ∧ w' = w_22 ∧ c_5 = 0 ∧ s_6 = 0))))))))) ∧ (¬ (x3 < 0) → ((zrg r_41 ∧ zrg 1) ∧ ((r_41 ≠ 1 → (ov = some (zj 0) ∧ w' = w_22 ∧ c_5 = 0 ∧ s_6 = 0)) ∧ (¬ (r_41 ≠ 1) → (∃ r_51 : Int, Zc sc 8 [zp (a0 + 1), zj x2] w_22 (some (zj r_51)) w_22 0 0 ∧ ((zrg r_51 ∧ zrg x3) ∧ ((r_51 ≠ x3 → (ov = some (zj 0) ∧ w' = w_22 ∧ c_5 = 0 ∧ s_6 = 0)) ∧ (¬ (r_51 ≠ x3) → (ov = some (zj 1) ∧ w' = w_22 ∧ c_5 = 0 ∧ s_6 = 0))))))))))))))))))))))))) : Zr sc 124 80 [zp a0, zj x1, zj x2, zj x3] [] w ov w' c s := by
  refine Zr_st (q := (81, [zp a0, zj x1, zj x2, zj x3], [zp a0])) rfl rfl rfl ?_
  show Zr sc 124 81 [zp a0, zj x1, zj x2, zj x3] [zp a0] w ov w' c s
  refine rl_ic rfl ?_
  show Zr sc 124 82 [zp a0, zj x1, zj x2, zj x3] [zj 0, zp a0] w ov w' c s
  refine Zr_st (q := (83, [zp a0, zj x1, zj x2, zj x3], [zj x1, zj 0, zp a0])) rfl rfl rfl ?_
  show Zr sc 124 83 [zp a0, zj x1, zj x2, zj x3] [zj x1, zj 0, zp a0] w ov w' c s
  refine rl_ic rfl ?_
  show Zr sc 124 84 [zp a0, zj x1, zj x2, zj x3] [zj 0, zj x1, zj 0, zp a0] w ov w' c s
  obtain ⟨w_1, c_3, s_4, c_5, s_6, hk_2, hc_7, h⟩ := h
  refine rl_cal (ins := .invokevirtual 136) (rest := []) rfl rfl rfl rfl (zinv_v (fs := _) L0 rfl rfl rfl rfl) rfl rfl hk_2 ?_ hc_7.1 hc_7.2
  show Zr sc 124 87 [zp a0, zj x1, zj x2, zj x3] [] w_1 ov w' c_5 s_6
  refine Zr_st (q := (88, [zp a0, zj x1, zj x2, zj x3], [zp a0])) rfl rfl rfl ?_
  show Zr sc 124 88 [zp a0, zj x1, zj x2, zj x3] [zp a0] w_1 ov w' c_5 s_6
  obtain ⟨dr_9, wy_10, st_11, hd_12, nm_13, ar_14, hn_15, pk_16, D_17, tl_18, hw_8, h⟩ := h
  refine rl_gf rfl hw_8 rfl rfl ?_
  show Zr sc 124 91 [zp a0, zj x1, zj x2, zj x3] [zj tl_18] w_1 ov w' c_5 s_6
  obtain ⟨hr_19, h⟩ := h
  refine Zr_b0 (p := tl_18 = 0) rfl rfl (zcmp_0 (cnd := .eq) hr_19) (fun hp => ?_) (fun hp => ?_)
  · replace h := h.1 hp
    show Zr sc 124 138 [zp a0, zj x1, zj x2, zj x3] [] w_1 ov w' c_5 s_6
    refine rl_ic rfl ?_
    show Zr sc 124 139 [zp a0, zj x1, zj x2, zj x3] [zj 1] w_1 ov w' c_5 s_6
    refine Zr_st (q := (143, [zp a0, zj x1, zj x2, zj x3], [zj 1])) rfl rfl rfl ?_
    show Zr sc 124 143 [zp a0, zj x1, zj x2, zj x3] [zj 1] w_1 ov w' c_5 s_6
    obtain ⟨h1, h2, h3, h4⟩ := h
    subst h1; subst h2; subst h3; subst h4
    exact Zr_ret (ins := .ireturn) rfl rfl
  · replace h := h.2 hp
    show Zr sc 124 94 [zp a0, zj x1, zj x2, zj x3] [] w_1 ov w' c_5 s_6
    refine Zr_st (q := (95, [zp a0, zj x1, zj x2, zj x3], [zp a0])) rfl rfl rfl ?_
    show Zr sc 124 95 [zp a0, zj x1, zj x2, zj x3] [zp a0] w_1 ov w' c_5 s_6
    refine rl_gf rfl hw_8 rfl rfl ?_
    show Zr sc 124 98 [zp a0, zj x1, zj x2, zj x3] [zp (a0 + 1)] w_1 ov w' c_5 s_6
    refine Zr_st (q := (99, [zp a0, zj x1, zj x2, zj x3], [zj x1, zp (a0 + 1)])) rfl rfl rfl ?_
    show Zr sc 124 99 [zp a0, zj x1, zj x2, zj x3] [zj x1, zp (a0 + 1)] w_1 ov w' c_5 s_6
    obtain ⟨fs_21, hl_20, h⟩ := h
    obtain ⟨r_24, w_22, hk_23, h⟩ := h
    refine rn_cal0 (ins := .invokevirtual 139) (rest := []) rfl rfl rfl rfl (zinv_v (fs := _) hl_20 rfl rfl rfl rfl) rfl rfl hk_23 ?_
    show Zr sc 124 102 [zp a0, zj x1, zj x2, zj x3] [zj r_24] w_22 ov w' c_5 s_6
    refine Zr_st (q := (103, [zp a0, zj x1, zj x2, zj x3], [zj x2, zj r_24])) rfl rfl rfl ?_
    show Zr sc 124 103 [zp a0, zj x1, zj x2, zj x3] [zj x2, zj r_24] w_22 ov w' c_5 s_6
    obtain ⟨hr_25, h⟩ := h
    refine Zr_br (p := r_24 ≠ x2) rfl rfl (zcmp_j (cnd := .ne) hr_25.1 hr_25.2) (fun hp => ?_) (fun hp => ?_)
    · replace h := h.1 hp
      show Zr sc 124 142 [zp a0, zj x1, zj x2, zj x3] [] w_22 ov w' c_5 s_6
      refine rl_ic rfl ?_
      show Zr sc 124 143 [zp a0, zj x1, zj x2, zj x3] [zj 0] w_22 ov w' c_5 s_6
      obtain ⟨h1, h2, h3, h4⟩ := h
      subst h1; subst h2; subst h3; subst h4
      exact Zr_ret (ins := .ireturn) rfl rfl
    · replace h := h.2 hp
      show Zr sc 124 106 [zp a0, zj x1, zj x2, zj x3] [] w_22 ov w' c_5 s_6
      refine Zr_st (q := (107, [zp a0, zj x1, zj x2, zj x3], [zp a0])) rfl rfl rfl ?_
      show Zr sc 124 107 [zp a0, zj x1, zj x2, zj x3] [zp a0] w_22 ov w' c_5 s_6
      obtain ⟨dr_27, wy_28, st_29, hd_30, nm_31, ar_32, hn_33, pk_34, D_35, tl_36, hw_26, h⟩ := h
      refine rl_gf rfl hw_26 rfl rfl ?_
      show Zr sc 124 110 [zp a0, zj x1, zj x2, zj x3] [zp (a0 + 1)] w_22 ov w' c_5 s_6
      refine Zr_st (q := (111, [zp a0, zj x1, zj x2, zj x3], [zj x2, zp (a0 + 1)])) rfl rfl rfl ?_
      show Zr sc 124 111 [zp a0, zj x1, zj x2, zj x3] [zj x2, zp (a0 + 1)] w_22 ov w' c_5 s_6
      obtain ⟨fs_38, hl_37, h⟩ := h
      obtain ⟨r_41, hk_9, h⟩ := h
      refine rn_cal0 (ins := .invokevirtual 142) (rest := []) rfl rfl rfl rfl (zinv_v (fs := _) hl_37 rfl rfl rfl rfl) rfl rfl hk_9 ?_
      show Zr sc 124 114 [zp a0, zj x1, zj x2, zj x3] [zj r_41] w_22 ov w' c_5 s_6
      refine Zr_st (q := (115, [zp a0, zj x1, zj x2, zj x3], [zj x3, zj r_41])) rfl rfl rfl ?_
      show Zr sc 124 115 [zp a0, zj x1, zj x2, zj x3] [zj x3, zj r_41] w_22 ov w' c_5 s_6
      obtain ⟨hr_42, h⟩ := h
      refine Zr_b0 (p := x3 < 0) rfl rfl (zcmp_0 (cnd := .lt) hr_42) (fun hp => ?_) (fun hp => ?_)
      · replace h := h.1 hp
        show Zr sc 124 122 [zp a0, zj x1, zj x2, zj x3] [zj r_41] w_22 ov w' c_5 s_6
        refine rl_ic rfl ?_
        show Zr sc 124 123 [zp a0, zj x1, zj x2, zj x3] [zj 0, zj r_41] w_22 ov w' c_5 s_6
        obtain ⟨hr_43, h⟩ := h
        refine Zr_br (p := r_41 ≠ 0) rfl rfl (zcmp_j (cnd := .ne) hr_43.1 hr_43.2) (fun hp => ?_) (fun hp => ?_)
        · replace h := h.1 hp
          show Zr sc 124 142 [zp a0, zj x1, zj x2, zj x3] [] w_22 ov w' c_5 s_6
          refine rl_ic rfl ?_
          show Zr sc 124 143 [zp a0, zj x1, zj x2, zj x3] [zj 0] w_22 ov w' c_5 s_6
          obtain ⟨h1, h2, h3, h4⟩ := h
          subst h1; subst h2; subst h3; subst h4
          exact Zr_ret (ins := .ireturn) rfl rfl
        · replace h := h.2 hp
          show Zr sc 124 126 [zp a0, zj x1, zj x2, zj x3] [] w_22 ov w' c_5 s_6
          refine Zr_st (q := (127, [zp a0, zj x1, zj x2, zj x3], [zp a0])) rfl rfl rfl ?_
          show Zr sc 124 127 [zp a0, zj x1, zj x2, zj x3] [zp a0] w_22 ov w' c_5 s_6
          refine rl_gf rfl hw_26 rfl rfl ?_
          show Zr sc 124 130 [zp a0, zj x1, zj x2, zj x3] [zp (a0 + 1)] w_22 ov w' c_5 s_6
          refine Zr_st (q := (131, [zp a0, zj x1, zj x2, zj x3], [zj x2, zp (a0 + 1)])) rfl rfl rfl ?_
          show Zr sc 124 131 [zp a0, zj x1, zj x2, zj x3] [zj x2, zp (a0 + 1)] w_22 ov w' c_5 s_6
          obtain ⟨r_46, hk_9, h⟩ := h
          refine rn_cal0 (ins := .invokevirtual 146) (rest := []) rfl rfl rfl rfl (zinv_v (fs := _) hl_37 rfl rfl rfl rfl) rfl rfl hk_9 ?_
          show Zr sc 124 134 [zp a0, zj x1, zj x2, zj x3] [zj r_46] w_22 ov w' c_5 s_6
          refine Zr_st (q := (135, [zp a0, zj x1, zj x2, zj x3], [zj x3, zj r_46])) rfl rfl rfl ?_
          show Zr sc 124 135 [zp a0, zj x1, zj x2, zj x3] [zj x3, zj r_46] w_22 ov w' c_5 s_6
          obtain ⟨hr_47, h⟩ := h
          refine Zr_br (p := r_46 ≠ x3) rfl rfl (zcmp_j (cnd := .ne) hr_47.1 hr_47.2) (fun hp => ?_) (fun hp => ?_)
          · replace h := h.1 hp
            show Zr sc 124 142 [zp a0, zj x1, zj x2, zj x3] [] w_22 ov w' c_5 s_6
            refine rl_ic rfl ?_
            show Zr sc 124 143 [zp a0, zj x1, zj x2, zj x3] [zj 0] w_22 ov w' c_5 s_6
            obtain ⟨h1, h2, h3, h4⟩ := h
            subst h1; subst h2; subst h3; subst h4
            exact Zr_ret (ins := .ireturn) rfl rfl
          · replace h := h.2 hp
            show Zr sc 124 138 [zp a0, zj x1, zj x2, zj x3] [] w_22 ov w' c_5 s_6
            refine rl_ic rfl ?_
            show Zr sc 124 139 [zp a0, zj x1, zj x2, zj x3] [zj 1] w_22 ov w' c_5 s_6
            refine Zr_st (q := (143, [zp a0, zj x1, zj x2, zj x3], [zj 1])) rfl rfl rfl ?_
            show Zr sc 124 143 [zp a0, zj x1, zj x2, zj x3] [zj 1] w_22 ov w' c_5 s_6
            obtain ⟨h1, h2, h3, h4⟩ := h
            subst h1; subst h2; subst h3; subst h4
            exact Zr_ret (ins := .ireturn) rfl rfl
      · replace h := h.2 hp
        show Zr sc 124 118 [zp a0, zj x1, zj x2, zj x3] [zj r_41] w_22 ov w' c_5 s_6
        refine rl_ic rfl ?_
        show Zr sc 124 119 [zp a0, zj x1, zj x2, zj x3] [zj 1, zj r_41] w_22 ov w' c_5 s_6
        refine Zr_st (q := (123, [zp a0, zj x1, zj x2, zj x3], [zj 1, zj r_41])) rfl rfl rfl ?_
        show Zr sc 124 123 [zp a0, zj x1, zj x2, zj x3] [zj 1, zj r_41] w_22 ov w' c_5 s_6
        obtain ⟨hr_48, h⟩ := h
        refine Zr_br (p := r_41 ≠ 1) rfl rfl (zcmp_j (cnd := .ne) hr_48.1 hr_48.2) (fun hp => ?_) (fun hp => ?_)
        · replace h := h.1 hp
          show Zr sc 124 142 [zp a0, zj x1, zj x2, zj x3] [] w_22 ov w' c_5 s_6
          refine rl_ic rfl ?_
          show Zr sc 124 143 [zp a0, zj x1, zj x2, zj x3] [zj 0] w_22 ov w' c_5 s_6
          obtain ⟨h1, h2, h3, h4⟩ := h
          subst h1; subst h2; subst h3; subst h4
          exact Zr_ret (ins := .ireturn) rfl rfl
        · replace h := h.2 hp
          show Zr sc 124 126 [zp a0, zj x1, zj x2, zj x3] [] w_22 ov w' c_5 s_6
          refine Zr_st (q := (127, [zp a0, zj x1, zj x2, zj x3], [zp a0])) rfl rfl rfl ?_
          show Zr sc 124 127 [zp a0, zj x1, zj x2, zj x3] [zp a0] w_22 ov w' c_5 s_6
          refine rl_gf rfl hw_26 rfl rfl ?_
          show Zr sc 124 130 [zp a0, zj x1, zj x2, zj x3] [zp (a0 + 1)] w_22 ov w' c_5 s_6
          refine Zr_st (q := (131, [zp a0, zj x1, zj x2, zj x3], [zj x2, zp (a0 + 1)])) rfl rfl rfl ?_
          show Zr sc 124 131 [zp a0, zj x1, zj x2, zj x3] [zj x2, zp (a0 + 1)] w_22 ov w' c_5 s_6
          obtain ⟨r_51, hk_9, h⟩ := h
          refine rn_cal0 (ins := .invokevirtual 146) (rest := []) rfl rfl rfl rfl (zinv_v (fs := _) hl_37 rfl rfl rfl rfl) rfl rfl hk_9 ?_
          show Zr sc 124 134 [zp a0, zj x1, zj x2, zj x3] [zj r_51] w_22 ov w' c_5 s_6
          refine Zr_st (q := (135, [zp a0, zj x1, zj x2, zj x3], [zj x3, zj r_51])) rfl rfl rfl ?_
          show Zr sc 124 135 [zp a0, zj x1, zj x2, zj x3] [zj x3, zj r_51] w_22 ov w' c_5 s_6
          obtain ⟨hr_52, h⟩ := h
          refine Zr_br (p := r_51 ≠ x3) rfl rfl (zcmp_j (cnd := .ne) hr_52.1 hr_52.2) (fun hp => ?_) (fun hp => ?_)
          · replace h := h.1 hp
            show Zr sc 124 142 [zp a0, zj x1, zj x2, zj x3] [] w_22 ov w' c_5 s_6
            refine rl_ic rfl ?_
            show Zr sc 124 143 [zp a0, zj x1, zj x2, zj x3] [zj 0] w_22 ov w' c_5 s_6
            obtain ⟨h1, h2, h3, h4⟩ := h
            subst h1; subst h2; subst h3; subst h4
            exact Zr_ret (ins := .ireturn) rfl rfl
          · replace h := h.2 hp
            show Zr sc 124 138 [zp a0, zj x1, zj x2, zj x3] [] w_22 ov w' c_5 s_6
            refine rl_ic rfl ?_
            show Zr sc 124 139 [zp a0, zj x1, zj x2, zj x3] [zj 1] w_22 ov w' c_5 s_6
            refine Zr_st (q := (143, [zp a0, zj x1, zj x2, zj x3], [zj 1])) rfl rfl rfl ?_
            show Zr sc 124 143 [zp a0, zj x1, zj x2, zj x3] [zj 1] w_22 ov w' c_5 s_6
            obtain ⟨h1, h2, h3, h4⟩ := h
            subst h1; subst h2; subst h3; subst h4
            exact Zr_ret (ins := .ireturn) rfl rfl

-- HeapwrightLabLaw$Pool.take(I)I
set_option maxRecDepth 100000 in
theorem V125_0 {sc : List Value} {w w' : List zE} {ov : Option Value} {c s : Nat} {a0 : Nat} {x1 : Int} {dr : Int} {wy : Int} {st : Int} {hd : Int} {nm : Int} {ar : Int} {hn : Int} {pk : Int} {D : Nat} {tl : Int} (L0 : w[a0]? = some (zob 7 [zp (a0 + 1), .ref 0, zj dr, zj wy, zj st, zj hd, zp (a0 + 73), zj nm, zp (a0 + 74), zp (a0 + 75), zp (a0 + 76), zj ar, zj hn, zp (a0 + 77), zj pk, zp D, zj tl])) (h : (∃ p_3 : Nat, ∃ w_1 : List zE, ∃ c_4 s_5 c_6 s_7 : Nat, Zc sc 126 [zp a0] w (some (zp p_3)) w_1 c_4 s_5 ∧ (c = c_4 + c_6 ∧ s = s_5 + s_7) ∧ (∃ dr_10 : Int, ∃ wy_11 : Int, ∃ st_12 : Int, ∃ hd_13 : Int, ∃ nm_14 : Int, ∃ ar_15 : Int, ∃ hn_16 : Int, ∃ pk_17 : Int, ∃ D_18 : Nat, ∃ tl_19 : Int, w_1[a0]? = some (zob 7 [zp (a0 + 1), .ref 0, zj dr_10, zj wy_11, zj st_12, zj hd_13, zp (a0 + 73), zj nm_14, zp (a0 + 74), zp (a0 + 75), zp (a0 + 76), zj ar_15, zj hn_16, zp (a0 + 77), zj pk_17, zp D_18, zj tl_19]) ∧ ((zrg wy_11 ∧ zrg 5) ∧ ((wy_11 ≠ 5 → Zr sc 125 21 [zp a0, zj x1, zp p_3, zj 0, zmk, zmk, zmk, zmk] [] w_1 ov w' c_6 s_7) ∧ (¬ (wy_11 ≠ 5) → (∃ r_23 : Int, ∃ w_21 : List zE, Zc sc 130 [zp a0, zj x1] w_1 (some (zj r_23)) w_21 0 0 ∧ (ov = some (zj r_23) ∧ w' = w_21 ∧ c_6 = 0 ∧ s_7 = 0)))))))) : Zr sc 125 0 [zp a0, zj x1, zmk, zmk, zmk, zmk, zmk, zmk] [] w ov w' c s := by
  refine Zr_st (q := (1, [zp a0, zj x1, zmk, zmk, zmk, zmk, zmk, zmk], [zp a0])) rfl rfl rfl ?_
  show Zr sc 125 1 [zp a0, zj x1, zmk, zmk, zmk, zmk, zmk, zmk] [zp a0] w ov w' c s
  obtain ⟨p_3, w_1, c_4, s_5, c_6, s_7, hk_2, hc_8, h⟩ := h
  refine rl_cal (ins := .invokevirtual 100) (rest := []) rfl rfl rfl rfl (zinv_v (fs := _) L0 rfl rfl rfl rfl) rfl rfl hk_2 ?_ hc_8.1 hc_8.2
  show Zr sc 125 4 [zp a0, zj x1, zmk, zmk, zmk, zmk, zmk, zmk] [zp p_3] w_1 ov w' c_6 s_7
  refine Zr_st (q := (5, [zp a0, zj x1, zp p_3, zmk, zmk, zmk, zmk, zmk], [])) rfl rfl rfl ?_
  show Zr sc 125 5 [zp a0, zj x1, zp p_3, zmk, zmk, zmk, zmk, zmk] [] w_1 ov w' c_6 s_7
  refine Zr_st (q := (6, [zp a0, zj x1, zp p_3, zmk, zmk, zmk, zmk, zmk], [zp a0])) rfl rfl rfl ?_
  show Zr sc 125 6 [zp a0, zj x1, zp p_3, zmk, zmk, zmk, zmk, zmk] [zp a0] w_1 ov w' c_6 s_7
  obtain ⟨dr_10, wy_11, st_12, hd_13, nm_14, ar_15, hn_16, pk_17, D_18, tl_19, hw_9, h⟩ := h
  refine rl_gf rfl hw_9 rfl rfl ?_
  show Zr sc 125 9 [zp a0, zj x1, zp p_3, zmk, zmk, zmk, zmk, zmk] [zj wy_11] w_1 ov w' c_6 s_7
  refine rl_ic rfl ?_
  show Zr sc 125 10 [zp a0, zj x1, zp p_3, zmk, zmk, zmk, zmk, zmk] [zj 5, zj wy_11] w_1 ov w' c_6 s_7
  obtain ⟨hr_20, h⟩ := h
  refine Zr_br (p := wy_11 ≠ 5) rfl rfl (zcmp_j (cnd := .ne) hr_20.1 hr_20.2) (fun hp => ?_) (fun hp => ?_)
  · replace h := h.1 hp
    show Zr sc 125 19 [zp a0, zj x1, zp p_3, zmk, zmk, zmk, zmk, zmk] [] w_1 ov w' c_6 s_7
    refine rl_ic rfl ?_
    show Zr sc 125 20 [zp a0, zj x1, zp p_3, zmk, zmk, zmk, zmk, zmk] [zj 0] w_1 ov w' c_6 s_7
    refine Zr_st (q := (21, [zp a0, zj x1, zp p_3, zj 0, zmk, zmk, zmk, zmk], [])) rfl rfl rfl ?_
    show Zr sc 125 21 [zp a0, zj x1, zp p_3, zj 0, zmk, zmk, zmk, zmk] [] w_1 ov w' c_6 s_7
    exact h
  · replace h := h.2 hp
    show Zr sc 125 13 [zp a0, zj x1, zp p_3, zmk, zmk, zmk, zmk, zmk] [] w_1 ov w' c_6 s_7
    refine Zr_st (q := (14, [zp a0, zj x1, zp p_3, zmk, zmk, zmk, zmk, zmk], [zp a0])) rfl rfl rfl ?_
    show Zr sc 125 14 [zp a0, zj x1, zp p_3, zmk, zmk, zmk, zmk, zmk] [zp a0] w_1 ov w' c_6 s_7
    refine Zr_st (q := (15, [zp a0, zj x1, zp p_3, zmk, zmk, zmk, zmk, zmk], [zj x1, zp a0])) rfl rfl rfl ?_
    show Zr sc 125 15 [zp a0, zj x1, zp p_3, zmk, zmk, zmk, zmk, zmk] [zj x1, zp a0] w_1 ov w' c_6 s_7
    obtain ⟨r_23, w_21, hk_22, h⟩ := h
    refine rn_cal0 (ins := .invokevirtual 104) (rest := []) rfl rfl rfl rfl (zinv_v (fs := _) hw_9 rfl rfl rfl rfl) rfl rfl hk_22 ?_
    show Zr sc 125 18 [zp a0, zj x1, zp p_3, zmk, zmk, zmk, zmk, zmk] [zj r_23] w_21 ov w' c_6 s_7
    obtain ⟨h1, h2, h3, h4⟩ := h
    subst h1; subst h2; subst h3; subst h4
    exact Zr_ret (ins := .ireturn) rfl rfl
set_option maxRecDepth 100000 in
theorem V125_21 {sc : List Value} {w w' : List zE} {ov : Option Value} {c s : Nat} {a0 : Nat} {x1 : Int} {a2 : Nat} {x3 : Int} {dr : Int} {wy : Int} {st : Int} {hd : Int} {nm : Int} {ar : Int} {hn : Int} {pk : Int} {D : Nat} {tl : Int} (L0 : w[a0]? = some (zob 7 [zp (a0 + 1), .ref 0, zj dr, zj wy, zj st, zj hd, zp (a0 + 73), zj nm, zp (a0 + 74), zp (a0 + 75), zp (a0 + 76), zj ar, zj hn, zp (a0 + 77), zj pk, zp D, zj tl])) (h : ((zrg wy ∧ zrg 1) ∧ ((wy ≠ 1 → Zr sc 125 63 [zp a0, zj x1, zp a2, zj x3, zj (-1), zj 0, zmk, zmk] [] w ov w' c s) ∧ (¬ (wy ≠ 1) → (∃ l_3 : List Int, w[a2]? = some (za l_3) ∧ ((zrg x3 ∧ zrg (l_3.length : Int)) ∧ (((l_3.length : Int) ≤ x3 → Zr sc 125 63 [zp a0, zj x1, zp a2, zj x3, zj (-1), zj 0, zmk, zmk] [] w ov w' c s) ∧ (¬ ((l_3.length : Int) ≤ x3) → (((0 : Int) ≤ x3 ∧ x3 < (l_3.length : Int) ∧ x3 ≤ (2147483647 : Int)) ∧ (((0 : Int) ≤ (x3 + 1) ∧ (x3 + 1) < (l_3.length : Int) ∧ (x3 + 1) ≤ (2147483647 : Int)) ∧ ((zrg ((zgi l_3 x3) + (zgi l_3 (x3 + 1))) ∧ zrg hn) ∧ ((hn < ((zgi l_3 x3) + (zgi l_3 (x3 + 1))) → Zr sc 125 63 [zp a0, zj x1, zp a2, zj x3, zj (-1), zj 0, zmk, zmk] [] w ov w' c s) ∧ (¬ (hn < ((zgi l_3 x3) + (zgi l_3 (x3 + 1)))) → Zr sc 125 21 [zp a0, zj x1, zp a2, zj (x3 + 2), zmk, zmk, zmk, zmk] [] w ov w' c s))))))))))))) : Zr sc 125 21 [zp a0, zj x1, zp a2, zj x3, zmk, zmk, zmk, zmk] [] w ov w' c s := by
  refine Zr_st (q := (22, [zp a0, zj x1, zp a2, zj x3, zmk, zmk, zmk, zmk], [zp a0])) rfl rfl rfl ?_
  show Zr sc 125 22 [zp a0, zj x1, zp a2, zj x3, zmk, zmk, zmk, zmk] [zp a0] w ov w' c s
  refine rl_gf rfl L0 rfl rfl ?_
  show Zr sc 125 25 [zp a0, zj x1, zp a2, zj x3, zmk, zmk, zmk, zmk] [zj wy] w ov w' c s
  refine rl_ic rfl ?_
  show Zr sc 125 26 [zp a0, zj x1, zp a2, zj x3, zmk, zmk, zmk, zmk] [zj 1, zj wy] w ov w' c s
  obtain ⟨hr_1, h⟩ := h
  refine Zr_br (p := wy ≠ 1) rfl rfl (zcmp_j (cnd := .ne) hr_1.1 hr_1.2) (fun hp => ?_) (fun hp => ?_)
  · replace h := h.1 hp
    show Zr sc 125 57 [zp a0, zj x1, zp a2, zj x3, zmk, zmk, zmk, zmk] [] w ov w' c s
    refine rl_ic rfl ?_
    show Zr sc 125 58 [zp a0, zj x1, zp a2, zj x3, zmk, zmk, zmk, zmk] [zj (-1)] w ov w' c s
    refine Zr_st (q := (60, [zp a0, zj x1, zp a2, zj x3, zj (-1), zmk, zmk, zmk], [])) rfl rfl rfl ?_
    show Zr sc 125 60 [zp a0, zj x1, zp a2, zj x3, zj (-1), zmk, zmk, zmk] [] w ov w' c s
    refine rl_ic rfl ?_
    show Zr sc 125 61 [zp a0, zj x1, zp a2, zj x3, zj (-1), zmk, zmk, zmk] [zj 0] w ov w' c s
    refine Zr_st (q := (63, [zp a0, zj x1, zp a2, zj x3, zj (-1), zj 0, zmk, zmk], [])) rfl rfl rfl ?_
    show Zr sc 125 63 [zp a0, zj x1, zp a2, zj x3, zj (-1), zj 0, zmk, zmk] [] w ov w' c s
    exact h
  · replace h := h.2 hp
    show Zr sc 125 29 [zp a0, zj x1, zp a2, zj x3, zmk, zmk, zmk, zmk] [] w ov w' c s
    refine Zr_st (q := (30, [zp a0, zj x1, zp a2, zj x3, zmk, zmk, zmk, zmk], [zj x3])) rfl rfl rfl ?_
    show Zr sc 125 30 [zp a0, zj x1, zp a2, zj x3, zmk, zmk, zmk, zmk] [zj x3] w ov w' c s
    refine Zr_st (q := (31, [zp a0, zj x1, zp a2, zj x3, zmk, zmk, zmk, zmk], [zp a2, zj x3])) rfl rfl rfl ?_
    show Zr sc 125 31 [zp a0, zj x1, zp a2, zj x3, zmk, zmk, zmk, zmk] [zp a2, zj x3] w ov w' c s
    obtain ⟨l_3, hw_2, h⟩ := h
    refine rl_al rfl hw_2 ?_
    show Zr sc 125 32 [zp a0, zj x1, zp a2, zj x3, zmk, zmk, zmk, zmk] [zj (l_3.length : Int), zj x3] w ov w' c s
    obtain ⟨hr_4, h⟩ := h
    refine Zr_br (p := (l_3.length : Int) ≤ x3) rfl rfl (zcmp_j (cnd := .ge) hr_4.1 hr_4.2) (fun hp => ?_) (fun hp => ?_)
    · replace h := h.1 hp
      show Zr sc 125 57 [zp a0, zj x1, zp a2, zj x3, zmk, zmk, zmk, zmk] [] w ov w' c s
      refine rl_ic rfl ?_
      show Zr sc 125 58 [zp a0, zj x1, zp a2, zj x3, zmk, zmk, zmk, zmk] [zj (-1)] w ov w' c s
      refine Zr_st (q := (60, [zp a0, zj x1, zp a2, zj x3, zj (-1), zmk, zmk, zmk], [])) rfl rfl rfl ?_
      show Zr sc 125 60 [zp a0, zj x1, zp a2, zj x3, zj (-1), zmk, zmk, zmk] [] w ov w' c s
      refine rl_ic rfl ?_
      show Zr sc 125 61 [zp a0, zj x1, zp a2, zj x3, zj (-1), zmk, zmk, zmk] [zj 0] w ov w' c s
      refine Zr_st (q := (63, [zp a0, zj x1, zp a2, zj x3, zj (-1), zj 0, zmk, zmk], [])) rfl rfl rfl ?_
      show Zr sc 125 63 [zp a0, zj x1, zp a2, zj x3, zj (-1), zj 0, zmk, zmk] [] w ov w' c s
      exact h
    · replace h := h.2 hp
      show Zr sc 125 35 [zp a0, zj x1, zp a2, zj x3, zmk, zmk, zmk, zmk] [] w ov w' c s
      refine Zr_st (q := (36, [zp a0, zj x1, zp a2, zj x3, zmk, zmk, zmk, zmk], [zp a2])) rfl rfl rfl ?_
      show Zr sc 125 36 [zp a0, zj x1, zp a2, zj x3, zmk, zmk, zmk, zmk] [zp a2] w ov w' c s
      refine Zr_st (q := (37, [zp a0, zj x1, zp a2, zj x3, zmk, zmk, zmk, zmk], [zj x3, zp a2])) rfl rfl rfl ?_
      show Zr sc 125 37 [zp a0, zj x1, zp a2, zj x3, zmk, zmk, zmk, zmk] [zj x3, zp a2] w ov w' c s
      obtain ⟨hi_5, h⟩ := h
      refine rl_ia rfl hw_2 hi_5.1 hi_5.2.1 hi_5.2.2 ?_
      show Zr sc 125 38 [zp a0, zj x1, zp a2, zj x3, zmk, zmk, zmk, zmk] [zj (zgi l_3 x3)] w ov w' c s
      refine Zr_st (q := (39, [zp a0, zj x1, zp a2, zj x3, zmk, zmk, zmk, zmk], [zp a2, zj (zgi l_3 x3)])) rfl rfl rfl ?_
      show Zr sc 125 39 [zp a0, zj x1, zp a2, zj x3, zmk, zmk, zmk, zmk] [zp a2, zj (zgi l_3 x3)] w ov w' c s
      refine Zr_st (q := (40, [zp a0, zj x1, zp a2, zj x3, zmk, zmk, zmk, zmk], [zj x3, zp a2, zj (zgi l_3 x3)])) rfl rfl rfl ?_
      show Zr sc 125 40 [zp a0, zj x1, zp a2, zj x3, zmk, zmk, zmk, zmk] [zj x3, zp a2, zj (zgi l_3 x3)] w ov w' c s
      refine rl_ic rfl ?_
      show Zr sc 125 41 [zp a0, zj x1, zp a2, zj x3, zmk, zmk, zmk, zmk] [zj 1, zj x3, zp a2, zj (zgi l_3 x3)] w ov w' c s
      refine rl_add rfl ?_
      show Zr sc 125 42 [zp a0, zj x1, zp a2, zj x3, zmk, zmk, zmk, zmk] [zj (x3 + 1), zp a2, zj (zgi l_3 x3)] w ov w' c s
      obtain ⟨hi_6, h⟩ := h
      refine rl_ia rfl hw_2 hi_6.1 hi_6.2.1 hi_6.2.2 ?_
      show Zr sc 125 43 [zp a0, zj x1, zp a2, zj x3, zmk, zmk, zmk, zmk] [zj (zgi l_3 (x3 + 1)), zj (zgi l_3 x3)] w ov w' c s
      refine rl_add rfl ?_
      show Zr sc 125 44 [zp a0, zj x1, zp a2, zj x3, zmk, zmk, zmk, zmk] [zj ((zgi l_3 x3) + (zgi l_3 (x3 + 1)))] w ov w' c s
      refine Zr_st (q := (45, [zp a0, zj x1, zp a2, zj x3, zmk, zmk, zmk, zmk], [zp a0, zj ((zgi l_3 x3) + (zgi l_3 (x3 + 1)))])) rfl rfl rfl ?_
      show Zr sc 125 45 [zp a0, zj x1, zp a2, zj x3, zmk, zmk, zmk, zmk] [zp a0, zj ((zgi l_3 x3) + (zgi l_3 (x3 + 1)))] w ov w' c s
      refine rl_gf rfl L0 rfl rfl ?_
      show Zr sc 125 48 [zp a0, zj x1, zp a2, zj x3, zmk, zmk, zmk, zmk] [zj hn, zj ((zgi l_3 x3) + (zgi l_3 (x3 + 1)))] w ov w' c s
      obtain ⟨hr_7, h⟩ := h
      refine Zr_br (p := hn < ((zgi l_3 x3) + (zgi l_3 (x3 + 1)))) rfl rfl (zcmp_j (cnd := .gt) hr_7.1 hr_7.2) (fun hp => ?_) (fun hp => ?_)
      · replace h := h.1 hp
        show Zr sc 125 57 [zp a0, zj x1, zp a2, zj x3, zmk, zmk, zmk, zmk] [] w ov w' c s
        refine rl_ic rfl ?_
        show Zr sc 125 58 [zp a0, zj x1, zp a2, zj x3, zmk, zmk, zmk, zmk] [zj (-1)] w ov w' c s
        refine Zr_st (q := (60, [zp a0, zj x1, zp a2, zj x3, zj (-1), zmk, zmk, zmk], [])) rfl rfl rfl ?_
        show Zr sc 125 60 [zp a0, zj x1, zp a2, zj x3, zj (-1), zmk, zmk, zmk] [] w ov w' c s
        refine rl_ic rfl ?_
        show Zr sc 125 61 [zp a0, zj x1, zp a2, zj x3, zj (-1), zmk, zmk, zmk] [zj 0] w ov w' c s
        refine Zr_st (q := (63, [zp a0, zj x1, zp a2, zj x3, zj (-1), zj 0, zmk, zmk], [])) rfl rfl rfl ?_
        show Zr sc 125 63 [zp a0, zj x1, zp a2, zj x3, zj (-1), zj 0, zmk, zmk] [] w ov w' c s
        exact h
      · replace h := h.2 hp
        show Zr sc 125 51 [zp a0, zj x1, zp a2, zj x3, zmk, zmk, zmk, zmk] [] w ov w' c s
        refine rl_inc rfl rfl rfl rfl ?_
        show Zr sc 125 54 [zp a0, zj x1, zp a2, zj (x3 + 2), zmk, zmk, zmk, zmk] [] w ov w' c s
        refine Zr_st (q := (21, [zp a0, zj x1, zp a2, zj (x3 + 2), zmk, zmk, zmk, zmk], [])) rfl rfl rfl ?_
        show Zr sc 125 21 [zp a0, zj x1, zp a2, zj (x3 + 2), zmk, zmk, zmk, zmk] [] w ov w' c s
        exact h
set_option maxRecDepth 100000 in
theorem V125_63 {sc : List Value} {w w' : List zE} {ov : Option Value} {c s : Nat} {a0 : Nat} {x1 : Int} {a2 : Nat} {x3 : Int} {x4 : Int} {x5 : Int} {v6 : Value} {v7 : Value} {dr : Int} {wy : Int} {st : Int} {hd : Int} {nm : Int} {ar : Int} {hn : Int} {pk : Int} {D : Nat} {tl : Int} (L0 : w[a0]? = some (zob 7 [zp (a0 + 1), .ref 0, zj dr, zj wy, zj st, zj hd, zp (a0 + 73), zj nm, zp (a0 + 74), zp (a0 + 75), zp (a0 + 76), zj ar, zj hn, zp (a0 + 77), zj pk, zp D, zj tl])) (h : (∃ l_2 : List Int, w[a2]? = some (za l_2) ∧ ((zrg x5 ∧ zrg (l_2.length : Int)) ∧ (((l_2.length : Int) ≤ x5 → Zr sc 125 180 [zp a0, zj x1, zp a2, zj x3, zj x4, zj x5, v6, v7] [] w ov w' c s) ∧ (¬ ((l_2.length : Int) ≤ x5) → ((zrg x4) ∧ ((x4 < 0 → Zr sc 125 83 [zp a0, zj x1, zp a2, zj x3, zj x4, zj x5, v6, v7] [] w ov w' c s) ∧ (¬ (x4 < 0) → ((zrg wy ∧ zrg 1) ∧ ((wy ≤ 1 → Zr sc 125 180 [zp a0, zj x1, zp a2, zj x3, zj x4, zj x5, v6, v7] [] w ov w' c s) ∧ (¬ (wy ≤ 1) → Zr sc 125 83 [zp a0, zj x1, zp a2, zj x3, zj x4, zj x5, v6, v7] [] w ov w' c s))))))))))) : Zr sc 125 63 [zp a0, zj x1, zp a2, zj x3, zj x4, zj x5, v6, v7] [] w ov w' c s := by
  refine Zr_st (q := (65, [zp a0, zj x1, zp a2, zj x3, zj x4, zj x5, v6, v7], [zj x5])) rfl rfl rfl ?_
  show Zr sc 125 65 [zp a0, zj x1, zp a2, zj x3, zj x4, zj x5, v6, v7] [zj x5] w ov w' c s
  refine Zr_st (q := (66, [zp a0, zj x1, zp a2, zj x3, zj x4, zj x5, v6, v7], [zp a2, zj x5])) rfl rfl rfl ?_
  show Zr sc 125 66 [zp a0, zj x1, zp a2, zj x3, zj x4, zj x5, v6, v7] [zp a2, zj x5] w ov w' c s
  obtain ⟨l_2, hw_1, h⟩ := h
  refine rl_al rfl hw_1 ?_
  show Zr sc 125 67 [zp a0, zj x1, zp a2, zj x3, zj x4, zj x5, v6, v7] [zj (l_2.length : Int), zj x5] w ov w' c s
  obtain ⟨hr_3, h⟩ := h
  refine Zr_br (p := (l_2.length : Int) ≤ x5) rfl rfl (zcmp_j (cnd := .ge) hr_3.1 hr_3.2) (fun hp => ?_) (fun hp => ?_)
  · replace h := h.1 hp
    show Zr sc 125 180 [zp a0, zj x1, zp a2, zj x3, zj x4, zj x5, v6, v7] [] w ov w' c s
    exact h
  · replace h := h.2 hp
    show Zr sc 125 70 [zp a0, zj x1, zp a2, zj x3, zj x4, zj x5, v6, v7] [] w ov w' c s
    refine Zr_st (q := (72, [zp a0, zj x1, zp a2, zj x3, zj x4, zj x5, v6, v7], [zj x4])) rfl rfl rfl ?_
    show Zr sc 125 72 [zp a0, zj x1, zp a2, zj x3, zj x4, zj x5, v6, v7] [zj x4] w ov w' c s
    obtain ⟨hr_4, h⟩ := h
    refine Zr_b0 (p := x4 < 0) rfl rfl (zcmp_0 (cnd := .lt) hr_4) (fun hp => ?_) (fun hp => ?_)
    · replace h := h.1 hp
      show Zr sc 125 83 [zp a0, zj x1, zp a2, zj x3, zj x4, zj x5, v6, v7] [] w ov w' c s
      exact h
    · replace h := h.2 hp
      show Zr sc 125 75 [zp a0, zj x1, zp a2, zj x3, zj x4, zj x5, v6, v7] [] w ov w' c s
      refine Zr_st (q := (76, [zp a0, zj x1, zp a2, zj x3, zj x4, zj x5, v6, v7], [zp a0])) rfl rfl rfl ?_
      show Zr sc 125 76 [zp a0, zj x1, zp a2, zj x3, zj x4, zj x5, v6, v7] [zp a0] w ov w' c s
      refine rl_gf rfl L0 rfl rfl ?_
      show Zr sc 125 79 [zp a0, zj x1, zp a2, zj x3, zj x4, zj x5, v6, v7] [zj wy] w ov w' c s
      refine rl_ic rfl ?_
      show Zr sc 125 80 [zp a0, zj x1, zp a2, zj x3, zj x4, zj x5, v6, v7] [zj 1, zj wy] w ov w' c s
      obtain ⟨hr_5, h⟩ := h
      refine Zr_br (p := wy ≤ 1) rfl rfl (zcmp_j (cnd := .le) hr_5.1 hr_5.2) (fun hp => ?_) (fun hp => ?_)
      · replace h := h.1 hp
        show Zr sc 125 180 [zp a0, zj x1, zp a2, zj x3, zj x4, zj x5, v6, v7] [] w ov w' c s
        exact h
      · replace h := h.2 hp
        show Zr sc 125 83 [zp a0, zj x1, zp a2, zj x3, zj x4, zj x5, v6, v7] [] w ov w' c s
        exact h
set_option maxRecDepth 100000 in
theorem V125_83 {sc : List Value} {w w' : List zE} {ov : Option Value} {c s : Nat} {a0 : Nat} {x1 : Int} {a2 : Nat} {x3 : Int} {x4 : Int} {x5 : Int} {v6 : Value} {v7 : Value} {dr : Int} {wy : Int} {st : Int} {hd : Int} {nm : Int} {ar : Int} {hn : Int} {pk : Int} {D : Nat} {tl : Int} {cn : List Int} (L0 : w[a0]? = some (zob 7 [zp (a0 + 1), .ref 0, zj dr, zj wy, zj st, zj hd, zp (a0 + 73), zj nm, zp (a0 + 74), zp (a0 + 75), zp (a0 + 76), zj ar, zj hn, zp (a0 + 77), zj pk, zp D, zj tl])) (L77 : w[(a0 + 77)]? = some (za cn)) (h : (∃ l_2 : List Int, w[a2]? = some (za l_2) ∧ (((0 : Int) ≤ (x3 + x5) ∧ (x3 + x5) ≤ (2147483647 : Int) ∧ (0 : Int) < (l_2.length : Int) ∧ (l_2.length : Int) ≤ (2147483647 : Int)) ∧ (((0 : Int) ≤ 0 ∧ 0 < (cn.length : Int) ∧ 0 ≤ (2147483647 : Int)) ∧ (((0 : Int) ≤ 0 ∧ 0 < (cn.length : Int) ∧ 0 ≤ (2147483647 : Int)) ∧ ((zrg x4) ∧ ((x4 < 0 → Zr sc 125 155 [zp a0, zj x1, zp a2, zj x3, zj x4, zj x5, zj ((x3 + x5) % (l_2.length : Int)), zj 1] [] (w.set (a0 + 77) (za (zsi cn 0 ((zgi cn 0) + 1)))) ov w' c s) ∧ (¬ (x4 < 0) → ((zrg wy ∧ zrg 3) ∧ ((wy ≠ 3 → (((a0 + 77) ≠ a2) ∧ (((0 : Int) ≤ (((x3 + x5) % (l_2.length : Int)) + 1) ∧ (((x3 + x5) % (l_2.length : Int)) + 1) < (l_2.length : Int) ∧ (((x3 + x5) % (l_2.length : Int)) + 1) ≤ (2147483647 : Int)) ∧ (((0 : Int) ≤ (x4 + 1) ∧ (x4 + 1) < (l_2.length : Int) ∧ (x4 + 1) ≤ (2147483647 : Int)) ∧ ((zrg (zgi l_2 (((x3 + x5) % (l_2.length : Int)) + 1)) ∧ zrg (zgi l_2 (x4 + 1))) ∧ (((zgi l_2 (x4 + 1)) ≤ (zgi l_2 (((x3 + x5) % (l_2.length : Int)) + 1)) → Zr sc 125 155 [zp a0, zj x1, zp a2, zj x3, zj x4, zj x5, zj ((x3 + x5) % (l_2.length : Int)), zj 0] [] (w.set (a0 + 77) (za (zsi cn 0 ((zgi cn 0) + 1)))) ov w' c s) ∧ (¬ ((zgi l_2 (x4 + 1)) ≤ (zgi l_2 (((x3 + x5) % (l_2.length : Int)) + 1))) → Zr sc 125 155 [zp a0, zj x1, zp a2, zj x3, zj x4, zj x5, zj ((x3 + x5) % (l_2.length : Int)), zj 1] [] (w.set (a0 + 77) (za (zsi cn 0 ((zgi cn 0) + 1)))) ov w' c s))))))) ∧ (¬ (wy ≠ 3) → (((a0 + 77) ≠ a2) ∧ (((0 : Int) ≤ (((x3 + x5) % (l_2.length : Int)) + 1) ∧ (((x3 + x5) % (l_2.length : Int)) + 1) < (l_2.length : Int) ∧ (((x3 + x5) % (l_2.length : Int)) + 1) ≤ (2147483647 : Int)) ∧ (((0 : Int) ≤ (x4 + 1) ∧ (x4 + 1) < (l_2.length : Int) ∧ (x4 + 1) ≤ (2147483647 : Int)) ∧ ((zrg (zgi l_2 (((x3 + x5) % (l_2.length : Int)) + 1)) ∧ zrg (zgi l_2 (x4 + 1))) ∧ (((zgi l_2 (((x3 + x5) % (l_2.length : Int)) + 1)) ≤ (zgi l_2 (x4 + 1)) → Zr sc 125 155 [zp a0, zj x1, zp a2, zj x3, zj x4, zj x5, zj ((x3 + x5) % (l_2.length : Int)), zj 0] [] (w.set (a0 + 77) (za (zsi cn 0 ((zgi cn 0) + 1)))) ov w' c s) ∧ (¬ ((zgi l_2 (((x3 + x5) % (l_2.length : Int)) + 1)) ≤ (zgi l_2 (x4 + 1))) → Zr sc 125 155 [zp a0, zj x1, zp a2, zj x3, zj x4, zj x5, zj ((x3 + x5) % (l_2.length : Int)), zj 1] [] (w.set (a0 + 77) (za (zsi cn 0 ((zgi cn 0) + 1)))) ov w' c s))))))))))))))))) : Zr sc 125 83 [zp a0, zj x1, zp a2, zj x3, zj x4, zj x5, v6, v7] [] w ov w' c s := by
  refine Zr_st (q := (84, [zp a0, zj x1, zp a2, zj x3, zj x4, zj x5, v6, v7], [zj x3])) rfl rfl rfl ?_
  show Zr sc 125 84 [zp a0, zj x1, zp a2, zj x3, zj x4, zj x5, v6, v7] [zj x3] w ov w' c s
  refine Zr_st (q := (86, [zp a0, zj x1, zp a2, zj x3, zj x4, zj x5, v6, v7], [zj x5, zj x3])) rfl rfl rfl ?_
  show Zr sc 125 86 [zp a0, zj x1, zp a2, zj x3, zj x4, zj x5, v6, v7] [zj x5, zj x3] w ov w' c s
  refine rl_add rfl ?_
  show Zr sc 125 87 [zp a0, zj x1, zp a2, zj x3, zj x4, zj x5, v6, v7] [zj (x3 + x5)] w ov w' c s
  refine Zr_st (q := (88, [zp a0, zj x1, zp a2, zj x3, zj x4, zj x5, v6, v7], [zp a2, zj (x3 + x5)])) rfl rfl rfl ?_
  show Zr sc 125 88 [zp a0, zj x1, zp a2, zj x3, zj x4, zj x5, v6, v7] [zp a2, zj (x3 + x5)] w ov w' c s
  obtain ⟨l_2, hw_1, h⟩ := h
  refine rl_al rfl hw_1 ?_
  show Zr sc 125 89 [zp a0, zj x1, zp a2, zj x3, zj x4, zj x5, v6, v7] [zj (l_2.length : Int), zj (x3 + x5)] w ov w' c s
  obtain ⟨hd_3, h⟩ := h
  refine rl_rem rfl hd_3.1 hd_3.2.1 hd_3.2.2.1 hd_3.2.2.2 ?_
  show Zr sc 125 90 [zp a0, zj x1, zp a2, zj x3, zj x4, zj x5, v6, v7] [zj ((x3 + x5) % (l_2.length : Int))] w ov w' c s
  refine Zr_st (q := (92, [zp a0, zj x1, zp a2, zj x3, zj x4, zj x5, zj ((x3 + x5) % (l_2.length : Int)), v7], [])) rfl rfl rfl ?_
  show Zr sc 125 92 [zp a0, zj x1, zp a2, zj x3, zj x4, zj x5, zj ((x3 + x5) % (l_2.length : Int)), v7] [] w ov w' c s
  refine Zr_st (q := (93, [zp a0, zj x1, zp a2, zj x3, zj x4, zj x5, zj ((x3 + x5) % (l_2.length : Int)), v7], [zp a0])) rfl rfl rfl ?_
  show Zr sc 125 93 [zp a0, zj x1, zp a2, zj x3, zj x4, zj x5, zj ((x3 + x5) % (l_2.length : Int)), v7] [zp a0] w ov w' c s
  refine rl_gf rfl L0 rfl rfl ?_
  show Zr sc 125 96 [zp a0, zj x1, zp a2, zj x3, zj x4, zj x5, zj ((x3 + x5) % (l_2.length : Int)), v7] [zp (a0 + 77)] w ov w' c s
  refine rl_ic rfl ?_
  show Zr sc 125 97 [zp a0, zj x1, zp a2, zj x3, zj x4, zj x5, zj ((x3 + x5) % (l_2.length : Int)), v7] [zj 0, zp (a0 + 77)] w ov w' c s
  refine Zr_st (q := (98, [zp a0, zj x1, zp a2, zj x3, zj x4, zj x5, zj ((x3 + x5) % (l_2.length : Int)), v7], [zj 0, zp (a0 + 77), zj 0, zp (a0 + 77)])) rfl rfl rfl ?_
  show Zr sc 125 98 [zp a0, zj x1, zp a2, zj x3, zj x4, zj x5, zj ((x3 + x5) % (l_2.length : Int)), v7] [zj 0, zp (a0 + 77), zj 0, zp (a0 + 77)] w ov w' c s
  obtain ⟨hi_4, h⟩ := h
  refine rl_ia rfl L77 hi_4.1 hi_4.2.1 hi_4.2.2 ?_
  show Zr sc 125 99 [zp a0, zj x1, zp a2, zj x3, zj x4, zj x5, zj ((x3 + x5) % (l_2.length : Int)), v7] [zj (zgi cn 0), zj 0, zp (a0 + 77)] w ov w' c s
  refine rl_ic rfl ?_
  show Zr sc 125 100 [zp a0, zj x1, zp a2, zj x3, zj x4, zj x5, zj ((x3 + x5) % (l_2.length : Int)), v7] [zj 1, zj (zgi cn 0), zj 0, zp (a0 + 77)] w ov w' c s
  refine rl_add rfl ?_
  show Zr sc 125 101 [zp a0, zj x1, zp a2, zj x3, zj x4, zj x5, zj ((x3 + x5) % (l_2.length : Int)), v7] [zj ((zgi cn 0) + 1), zj 0, zp (a0 + 77)] w ov w' c s
  obtain ⟨hi_5, h⟩ := h
  refine rl_is rfl L77 hi_5.1 hi_5.2.1 hi_5.2.2 ?_
  show Zr sc 125 102 [zp a0, zj x1, zp a2, zj x3, zj x4, zj x5, zj ((x3 + x5) % (l_2.length : Int)), v7] [] (w.set (a0 + 77) (za (zsi cn 0 ((zgi cn 0) + 1)))) ov w' c s
  refine Zr_st (q := (104, [zp a0, zj x1, zp a2, zj x3, zj x4, zj x5, zj ((x3 + x5) % (l_2.length : Int)), v7], [zj x4])) rfl rfl rfl ?_
  show Zr sc 125 104 [zp a0, zj x1, zp a2, zj x3, zj x4, zj x5, zj ((x3 + x5) % (l_2.length : Int)), v7] [zj x4] (w.set (a0 + 77) (za (zsi cn 0 ((zgi cn 0) + 1)))) ov w' c s
  obtain ⟨hr_6, h⟩ := h
  refine Zr_b0 (p := x4 < 0) rfl rfl (zcmp_0 (cnd := .lt) hr_6) (fun hp => ?_) (fun hp => ?_)
  · replace h := h.1 hp
    show Zr sc 125 148 [zp a0, zj x1, zp a2, zj x3, zj x4, zj x5, zj ((x3 + x5) % (l_2.length : Int)), v7] [] (w.set (a0 + 77) (za (zsi cn 0 ((zgi cn 0) + 1)))) ov w' c s
    refine rl_ic rfl ?_
    show Zr sc 125 149 [zp a0, zj x1, zp a2, zj x3, zj x4, zj x5, zj ((x3 + x5) % (l_2.length : Int)), v7] [zj 1] (w.set (a0 + 77) (za (zsi cn 0 ((zgi cn 0) + 1)))) ov w' c s
    refine Zr_st (q := (153, [zp a0, zj x1, zp a2, zj x3, zj x4, zj x5, zj ((x3 + x5) % (l_2.length : Int)), v7], [zj 1])) rfl rfl rfl ?_
    show Zr sc 125 153 [zp a0, zj x1, zp a2, zj x3, zj x4, zj x5, zj ((x3 + x5) % (l_2.length : Int)), v7] [zj 1] (w.set (a0 + 77) (za (zsi cn 0 ((zgi cn 0) + 1)))) ov w' c s
    refine Zr_st (q := (155, [zp a0, zj x1, zp a2, zj x3, zj x4, zj x5, zj ((x3 + x5) % (l_2.length : Int)), zj 1], [])) rfl rfl rfl ?_
    show Zr sc 125 155 [zp a0, zj x1, zp a2, zj x3, zj x4, zj x5, zj ((x3 + x5) % (l_2.length : Int)), zj 1] [] (w.set (a0 + 77) (za (zsi cn 0 ((zgi cn 0) + 1)))) ov w' c s
    exact h
  · replace h := h.2 hp
    show Zr sc 125 107 [zp a0, zj x1, zp a2, zj x3, zj x4, zj x5, zj ((x3 + x5) % (l_2.length : Int)), v7] [] (w.set (a0 + 77) (za (zsi cn 0 ((zgi cn 0) + 1)))) ov w' c s
    refine Zr_st (q := (108, [zp a0, zj x1, zp a2, zj x3, zj x4, zj x5, zj ((x3 + x5) % (l_2.length : Int)), v7], [zp a0])) rfl rfl rfl ?_
    show Zr sc 125 108 [zp a0, zj x1, zp a2, zj x3, zj x4, zj x5, zj ((x3 + x5) % (l_2.length : Int)), v7] [zp a0] (w.set (a0 + 77) (za (zsi cn 0 ((zgi cn 0) + 1)))) ov w' c s
    refine rl_gf rfl (zw_o (by omega) L0) rfl rfl ?_
    show Zr sc 125 111 [zp a0, zj x1, zp a2, zj x3, zj x4, zj x5, zj ((x3 + x5) % (l_2.length : Int)), v7] [zj wy] (w.set (a0 + 77) (za (zsi cn 0 ((zgi cn 0) + 1)))) ov w' c s
    refine rl_ic rfl ?_
    show Zr sc 125 112 [zp a0, zj x1, zp a2, zj x3, zj x4, zj x5, zj ((x3 + x5) % (l_2.length : Int)), v7] [zj 3, zj wy] (w.set (a0 + 77) (za (zsi cn 0 ((zgi cn 0) + 1)))) ov w' c s
    obtain ⟨hr_7, h⟩ := h
    refine Zr_br (p := wy ≠ 3) rfl rfl (zcmp_j (cnd := .ne) hr_7.1 hr_7.2) (fun hp => ?_) (fun hp => ?_)
    · replace h := h.1 hp
      show Zr sc 125 133 [zp a0, zj x1, zp a2, zj x3, zj x4, zj x5, zj ((x3 + x5) % (l_2.length : Int)), v7] [] (w.set (a0 + 77) (za (zsi cn 0 ((zgi cn 0) + 1)))) ov w' c s
      refine Zr_st (q := (134, [zp a0, zj x1, zp a2, zj x3, zj x4, zj x5, zj ((x3 + x5) % (l_2.length : Int)), v7], [zp a2])) rfl rfl rfl ?_
      show Zr sc 125 134 [zp a0, zj x1, zp a2, zj x3, zj x4, zj x5, zj ((x3 + x5) % (l_2.length : Int)), v7] [zp a2] (w.set (a0 + 77) (za (zsi cn 0 ((zgi cn 0) + 1)))) ov w' c s
      refine Zr_st (q := (136, [zp a0, zj x1, zp a2, zj x3, zj x4, zj x5, zj ((x3 + x5) % (l_2.length : Int)), v7], [zj ((x3 + x5) % (l_2.length : Int)), zp a2])) rfl rfl rfl ?_
      show Zr sc 125 136 [zp a0, zj x1, zp a2, zj x3, zj x4, zj x5, zj ((x3 + x5) % (l_2.length : Int)), v7] [zj ((x3 + x5) % (l_2.length : Int)), zp a2] (w.set (a0 + 77) (za (zsi cn 0 ((zgi cn 0) + 1)))) ov w' c s
      refine rl_ic rfl ?_
      show Zr sc 125 137 [zp a0, zj x1, zp a2, zj x3, zj x4, zj x5, zj ((x3 + x5) % (l_2.length : Int)), v7] [zj 1, zj ((x3 + x5) % (l_2.length : Int)), zp a2] (w.set (a0 + 77) (za (zsi cn 0 ((zgi cn 0) + 1)))) ov w' c s
      refine rl_add rfl ?_
      show Zr sc 125 138 [zp a0, zj x1, zp a2, zj x3, zj x4, zj x5, zj ((x3 + x5) % (l_2.length : Int)), v7] [zj (((x3 + x5) % (l_2.length : Int)) + 1), zp a2] (w.set (a0 + 77) (za (zsi cn 0 ((zgi cn 0) + 1)))) ov w' c s
      obtain ⟨hn_9, h⟩ := h
      obtain ⟨hi_8, h⟩ := h
      refine rl_ia rfl (zw_o hn_9 hw_1) hi_8.1 hi_8.2.1 hi_8.2.2 ?_
      show Zr sc 125 139 [zp a0, zj x1, zp a2, zj x3, zj x4, zj x5, zj ((x3 + x5) % (l_2.length : Int)), v7] [zj (zgi l_2 (((x3 + x5) % (l_2.length : Int)) + 1))] (w.set (a0 + 77) (za (zsi cn 0 ((zgi cn 0) + 1)))) ov w' c s
      refine Zr_st (q := (140, [zp a0, zj x1, zp a2, zj x3, zj x4, zj x5, zj ((x3 + x5) % (l_2.length : Int)), v7], [zp a2, zj (zgi l_2 (((x3 + x5) % (l_2.length : Int)) + 1))])) rfl rfl rfl ?_
      show Zr sc 125 140 [zp a0, zj x1, zp a2, zj x3, zj x4, zj x5, zj ((x3 + x5) % (l_2.length : Int)), v7] [zp a2, zj (zgi l_2 (((x3 + x5) % (l_2.length : Int)) + 1))] (w.set (a0 + 77) (za (zsi cn 0 ((zgi cn 0) + 1)))) ov w' c s
      refine Zr_st (q := (142, [zp a0, zj x1, zp a2, zj x3, zj x4, zj x5, zj ((x3 + x5) % (l_2.length : Int)), v7], [zj x4, zp a2, zj (zgi l_2 (((x3 + x5) % (l_2.length : Int)) + 1))])) rfl rfl rfl ?_
      show Zr sc 125 142 [zp a0, zj x1, zp a2, zj x3, zj x4, zj x5, zj ((x3 + x5) % (l_2.length : Int)), v7] [zj x4, zp a2, zj (zgi l_2 (((x3 + x5) % (l_2.length : Int)) + 1))] (w.set (a0 + 77) (za (zsi cn 0 ((zgi cn 0) + 1)))) ov w' c s
      refine rl_ic rfl ?_
      show Zr sc 125 143 [zp a0, zj x1, zp a2, zj x3, zj x4, zj x5, zj ((x3 + x5) % (l_2.length : Int)), v7] [zj 1, zj x4, zp a2, zj (zgi l_2 (((x3 + x5) % (l_2.length : Int)) + 1))] (w.set (a0 + 77) (za (zsi cn 0 ((zgi cn 0) + 1)))) ov w' c s
      refine rl_add rfl ?_
      show Zr sc 125 144 [zp a0, zj x1, zp a2, zj x3, zj x4, zj x5, zj ((x3 + x5) % (l_2.length : Int)), v7] [zj (x4 + 1), zp a2, zj (zgi l_2 (((x3 + x5) % (l_2.length : Int)) + 1))] (w.set (a0 + 77) (za (zsi cn 0 ((zgi cn 0) + 1)))) ov w' c s
      obtain ⟨hi_10, h⟩ := h
      refine rl_ia rfl (zw_o hn_9 hw_1) hi_10.1 hi_10.2.1 hi_10.2.2 ?_
      show Zr sc 125 145 [zp a0, zj x1, zp a2, zj x3, zj x4, zj x5, zj ((x3 + x5) % (l_2.length : Int)), v7] [zj (zgi l_2 (x4 + 1)), zj (zgi l_2 (((x3 + x5) % (l_2.length : Int)) + 1))] (w.set (a0 + 77) (za (zsi cn 0 ((zgi cn 0) + 1)))) ov w' c s
      obtain ⟨hr_11, h⟩ := h
      refine Zr_br (p := (zgi l_2 (x4 + 1)) ≤ (zgi l_2 (((x3 + x5) % (l_2.length : Int)) + 1))) rfl rfl (zcmp_j (cnd := .ge) hr_11.1 hr_11.2) (fun hp => ?_) (fun hp => ?_)
      · replace h := h.1 hp
        show Zr sc 125 152 [zp a0, zj x1, zp a2, zj x3, zj x4, zj x5, zj ((x3 + x5) % (l_2.length : Int)), v7] [] (w.set (a0 + 77) (za (zsi cn 0 ((zgi cn 0) + 1)))) ov w' c s
        refine rl_ic rfl ?_
        show Zr sc 125 153 [zp a0, zj x1, zp a2, zj x3, zj x4, zj x5, zj ((x3 + x5) % (l_2.length : Int)), v7] [zj 0] (w.set (a0 + 77) (za (zsi cn 0 ((zgi cn 0) + 1)))) ov w' c s
        refine Zr_st (q := (155, [zp a0, zj x1, zp a2, zj x3, zj x4, zj x5, zj ((x3 + x5) % (l_2.length : Int)), zj 0], [])) rfl rfl rfl ?_
        show Zr sc 125 155 [zp a0, zj x1, zp a2, zj x3, zj x4, zj x5, zj ((x3 + x5) % (l_2.length : Int)), zj 0] [] (w.set (a0 + 77) (za (zsi cn 0 ((zgi cn 0) + 1)))) ov w' c s
        exact h
      · replace h := h.2 hp
        show Zr sc 125 148 [zp a0, zj x1, zp a2, zj x3, zj x4, zj x5, zj ((x3 + x5) % (l_2.length : Int)), v7] [] (w.set (a0 + 77) (za (zsi cn 0 ((zgi cn 0) + 1)))) ov w' c s
        refine rl_ic rfl ?_
        show Zr sc 125 149 [zp a0, zj x1, zp a2, zj x3, zj x4, zj x5, zj ((x3 + x5) % (l_2.length : Int)), v7] [zj 1] (w.set (a0 + 77) (za (zsi cn 0 ((zgi cn 0) + 1)))) ov w' c s
        refine Zr_st (q := (153, [zp a0, zj x1, zp a2, zj x3, zj x4, zj x5, zj ((x3 + x5) % (l_2.length : Int)), v7], [zj 1])) rfl rfl rfl ?_
        show Zr sc 125 153 [zp a0, zj x1, zp a2, zj x3, zj x4, zj x5, zj ((x3 + x5) % (l_2.length : Int)), v7] [zj 1] (w.set (a0 + 77) (za (zsi cn 0 ((zgi cn 0) + 1)))) ov w' c s
        refine Zr_st (q := (155, [zp a0, zj x1, zp a2, zj x3, zj x4, zj x5, zj ((x3 + x5) % (l_2.length : Int)), zj 1], [])) rfl rfl rfl ?_
        show Zr sc 125 155 [zp a0, zj x1, zp a2, zj x3, zj x4, zj x5, zj ((x3 + x5) % (l_2.length : Int)), zj 1] [] (w.set (a0 + 77) (za (zsi cn 0 ((zgi cn 0) + 1)))) ov w' c s
        exact h
    · replace h := h.2 hp
      show Zr sc 125 115 [zp a0, zj x1, zp a2, zj x3, zj x4, zj x5, zj ((x3 + x5) % (l_2.length : Int)), v7] [] (w.set (a0 + 77) (za (zsi cn 0 ((zgi cn 0) + 1)))) ov w' c s
      refine Zr_st (q := (116, [zp a0, zj x1, zp a2, zj x3, zj x4, zj x5, zj ((x3 + x5) % (l_2.length : Int)), v7], [zp a2])) rfl rfl rfl ?_
      show Zr sc 125 116 [zp a0, zj x1, zp a2, zj x3, zj x4, zj x5, zj ((x3 + x5) % (l_2.length : Int)), v7] [zp a2] (w.set (a0 + 77) (za (zsi cn 0 ((zgi cn 0) + 1)))) ov w' c s
      refine Zr_st (q := (118, [zp a0, zj x1, zp a2, zj x3, zj x4, zj x5, zj ((x3 + x5) % (l_2.length : Int)), v7], [zj ((x3 + x5) % (l_2.length : Int)), zp a2])) rfl rfl rfl ?_
      show Zr sc 125 118 [zp a0, zj x1, zp a2, zj x3, zj x4, zj x5, zj ((x3 + x5) % (l_2.length : Int)), v7] [zj ((x3 + x5) % (l_2.length : Int)), zp a2] (w.set (a0 + 77) (za (zsi cn 0 ((zgi cn 0) + 1)))) ov w' c s
      refine rl_ic rfl ?_
      show Zr sc 125 119 [zp a0, zj x1, zp a2, zj x3, zj x4, zj x5, zj ((x3 + x5) % (l_2.length : Int)), v7] [zj 1, zj ((x3 + x5) % (l_2.length : Int)), zp a2] (w.set (a0 + 77) (za (zsi cn 0 ((zgi cn 0) + 1)))) ov w' c s
      refine rl_add rfl ?_
      show Zr sc 125 120 [zp a0, zj x1, zp a2, zj x3, zj x4, zj x5, zj ((x3 + x5) % (l_2.length : Int)), v7] [zj (((x3 + x5) % (l_2.length : Int)) + 1), zp a2] (w.set (a0 + 77) (za (zsi cn 0 ((zgi cn 0) + 1)))) ov w' c s
      obtain ⟨hn_13, h⟩ := h
      obtain ⟨hi_12, h⟩ := h
      refine rl_ia rfl (zw_o hn_13 hw_1) hi_12.1 hi_12.2.1 hi_12.2.2 ?_
      show Zr sc 125 121 [zp a0, zj x1, zp a2, zj x3, zj x4, zj x5, zj ((x3 + x5) % (l_2.length : Int)), v7] [zj (zgi l_2 (((x3 + x5) % (l_2.length : Int)) + 1))] (w.set (a0 + 77) (za (zsi cn 0 ((zgi cn 0) + 1)))) ov w' c s
      refine Zr_st (q := (122, [zp a0, zj x1, zp a2, zj x3, zj x4, zj x5, zj ((x3 + x5) % (l_2.length : Int)), v7], [zp a2, zj (zgi l_2 (((x3 + x5) % (l_2.length : Int)) + 1))])) rfl rfl rfl ?_
      show Zr sc 125 122 [zp a0, zj x1, zp a2, zj x3, zj x4, zj x5, zj ((x3 + x5) % (l_2.length : Int)), v7] [zp a2, zj (zgi l_2 (((x3 + x5) % (l_2.length : Int)) + 1))] (w.set (a0 + 77) (za (zsi cn 0 ((zgi cn 0) + 1)))) ov w' c s
      refine Zr_st (q := (124, [zp a0, zj x1, zp a2, zj x3, zj x4, zj x5, zj ((x3 + x5) % (l_2.length : Int)), v7], [zj x4, zp a2, zj (zgi l_2 (((x3 + x5) % (l_2.length : Int)) + 1))])) rfl rfl rfl ?_
      show Zr sc 125 124 [zp a0, zj x1, zp a2, zj x3, zj x4, zj x5, zj ((x3 + x5) % (l_2.length : Int)), v7] [zj x4, zp a2, zj (zgi l_2 (((x3 + x5) % (l_2.length : Int)) + 1))] (w.set (a0 + 77) (za (zsi cn 0 ((zgi cn 0) + 1)))) ov w' c s
      refine rl_ic rfl ?_
      show Zr sc 125 125 [zp a0, zj x1, zp a2, zj x3, zj x4, zj x5, zj ((x3 + x5) % (l_2.length : Int)), v7] [zj 1, zj x4, zp a2, zj (zgi l_2 (((x3 + x5) % (l_2.length : Int)) + 1))] (w.set (a0 + 77) (za (zsi cn 0 ((zgi cn 0) + 1)))) ov w' c s
      refine rl_add rfl ?_
      show Zr sc 125 126 [zp a0, zj x1, zp a2, zj x3, zj x4, zj x5, zj ((x3 + x5) % (l_2.length : Int)), v7] [zj (x4 + 1), zp a2, zj (zgi l_2 (((x3 + x5) % (l_2.length : Int)) + 1))] (w.set (a0 + 77) (za (zsi cn 0 ((zgi cn 0) + 1)))) ov w' c s
      obtain ⟨hi_14, h⟩ := h
      refine rl_ia rfl (zw_o hn_13 hw_1) hi_14.1 hi_14.2.1 hi_14.2.2 ?_
      show Zr sc 125 127 [zp a0, zj x1, zp a2, zj x3, zj x4, zj x5, zj ((x3 + x5) % (l_2.length : Int)), v7] [zj (zgi l_2 (x4 + 1)), zj (zgi l_2 (((x3 + x5) % (l_2.length : Int)) + 1))] (w.set (a0 + 77) (za (zsi cn 0 ((zgi cn 0) + 1)))) ov w' c s
      obtain ⟨hr_15, h⟩ := h
      refine Zr_br (p := (zgi l_2 (((x3 + x5) % (l_2.length : Int)) + 1)) ≤ (zgi l_2 (x4 + 1))) rfl rfl (zcmp_j (cnd := .le) hr_15.1 hr_15.2) (fun hp => ?_) (fun hp => ?_)
      · replace h := h.1 hp
        show Zr sc 125 152 [zp a0, zj x1, zp a2, zj x3, zj x4, zj x5, zj ((x3 + x5) % (l_2.length : Int)), v7] [] (w.set (a0 + 77) (za (zsi cn 0 ((zgi cn 0) + 1)))) ov w' c s
        refine rl_ic rfl ?_
        show Zr sc 125 153 [zp a0, zj x1, zp a2, zj x3, zj x4, zj x5, zj ((x3 + x5) % (l_2.length : Int)), v7] [zj 0] (w.set (a0 + 77) (za (zsi cn 0 ((zgi cn 0) + 1)))) ov w' c s
        refine Zr_st (q := (155, [zp a0, zj x1, zp a2, zj x3, zj x4, zj x5, zj ((x3 + x5) % (l_2.length : Int)), zj 0], [])) rfl rfl rfl ?_
        show Zr sc 125 155 [zp a0, zj x1, zp a2, zj x3, zj x4, zj x5, zj ((x3 + x5) % (l_2.length : Int)), zj 0] [] (w.set (a0 + 77) (za (zsi cn 0 ((zgi cn 0) + 1)))) ov w' c s
        exact h
      · replace h := h.2 hp
        show Zr sc 125 130 [zp a0, zj x1, zp a2, zj x3, zj x4, zj x5, zj ((x3 + x5) % (l_2.length : Int)), v7] [] (w.set (a0 + 77) (za (zsi cn 0 ((zgi cn 0) + 1)))) ov w' c s
        refine Zr_st (q := (148, [zp a0, zj x1, zp a2, zj x3, zj x4, zj x5, zj ((x3 + x5) % (l_2.length : Int)), v7], [])) rfl rfl rfl ?_
        show Zr sc 125 148 [zp a0, zj x1, zp a2, zj x3, zj x4, zj x5, zj ((x3 + x5) % (l_2.length : Int)), v7] [] (w.set (a0 + 77) (za (zsi cn 0 ((zgi cn 0) + 1)))) ov w' c s
        refine rl_ic rfl ?_
        show Zr sc 125 149 [zp a0, zj x1, zp a2, zj x3, zj x4, zj x5, zj ((x3 + x5) % (l_2.length : Int)), v7] [zj 1] (w.set (a0 + 77) (za (zsi cn 0 ((zgi cn 0) + 1)))) ov w' c s
        refine Zr_st (q := (153, [zp a0, zj x1, zp a2, zj x3, zj x4, zj x5, zj ((x3 + x5) % (l_2.length : Int)), v7], [zj 1])) rfl rfl rfl ?_
        show Zr sc 125 153 [zp a0, zj x1, zp a2, zj x3, zj x4, zj x5, zj ((x3 + x5) % (l_2.length : Int)), v7] [zj 1] (w.set (a0 + 77) (za (zsi cn 0 ((zgi cn 0) + 1)))) ov w' c s
        refine Zr_st (q := (155, [zp a0, zj x1, zp a2, zj x3, zj x4, zj x5, zj ((x3 + x5) % (l_2.length : Int)), zj 1], [])) rfl rfl rfl ?_
        show Zr sc 125 155 [zp a0, zj x1, zp a2, zj x3, zj x4, zj x5, zj ((x3 + x5) % (l_2.length : Int)), zj 1] [] (w.set (a0 + 77) (za (zsi cn 0 ((zgi cn 0) + 1)))) ov w' c s
        exact h
set_option maxRecDepth 100000 in
theorem V125_155 {sc : List Value} {w w' : List zE} {ov : Option Value} {c s : Nat} {a0 : Nat} {x1 : Int} {a2 : Nat} {x3 : Int} {x4 : Int} {x5 : Int} {x6 : Int} {x7 : Int} (h : (∃ l_3 : List Int, w[a2]? = some (za l_3) ∧ (((0 : Int) ≤ (x6 + 1) ∧ (x6 + 1) < (l_3.length : Int) ∧ (x6 + 1) ≤ (2147483647 : Int)) ∧ ((zrg (zgi l_3 (x6 + 1)) ∧ zrg x1) ∧ (((zgi l_3 (x6 + 1)) < x1 → Zr sc 125 63 [zp a0, zj x1, zp a2, zj x3, zj x4, zj (x5 + 2), zj x6, zj x7] [] w ov w' c s) ∧ (¬ ((zgi l_3 (x6 + 1)) < x1) → ((zrg x7) ∧ ((x7 = 0 → Zr sc 125 63 [zp a0, zj x1, zp a2, zj x3, zj x4, zj (x5 + 2), zj x6, zj x7] [] w ov w' c s) ∧ (¬ (x7 = 0) → Zr sc 125 63 [zp a0, zj x1, zp a2, zj x3, zj x6, zj (x5 + 2), zj x6, zj x7] [] w ov w' c s))))))))) : Zr sc 125 155 [zp a0, zj x1, zp a2, zj x3, zj x4, zj x5, zj x6, zj x7] [] w ov w' c s := by
  refine Zr_st (q := (156, [zp a0, zj x1, zp a2, zj x3, zj x4, zj x5, zj x6, zj x7], [zp a2])) rfl rfl rfl ?_
  show Zr sc 125 156 [zp a0, zj x1, zp a2, zj x3, zj x4, zj x5, zj x6, zj x7] [zp a2] w ov w' c s
  refine Zr_st (q := (158, [zp a0, zj x1, zp a2, zj x3, zj x4, zj x5, zj x6, zj x7], [zj x6, zp a2])) rfl rfl rfl ?_
  show Zr sc 125 158 [zp a0, zj x1, zp a2, zj x3, zj x4, zj x5, zj x6, zj x7] [zj x6, zp a2] w ov w' c s
  refine rl_ic rfl ?_
  show Zr sc 125 159 [zp a0, zj x1, zp a2, zj x3, zj x4, zj x5, zj x6, zj x7] [zj 1, zj x6, zp a2] w ov w' c s
  refine rl_add rfl ?_
  show Zr sc 125 160 [zp a0, zj x1, zp a2, zj x3, zj x4, zj x5, zj x6, zj x7] [zj (x6 + 1), zp a2] w ov w' c s
  obtain ⟨l_3, hw_2, h⟩ := h
  obtain ⟨hi_1, h⟩ := h
  refine rl_ia rfl hw_2 hi_1.1 hi_1.2.1 hi_1.2.2 ?_
  show Zr sc 125 161 [zp a0, zj x1, zp a2, zj x3, zj x4, zj x5, zj x6, zj x7] [zj (zgi l_3 (x6 + 1))] w ov w' c s
  refine Zr_st (q := (162, [zp a0, zj x1, zp a2, zj x3, zj x4, zj x5, zj x6, zj x7], [zj x1, zj (zgi l_3 (x6 + 1))])) rfl rfl rfl ?_
  show Zr sc 125 162 [zp a0, zj x1, zp a2, zj x3, zj x4, zj x5, zj x6, zj x7] [zj x1, zj (zgi l_3 (x6 + 1))] w ov w' c s
  obtain ⟨hr_4, h⟩ := h
  refine Zr_br (p := (zgi l_3 (x6 + 1)) < x1) rfl rfl (zcmp_j (cnd := .lt) hr_4.1 hr_4.2) (fun hp => ?_) (fun hp => ?_)
  · replace h := h.1 hp
    show Zr sc 125 174 [zp a0, zj x1, zp a2, zj x3, zj x4, zj x5, zj x6, zj x7] [] w ov w' c s
    refine rl_inc rfl rfl rfl rfl ?_
    show Zr sc 125 177 [zp a0, zj x1, zp a2, zj x3, zj x4, zj (x5 + 2), zj x6, zj x7] [] w ov w' c s
    refine Zr_st (q := (63, [zp a0, zj x1, zp a2, zj x3, zj x4, zj (x5 + 2), zj x6, zj x7], [])) rfl rfl rfl ?_
    show Zr sc 125 63 [zp a0, zj x1, zp a2, zj x3, zj x4, zj (x5 + 2), zj x6, zj x7] [] w ov w' c s
    exact h
  · replace h := h.2 hp
    show Zr sc 125 165 [zp a0, zj x1, zp a2, zj x3, zj x4, zj x5, zj x6, zj x7] [] w ov w' c s
    refine Zr_st (q := (167, [zp a0, zj x1, zp a2, zj x3, zj x4, zj x5, zj x6, zj x7], [zj x7])) rfl rfl rfl ?_
    show Zr sc 125 167 [zp a0, zj x1, zp a2, zj x3, zj x4, zj x5, zj x6, zj x7] [zj x7] w ov w' c s
    obtain ⟨hr_5, h⟩ := h
    refine Zr_b0 (p := x7 = 0) rfl rfl (zcmp_0 (cnd := .eq) hr_5) (fun hp => ?_) (fun hp => ?_)
    · replace h := h.1 hp
      show Zr sc 125 174 [zp a0, zj x1, zp a2, zj x3, zj x4, zj x5, zj x6, zj x7] [] w ov w' c s
      refine rl_inc rfl rfl rfl rfl ?_
      show Zr sc 125 177 [zp a0, zj x1, zp a2, zj x3, zj x4, zj (x5 + 2), zj x6, zj x7] [] w ov w' c s
      refine Zr_st (q := (63, [zp a0, zj x1, zp a2, zj x3, zj x4, zj (x5 + 2), zj x6, zj x7], [])) rfl rfl rfl ?_
      show Zr sc 125 63 [zp a0, zj x1, zp a2, zj x3, zj x4, zj (x5 + 2), zj x6, zj x7] [] w ov w' c s
      exact h
    · replace h := h.2 hp
      show Zr sc 125 170 [zp a0, zj x1, zp a2, zj x3, zj x4, zj x5, zj x6, zj x7] [] w ov w' c s
      refine Zr_st (q := (172, [zp a0, zj x1, zp a2, zj x3, zj x4, zj x5, zj x6, zj x7], [zj x6])) rfl rfl rfl ?_
      show Zr sc 125 172 [zp a0, zj x1, zp a2, zj x3, zj x4, zj x5, zj x6, zj x7] [zj x6] w ov w' c s
      refine Zr_st (q := (174, [zp a0, zj x1, zp a2, zj x3, zj x6, zj x5, zj x6, zj x7], [])) rfl rfl rfl ?_
      show Zr sc 125 174 [zp a0, zj x1, zp a2, zj x3, zj x6, zj x5, zj x6, zj x7] [] w ov w' c s
      refine rl_inc rfl rfl rfl rfl ?_
      show Zr sc 125 177 [zp a0, zj x1, zp a2, zj x3, zj x6, zj (x5 + 2), zj x6, zj x7] [] w ov w' c s
      refine Zr_st (q := (63, [zp a0, zj x1, zp a2, zj x3, zj x6, zj (x5 + 2), zj x6, zj x7], [])) rfl rfl rfl ?_
      show Zr sc 125 63 [zp a0, zj x1, zp a2, zj x3, zj x6, zj (x5 + 2), zj x6, zj x7] [] w ov w' c s
      exact h
set_option maxRecDepth 100000 in
theorem V125_180 {sc : List Value} {w w' : List zE} {ov : Option Value} {c s : Nat} {a0 : Nat} {x1 : Int} {a2 : Nat} {x3 : Int} {x4 : Int} {x5 : Int} {v6 : Value} {v7 : Value} {dr : Int} {wy : Int} {st : Int} {hd : Int} {nm : Int} {ar : Int} {hn : Int} {pk : Int} {D : Nat} {tl : Int} {cn : List Int} (L0 : w[a0]? = some (zob 7 [zp (a0 + 1), .ref 0, zj dr, zj wy, zj st, zj hd, zp (a0 + 73), zj nm, zp (a0 + 74), zp (a0 + 75), zp (a0 + 76), zj ar, zj hn, zp (a0 + 77), zj pk, zp D, zj tl])) (L77 : w[(a0 + 77)]? = some (za cn)) (h : ((zrg x4) ∧ ((0 ≤ x4 → (∃ l_4 : List Int, w[a2]? = some (za l_4) ∧ (((0 : Int) ≤ (x4 + 1) ∧ (x4 + 1) < (l_4.length : Int) ∧ (x4 + 1) ≤ (2147483647 : Int)) ∧ ((zrg wy ∧ zrg 4) ∧ ((4 ≤ wy → Zr sc 125 219 [zp a0, zj x1, zp a2, zj x3, zj x4, zj (zgi l_4 (x4 + 1)), v6, v7] [] w ov w' c s) ∧ (¬ (4 ≤ wy) → ((zrg (zgi l_4 (x4 + 1)) ∧ zrg x1) ∧ (((zgi l_4 (x4 + 1)) ≤ x1 → Zr sc 125 219 [zp a0, zj x1, zp a2, zj x3, zj x4, zj (zgi l_4 (x4 + 1)), v6, v7] [] w ov w' c s) ∧ (¬ ((zgi l_4 (x4 + 1)) ≤ x1) → (((0 : Int) ≤ 1 ∧ 1 < (cn.length : Int) ∧ 1 ≤ (2147483647 : Int)) ∧ (((0 : Int) ≤ 1 ∧ 1 < (cn.length : Int) ∧ 1 ≤ (2147483647 : Int)) ∧ Zr sc 125 219 [zp a0, zj x1, zp a2, zj x3, zj x4, zj (zgi l_4 (x4 + 1)), v6, v7] [] (w.set (a0 + 77) (za (zsi cn 1 ((zgi cn 1) + 1)))) ov w' c s))))))))))) ∧ (¬ (0 ≤ x4) → (ov = some (zj (-1)) ∧ w' = w ∧ c = 0 ∧ s = 0))))) : Zr sc 125 180 [zp a0, zj x1, zp a2, zj x3, zj x4, zj x5, v6, v7] [] w ov w' c s := by
  refine Zr_st (q := (182, [zp a0, zj x1, zp a2, zj x3, zj x4, zj x5, v6, v7], [zj x4])) rfl rfl rfl ?_
  show Zr sc 125 182 [zp a0, zj x1, zp a2, zj x3, zj x4, zj x5, v6, v7] [zj x4] w ov w' c s
  obtain ⟨hr_1, h⟩ := h
  refine Zr_b0 (p := 0 ≤ x4) rfl rfl (zcmp_0 (cnd := .ge) hr_1) (fun hp => ?_) (fun hp => ?_)
  · replace h := h.1 hp
    show Zr sc 125 187 [zp a0, zj x1, zp a2, zj x3, zj x4, zj x5, v6, v7] [] w ov w' c s
    refine Zr_st (q := (188, [zp a0, zj x1, zp a2, zj x3, zj x4, zj x5, v6, v7], [zp a2])) rfl rfl rfl ?_
    show Zr sc 125 188 [zp a0, zj x1, zp a2, zj x3, zj x4, zj x5, v6, v7] [zp a2] w ov w' c s
    refine Zr_st (q := (190, [zp a0, zj x1, zp a2, zj x3, zj x4, zj x5, v6, v7], [zj x4, zp a2])) rfl rfl rfl ?_
    show Zr sc 125 190 [zp a0, zj x1, zp a2, zj x3, zj x4, zj x5, v6, v7] [zj x4, zp a2] w ov w' c s
    refine rl_ic rfl ?_
    show Zr sc 125 191 [zp a0, zj x1, zp a2, zj x3, zj x4, zj x5, v6, v7] [zj 1, zj x4, zp a2] w ov w' c s
    refine rl_add rfl ?_
    show Zr sc 125 192 [zp a0, zj x1, zp a2, zj x3, zj x4, zj x5, v6, v7] [zj (x4 + 1), zp a2] w ov w' c s
    obtain ⟨l_4, hw_3, h⟩ := h
    obtain ⟨hi_2, h⟩ := h
    refine rl_ia rfl hw_3 hi_2.1 hi_2.2.1 hi_2.2.2 ?_
    show Zr sc 125 193 [zp a0, zj x1, zp a2, zj x3, zj x4, zj x5, v6, v7] [zj (zgi l_4 (x4 + 1))] w ov w' c s
    refine Zr_st (q := (195, [zp a0, zj x1, zp a2, zj x3, zj x4, zj (zgi l_4 (x4 + 1)), v6, v7], [])) rfl rfl rfl ?_
    show Zr sc 125 195 [zp a0, zj x1, zp a2, zj x3, zj x4, zj (zgi l_4 (x4 + 1)), v6, v7] [] w ov w' c s
    refine Zr_st (q := (196, [zp a0, zj x1, zp a2, zj x3, zj x4, zj (zgi l_4 (x4 + 1)), v6, v7], [zp a0])) rfl rfl rfl ?_
    show Zr sc 125 196 [zp a0, zj x1, zp a2, zj x3, zj x4, zj (zgi l_4 (x4 + 1)), v6, v7] [zp a0] w ov w' c s
    refine rl_gf rfl L0 rfl rfl ?_
    show Zr sc 125 199 [zp a0, zj x1, zp a2, zj x3, zj x4, zj (zgi l_4 (x4 + 1)), v6, v7] [zj wy] w ov w' c s
    refine rl_ic rfl ?_
    show Zr sc 125 200 [zp a0, zj x1, zp a2, zj x3, zj x4, zj (zgi l_4 (x4 + 1)), v6, v7] [zj 4, zj wy] w ov w' c s
    obtain ⟨hr_5, h⟩ := h
    refine Zr_br (p := 4 ≤ wy) rfl rfl (zcmp_j (cnd := .ge) hr_5.1 hr_5.2) (fun hp => ?_) (fun hp => ?_)
    · replace h := h.1 hp
      show Zr sc 125 219 [zp a0, zj x1, zp a2, zj x3, zj x4, zj (zgi l_4 (x4 + 1)), v6, v7] [] w ov w' c s
      exact h
    · replace h := h.2 hp
      show Zr sc 125 203 [zp a0, zj x1, zp a2, zj x3, zj x4, zj (zgi l_4 (x4 + 1)), v6, v7] [] w ov w' c s
      refine Zr_st (q := (205, [zp a0, zj x1, zp a2, zj x3, zj x4, zj (zgi l_4 (x4 + 1)), v6, v7], [zj (zgi l_4 (x4 + 1))])) rfl rfl rfl ?_
      show Zr sc 125 205 [zp a0, zj x1, zp a2, zj x3, zj x4, zj (zgi l_4 (x4 + 1)), v6, v7] [zj (zgi l_4 (x4 + 1))] w ov w' c s
      refine Zr_st (q := (206, [zp a0, zj x1, zp a2, zj x3, zj x4, zj (zgi l_4 (x4 + 1)), v6, v7], [zj x1, zj (zgi l_4 (x4 + 1))])) rfl rfl rfl ?_
      show Zr sc 125 206 [zp a0, zj x1, zp a2, zj x3, zj x4, zj (zgi l_4 (x4 + 1)), v6, v7] [zj x1, zj (zgi l_4 (x4 + 1))] w ov w' c s
      obtain ⟨hr_6, h⟩ := h
      refine Zr_br (p := (zgi l_4 (x4 + 1)) ≤ x1) rfl rfl (zcmp_j (cnd := .le) hr_6.1 hr_6.2) (fun hp => ?_) (fun hp => ?_)
      · replace h := h.1 hp
        show Zr sc 125 219 [zp a0, zj x1, zp a2, zj x3, zj x4, zj (zgi l_4 (x4 + 1)), v6, v7] [] w ov w' c s
        exact h
      · replace h := h.2 hp
        show Zr sc 125 209 [zp a0, zj x1, zp a2, zj x3, zj x4, zj (zgi l_4 (x4 + 1)), v6, v7] [] w ov w' c s
        refine Zr_st (q := (210, [zp a0, zj x1, zp a2, zj x3, zj x4, zj (zgi l_4 (x4 + 1)), v6, v7], [zp a0])) rfl rfl rfl ?_
        show Zr sc 125 210 [zp a0, zj x1, zp a2, zj x3, zj x4, zj (zgi l_4 (x4 + 1)), v6, v7] [zp a0] w ov w' c s
        refine rl_gf rfl L0 rfl rfl ?_
        show Zr sc 125 213 [zp a0, zj x1, zp a2, zj x3, zj x4, zj (zgi l_4 (x4 + 1)), v6, v7] [zp (a0 + 77)] w ov w' c s
        refine rl_ic rfl ?_
        show Zr sc 125 214 [zp a0, zj x1, zp a2, zj x3, zj x4, zj (zgi l_4 (x4 + 1)), v6, v7] [zj 1, zp (a0 + 77)] w ov w' c s
        refine Zr_st (q := (215, [zp a0, zj x1, zp a2, zj x3, zj x4, zj (zgi l_4 (x4 + 1)), v6, v7], [zj 1, zp (a0 + 77), zj 1, zp (a0 + 77)])) rfl rfl rfl ?_
        show Zr sc 125 215 [zp a0, zj x1, zp a2, zj x3, zj x4, zj (zgi l_4 (x4 + 1)), v6, v7] [zj 1, zp (a0 + 77), zj 1, zp (a0 + 77)] w ov w' c s
        obtain ⟨hi_7, h⟩ := h
        refine rl_ia rfl L77 hi_7.1 hi_7.2.1 hi_7.2.2 ?_
        show Zr sc 125 216 [zp a0, zj x1, zp a2, zj x3, zj x4, zj (zgi l_4 (x4 + 1)), v6, v7] [zj (zgi cn 1), zj 1, zp (a0 + 77)] w ov w' c s
        refine rl_ic rfl ?_
        show Zr sc 125 217 [zp a0, zj x1, zp a2, zj x3, zj x4, zj (zgi l_4 (x4 + 1)), v6, v7] [zj 1, zj (zgi cn 1), zj 1, zp (a0 + 77)] w ov w' c s
        refine rl_add rfl ?_
        show Zr sc 125 218 [zp a0, zj x1, zp a2, zj x3, zj x4, zj (zgi l_4 (x4 + 1)), v6, v7] [zj ((zgi cn 1) + 1), zj 1, zp (a0 + 77)] w ov w' c s
        obtain ⟨hi_8, h⟩ := h
        refine rl_is rfl L77 hi_8.1 hi_8.2.1 hi_8.2.2 ?_
        show Zr sc 125 219 [zp a0, zj x1, zp a2, zj x3, zj x4, zj (zgi l_4 (x4 + 1)), v6, v7] [] (w.set (a0 + 77) (za (zsi cn 1 ((zgi cn 1) + 1)))) ov w' c s
        exact h
  · replace h := h.2 hp
    show Zr sc 125 185 [zp a0, zj x1, zp a2, zj x3, zj x4, zj x5, v6, v7] [] w ov w' c s
    refine rl_ic rfl ?_
    show Zr sc 125 186 [zp a0, zj x1, zp a2, zj x3, zj x4, zj x5, v6, v7] [zj (-1)] w ov w' c s
    obtain ⟨h1, h2, h3, h4⟩ := h
    subst h1; subst h2; subst h3; subst h4
    exact Zr_ret (ins := .ireturn) rfl rfl
set_option maxRecDepth 100000 in
theorem V125_219 {sc : List Value} {w w' : List zE} {ov : Option Value} {c s : Nat} {a0 : Nat} {x1 : Int} {a2 : Nat} {x3 : Int} {x4 : Int} {x5 : Int} {v6 : Value} {v7 : Value} {dr : Int} {wy : Int} {st : Int} {hd : Int} {nm : Int} {ar : Int} {hn : Int} {pk : Int} {D : Nat} {tl : Int} {cn : List Int} (L0 : w[a0]? = some (zob 7 [zp (a0 + 1), .ref 0, zj dr, zj wy, zj st, zj hd, zp (a0 + 73), zj nm, zp (a0 + 74), zp (a0 + 75), zp (a0 + 76), zj ar, zj hn, zp (a0 + 77), zj pk, zp D, zj tl])) (L77 : w[(a0 + 77)]? = some (za cn)) (h : ((zrg wy ∧ zrg 4) ∧ ((wy ≠ 4 → Zr sc 125 252 [zp a0, zj x1, zp a2, zj x3, zj x4, zj x5, v6, v7] [] w ov w' c s) ∧ (¬ (wy ≠ 4) → ((zrg x5 ∧ zrg x1) ∧ ((x5 ≤ x1 → Zr sc 125 252 [zp a0, zj x1, zp a2, zj x3, zj x4, zj x5, v6, v7] [] w ov w' c s) ∧ (¬ (x5 ≤ x1) → (((0 : Int) ≤ x5 ∧ x5 ≤ (2147483647 : Int) ∧ (0 : Int) < 2 ∧ 2 ≤ (2147483647 : Int)) ∧ (((0 : Int) ≤ 1 ∧ 1 < (cn.length : Int) ∧ 1 ≤ (2147483647 : Int)) ∧ (((0 : Int) ≤ 1 ∧ 1 < (cn.length : Int) ∧ 1 ≤ (2147483647 : Int)) ∧ Zr sc 125 219 [zp a0, zj x1, zp a2, zj x3, zj x4, zj (x5 / 2), v6, v7] [] (w.set (a0 + 77) (za (zsi cn 1 ((zgi cn 1) + 1)))) ov w' c s)))))))))) : Zr sc 125 219 [zp a0, zj x1, zp a2, zj x3, zj x4, zj x5, v6, v7] [] w ov w' c s := by
  refine Zr_st (q := (220, [zp a0, zj x1, zp a2, zj x3, zj x4, zj x5, v6, v7], [zp a0])) rfl rfl rfl ?_
  show Zr sc 125 220 [zp a0, zj x1, zp a2, zj x3, zj x4, zj x5, v6, v7] [zp a0] w ov w' c s
  refine rl_gf rfl L0 rfl rfl ?_
  show Zr sc 125 223 [zp a0, zj x1, zp a2, zj x3, zj x4, zj x5, v6, v7] [zj wy] w ov w' c s
  refine rl_ic rfl ?_
  show Zr sc 125 224 [zp a0, zj x1, zp a2, zj x3, zj x4, zj x5, v6, v7] [zj 4, zj wy] w ov w' c s
  obtain ⟨hr_1, h⟩ := h
  refine Zr_br (p := wy ≠ 4) rfl rfl (zcmp_j (cnd := .ne) hr_1.1 hr_1.2) (fun hp => ?_) (fun hp => ?_)
  · replace h := h.1 hp
    show Zr sc 125 252 [zp a0, zj x1, zp a2, zj x3, zj x4, zj x5, v6, v7] [] w ov w' c s
    exact h
  · replace h := h.2 hp
    show Zr sc 125 227 [zp a0, zj x1, zp a2, zj x3, zj x4, zj x5, v6, v7] [] w ov w' c s
    refine Zr_st (q := (229, [zp a0, zj x1, zp a2, zj x3, zj x4, zj x5, v6, v7], [zj x5])) rfl rfl rfl ?_
    show Zr sc 125 229 [zp a0, zj x1, zp a2, zj x3, zj x4, zj x5, v6, v7] [zj x5] w ov w' c s
    refine Zr_st (q := (230, [zp a0, zj x1, zp a2, zj x3, zj x4, zj x5, v6, v7], [zj x1, zj x5])) rfl rfl rfl ?_
    show Zr sc 125 230 [zp a0, zj x1, zp a2, zj x3, zj x4, zj x5, v6, v7] [zj x1, zj x5] w ov w' c s
    obtain ⟨hr_2, h⟩ := h
    refine Zr_br (p := x5 ≤ x1) rfl rfl (zcmp_j (cnd := .le) hr_2.1 hr_2.2) (fun hp => ?_) (fun hp => ?_)
    · replace h := h.1 hp
      show Zr sc 125 252 [zp a0, zj x1, zp a2, zj x3, zj x4, zj x5, v6, v7] [] w ov w' c s
      exact h
    · replace h := h.2 hp
      show Zr sc 125 233 [zp a0, zj x1, zp a2, zj x3, zj x4, zj x5, v6, v7] [] w ov w' c s
      refine Zr_st (q := (235, [zp a0, zj x1, zp a2, zj x3, zj x4, zj x5, v6, v7], [zj x5])) rfl rfl rfl ?_
      show Zr sc 125 235 [zp a0, zj x1, zp a2, zj x3, zj x4, zj x5, v6, v7] [zj x5] w ov w' c s
      refine rl_ic rfl ?_
      show Zr sc 125 236 [zp a0, zj x1, zp a2, zj x3, zj x4, zj x5, v6, v7] [zj 2, zj x5] w ov w' c s
      obtain ⟨hd_3, h⟩ := h
      refine rl_div rfl hd_3.1 hd_3.2.1 hd_3.2.2.1 hd_3.2.2.2 ?_
      show Zr sc 125 237 [zp a0, zj x1, zp a2, zj x3, zj x4, zj x5, v6, v7] [zj (x5 / 2)] w ov w' c s
      refine Zr_st (q := (239, [zp a0, zj x1, zp a2, zj x3, zj x4, zj (x5 / 2), v6, v7], [])) rfl rfl rfl ?_
      show Zr sc 125 239 [zp a0, zj x1, zp a2, zj x3, zj x4, zj (x5 / 2), v6, v7] [] w ov w' c s
      refine Zr_st (q := (240, [zp a0, zj x1, zp a2, zj x3, zj x4, zj (x5 / 2), v6, v7], [zp a0])) rfl rfl rfl ?_
      show Zr sc 125 240 [zp a0, zj x1, zp a2, zj x3, zj x4, zj (x5 / 2), v6, v7] [zp a0] w ov w' c s
      refine rl_gf rfl L0 rfl rfl ?_
      show Zr sc 125 243 [zp a0, zj x1, zp a2, zj x3, zj x4, zj (x5 / 2), v6, v7] [zp (a0 + 77)] w ov w' c s
      refine rl_ic rfl ?_
      show Zr sc 125 244 [zp a0, zj x1, zp a2, zj x3, zj x4, zj (x5 / 2), v6, v7] [zj 1, zp (a0 + 77)] w ov w' c s
      refine Zr_st (q := (245, [zp a0, zj x1, zp a2, zj x3, zj x4, zj (x5 / 2), v6, v7], [zj 1, zp (a0 + 77), zj 1, zp (a0 + 77)])) rfl rfl rfl ?_
      show Zr sc 125 245 [zp a0, zj x1, zp a2, zj x3, zj x4, zj (x5 / 2), v6, v7] [zj 1, zp (a0 + 77), zj 1, zp (a0 + 77)] w ov w' c s
      obtain ⟨hi_4, h⟩ := h
      refine rl_ia rfl L77 hi_4.1 hi_4.2.1 hi_4.2.2 ?_
      show Zr sc 125 246 [zp a0, zj x1, zp a2, zj x3, zj x4, zj (x5 / 2), v6, v7] [zj (zgi cn 1), zj 1, zp (a0 + 77)] w ov w' c s
      refine rl_ic rfl ?_
      show Zr sc 125 247 [zp a0, zj x1, zp a2, zj x3, zj x4, zj (x5 / 2), v6, v7] [zj 1, zj (zgi cn 1), zj 1, zp (a0 + 77)] w ov w' c s
      refine rl_add rfl ?_
      show Zr sc 125 248 [zp a0, zj x1, zp a2, zj x3, zj x4, zj (x5 / 2), v6, v7] [zj ((zgi cn 1) + 1), zj 1, zp (a0 + 77)] w ov w' c s
      obtain ⟨hi_5, h⟩ := h
      refine rl_is rfl L77 hi_5.1 hi_5.2.1 hi_5.2.2 ?_
      show Zr sc 125 249 [zp a0, zj x1, zp a2, zj x3, zj x4, zj (x5 / 2), v6, v7] [] (w.set (a0 + 77) (za (zsi cn 1 ((zgi cn 1) + 1)))) ov w' c s
      refine Zr_st (q := (219, [zp a0, zj x1, zp a2, zj x3, zj x4, zj (x5 / 2), v6, v7], [])) rfl rfl rfl ?_
      show Zr sc 125 219 [zp a0, zj x1, zp a2, zj x3, zj x4, zj (x5 / 2), v6, v7] [] (w.set (a0 + 77) (za (zsi cn 1 ((zgi cn 1) + 1)))) ov w' c s
      exact h
set_option maxRecDepth 100000 in
theorem V125_252 {sc : List Value} {w w' : List zE} {ov : Option Value} {c s : Nat} {a0 : Nat} {x1 : Int} {a2 : Nat} {x3 : Int} {x4 : Int} {x5 : Int} {v6 : Value} {v7 : Value} {dr : Int} {wy : Int} {st : Int} {hd : Int} {nm : Int} {ar : Int} {hn : Int} {pk : Int} {D : Nat} {tl : Int} (L0 : w[a0]? = some (zob 7 [zp (a0 + 1), .ref 0, zj dr, zj wy, zj st, zj hd, zp (a0 + 73), zj nm, zp (a0 + 74), zp (a0 + 75), zp (a0 + 76), zj ar, zj hn, zp (a0 + 77), zj pk, zp D, zj tl])) (h : ((zrg wy ∧ zrg 1) ∧ ((wy ≠ 1 → (∃ l_4 : List Int, w[a2]? = some (za l_4) ∧ (((0 : Int) ≤ x4 ∧ x4 < (l_4.length : Int) ∧ x4 ≤ (2147483647 : Int)) ∧ (ov = some (zj (zgi l_4 x4)) ∧ w' = w ∧ c = 0 ∧ s = 0)))) ∧ (¬ (wy ≠ 1) → (∃ l_7 : List Int, w[a2]? = some (za l_7) ∧ (((0 : Int) ≤ x4 ∧ x4 < (l_7.length : Int) ∧ x4 ≤ (2147483647 : Int)) ∧ ((zrg ((zgi l_7 x4) + x1) ∧ zrg 1024) ∧ ((((zgi l_7 x4) + x1) ≠ 1024 → (((0 : Int) ≤ x4 ∧ x4 < (l_7.length : Int) ∧ x4 ≤ (2147483647 : Int)) ∧ ((a0 ≠ a2) ∧ (((0 : Int) ≤ x4 ∧ x4 < (l_7.length : Int) ∧ x4 ≤ (2147483647 : Int)) ∧ (ov = some (zj (zgi l_7 x4)) ∧ w' = (w.set a0 (zob 7 [zp (a0 + 1), .ref 0, zj dr, zj wy, zj st, zj hd, zp (a0 + 73), zj nm, zp (a0 + 74), zp (a0 + 75), zp (a0 + 76), zj ar, zj ((zgi l_7 x4) + x1), zp (a0 + 77), zj pk, zp D, zj tl])) ∧ c = 0 ∧ s = 0))))) ∧ (¬ (((zgi l_7 x4) + x1) ≠ 1024) → ((a0 ≠ a2) ∧ (((0 : Int) ≤ x4 ∧ x4 < (l_7.length : Int) ∧ x4 ≤ (2147483647 : Int)) ∧ (ov = some (zj (zgi l_7 x4)) ∧ w' = (w.set a0 (zob 7 [zp (a0 + 1), .ref 0, zj dr, zj wy, zj st, zj hd, zp (a0 + 73), zj nm, zp (a0 + 74), zp (a0 + 75), zp (a0 + 76), zj ar, zj 0, zp (a0 + 77), zj pk, zp D, zj tl])) ∧ c = 0 ∧ s = 0)))))))))))) : Zr sc 125 252 [zp a0, zj x1, zp a2, zj x3, zj x4, zj x5, v6, v7] [] w ov w' c s := by
  refine Zr_st (q := (253, [zp a0, zj x1, zp a2, zj x3, zj x4, zj x5, v6, v7], [zp a0])) rfl rfl rfl ?_
  show Zr sc 125 253 [zp a0, zj x1, zp a2, zj x3, zj x4, zj x5, v6, v7] [zp a0] w ov w' c s
  refine rl_gf rfl L0 rfl rfl ?_
  show Zr sc 125 256 [zp a0, zj x1, zp a2, zj x3, zj x4, zj x5, v6, v7] [zj wy] w ov w' c s
  refine rl_ic rfl ?_
  show Zr sc 125 257 [zp a0, zj x1, zp a2, zj x3, zj x4, zj x5, v6, v7] [zj 1, zj wy] w ov w' c s
  obtain ⟨hr_1, h⟩ := h
  refine Zr_br (p := wy ≠ 1) rfl rfl (zcmp_j (cnd := .ne) hr_1.1 hr_1.2) (fun hp => ?_) (fun hp => ?_)
  · replace h := h.1 hp
    show Zr sc 125 286 [zp a0, zj x1, zp a2, zj x3, zj x4, zj x5, v6, v7] [] w ov w' c s
    refine Zr_st (q := (287, [zp a0, zj x1, zp a2, zj x3, zj x4, zj x5, v6, v7], [zp a2])) rfl rfl rfl ?_
    show Zr sc 125 287 [zp a0, zj x1, zp a2, zj x3, zj x4, zj x5, v6, v7] [zp a2] w ov w' c s
    refine Zr_st (q := (289, [zp a0, zj x1, zp a2, zj x3, zj x4, zj x5, v6, v7], [zj x4, zp a2])) rfl rfl rfl ?_
    show Zr sc 125 289 [zp a0, zj x1, zp a2, zj x3, zj x4, zj x5, v6, v7] [zj x4, zp a2] w ov w' c s
    obtain ⟨l_4, hw_3, h⟩ := h
    obtain ⟨hi_2, h⟩ := h
    refine rl_ia rfl hw_3 hi_2.1 hi_2.2.1 hi_2.2.2 ?_
    show Zr sc 125 290 [zp a0, zj x1, zp a2, zj x3, zj x4, zj x5, v6, v7] [zj (zgi l_4 x4)] w ov w' c s
    obtain ⟨h1, h2, h3, h4⟩ := h
    subst h1; subst h2; subst h3; subst h4
    exact Zr_ret (ins := .ireturn) rfl rfl
  · replace h := h.2 hp
    show Zr sc 125 260 [zp a0, zj x1, zp a2, zj x3, zj x4, zj x5, v6, v7] [] w ov w' c s
    refine Zr_st (q := (261, [zp a0, zj x1, zp a2, zj x3, zj x4, zj x5, v6, v7], [zp a0])) rfl rfl rfl ?_
    show Zr sc 125 261 [zp a0, zj x1, zp a2, zj x3, zj x4, zj x5, v6, v7] [zp a0] w ov w' c s
    refine Zr_st (q := (262, [zp a0, zj x1, zp a2, zj x3, zj x4, zj x5, v6, v7], [zp a2, zp a0])) rfl rfl rfl ?_
    show Zr sc 125 262 [zp a0, zj x1, zp a2, zj x3, zj x4, zj x5, v6, v7] [zp a2, zp a0] w ov w' c s
    refine Zr_st (q := (264, [zp a0, zj x1, zp a2, zj x3, zj x4, zj x5, v6, v7], [zj x4, zp a2, zp a0])) rfl rfl rfl ?_
    show Zr sc 125 264 [zp a0, zj x1, zp a2, zj x3, zj x4, zj x5, v6, v7] [zj x4, zp a2, zp a0] w ov w' c s
    obtain ⟨l_7, hw_6, h⟩ := h
    obtain ⟨hi_5, h⟩ := h
    refine rl_ia rfl hw_6 hi_5.1 hi_5.2.1 hi_5.2.2 ?_
    show Zr sc 125 265 [zp a0, zj x1, zp a2, zj x3, zj x4, zj x5, v6, v7] [zj (zgi l_7 x4), zp a0] w ov w' c s
    refine Zr_st (q := (266, [zp a0, zj x1, zp a2, zj x3, zj x4, zj x5, v6, v7], [zj x1, zj (zgi l_7 x4), zp a0])) rfl rfl rfl ?_
    show Zr sc 125 266 [zp a0, zj x1, zp a2, zj x3, zj x4, zj x5, v6, v7] [zj x1, zj (zgi l_7 x4), zp a0] w ov w' c s
    refine rl_add rfl ?_
    show Zr sc 125 267 [zp a0, zj x1, zp a2, zj x3, zj x4, zj x5, v6, v7] [zj ((zgi l_7 x4) + x1), zp a0] w ov w' c s
    refine rl_si rfl (by decide) ?_
    show Zr sc 125 270 [zp a0, zj x1, zp a2, zj x3, zj x4, zj x5, v6, v7] [zj 1024, zj ((zgi l_7 x4) + x1), zp a0] w ov w' c s
    obtain ⟨hr_8, h⟩ := h
    refine Zr_br (p := ((zgi l_7 x4) + x1) ≠ 1024) rfl rfl (zcmp_j (cnd := .ne) hr_8.1 hr_8.2) (fun hp => ?_) (fun hp => ?_)
    · replace h := h.1 hp
      show Zr sc 125 277 [zp a0, zj x1, zp a2, zj x3, zj x4, zj x5, v6, v7] [zp a0] w ov w' c s
      refine Zr_st (q := (278, [zp a0, zj x1, zp a2, zj x3, zj x4, zj x5, v6, v7], [zp a2, zp a0])) rfl rfl rfl ?_
      show Zr sc 125 278 [zp a0, zj x1, zp a2, zj x3, zj x4, zj x5, v6, v7] [zp a2, zp a0] w ov w' c s
      refine Zr_st (q := (280, [zp a0, zj x1, zp a2, zj x3, zj x4, zj x5, v6, v7], [zj x4, zp a2, zp a0])) rfl rfl rfl ?_
      show Zr sc 125 280 [zp a0, zj x1, zp a2, zj x3, zj x4, zj x5, v6, v7] [zj x4, zp a2, zp a0] w ov w' c s
      obtain ⟨hi_9, h⟩ := h
      refine rl_ia rfl hw_6 hi_9.1 hi_9.2.1 hi_9.2.2 ?_
      show Zr sc 125 281 [zp a0, zj x1, zp a2, zj x3, zj x4, zj x5, v6, v7] [zj (zgi l_7 x4), zp a0] w ov w' c s
      refine Zr_st (q := (282, [zp a0, zj x1, zp a2, zj x3, zj x4, zj x5, v6, v7], [zj x1, zj (zgi l_7 x4), zp a0])) rfl rfl rfl ?_
      show Zr sc 125 282 [zp a0, zj x1, zp a2, zj x3, zj x4, zj x5, v6, v7] [zj x1, zj (zgi l_7 x4), zp a0] w ov w' c s
      refine rl_add rfl ?_
      show Zr sc 125 283 [zp a0, zj x1, zp a2, zj x3, zj x4, zj x5, v6, v7] [zj ((zgi l_7 x4) + x1), zp a0] w ov w' c s
      refine rl_pf rfl L0 rfl rfl rfl ?_
      show Zr sc 125 286 [zp a0, zj x1, zp a2, zj x3, zj x4, zj x5, v6, v7] [] (w.set a0 (zob 7 [zp (a0 + 1), .ref 0, zj dr, zj wy, zj st, zj hd, zp (a0 + 73), zj nm, zp (a0 + 74), zp (a0 + 75), zp (a0 + 76), zj ar, zj ((zgi l_7 x4) + x1), zp (a0 + 77), zj pk, zp D, zj tl])) ov w' c s
      refine Zr_st (q := (287, [zp a0, zj x1, zp a2, zj x3, zj x4, zj x5, v6, v7], [zp a2])) rfl rfl rfl ?_
      show Zr sc 125 287 [zp a0, zj x1, zp a2, zj x3, zj x4, zj x5, v6, v7] [zp a2] (w.set a0 (zob 7 [zp (a0 + 1), .ref 0, zj dr, zj wy, zj st, zj hd, zp (a0 + 73), zj nm, zp (a0 + 74), zp (a0 + 75), zp (a0 + 76), zj ar, zj ((zgi l_7 x4) + x1), zp (a0 + 77), zj pk, zp D, zj tl])) ov w' c s
      refine Zr_st (q := (289, [zp a0, zj x1, zp a2, zj x3, zj x4, zj x5, v6, v7], [zj x4, zp a2])) rfl rfl rfl ?_
      show Zr sc 125 289 [zp a0, zj x1, zp a2, zj x3, zj x4, zj x5, v6, v7] [zj x4, zp a2] (w.set a0 (zob 7 [zp (a0 + 1), .ref 0, zj dr, zj wy, zj st, zj hd, zp (a0 + 73), zj nm, zp (a0 + 74), zp (a0 + 75), zp (a0 + 76), zj ar, zj ((zgi l_7 x4) + x1), zp (a0 + 77), zj pk, zp D, zj tl])) ov w' c s
      obtain ⟨hn_11, h⟩ := h
      obtain ⟨hi_10, h⟩ := h
      refine rl_ia rfl (zw_o hn_11 hw_6) hi_10.1 hi_10.2.1 hi_10.2.2 ?_
      show Zr sc 125 290 [zp a0, zj x1, zp a2, zj x3, zj x4, zj x5, v6, v7] [zj (zgi l_7 x4)] (w.set a0 (zob 7 [zp (a0 + 1), .ref 0, zj dr, zj wy, zj st, zj hd, zp (a0 + 73), zj nm, zp (a0 + 74), zp (a0 + 75), zp (a0 + 76), zj ar, zj ((zgi l_7 x4) + x1), zp (a0 + 77), zj pk, zp D, zj tl])) ov w' c s
      obtain ⟨h1, h2, h3, h4⟩ := h
      subst h1; subst h2; subst h3; subst h4
      exact Zr_ret (ins := .ireturn) rfl rfl
    · replace h := h.2 hp
      show Zr sc 125 273 [zp a0, zj x1, zp a2, zj x3, zj x4, zj x5, v6, v7] [zp a0] w ov w' c s
      refine rl_ic rfl ?_
      show Zr sc 125 274 [zp a0, zj x1, zp a2, zj x3, zj x4, zj x5, v6, v7] [zj 0, zp a0] w ov w' c s
      refine Zr_st (q := (283, [zp a0, zj x1, zp a2, zj x3, zj x4, zj x5, v6, v7], [zj 0, zp a0])) rfl rfl rfl ?_
      show Zr sc 125 283 [zp a0, zj x1, zp a2, zj x3, zj x4, zj x5, v6, v7] [zj 0, zp a0] w ov w' c s
      refine rl_pf rfl L0 rfl rfl rfl ?_
      show Zr sc 125 286 [zp a0, zj x1, zp a2, zj x3, zj x4, zj x5, v6, v7] [] (w.set a0 (zob 7 [zp (a0 + 1), .ref 0, zj dr, zj wy, zj st, zj hd, zp (a0 + 73), zj nm, zp (a0 + 74), zp (a0 + 75), zp (a0 + 76), zj ar, zj 0, zp (a0 + 77), zj pk, zp D, zj tl])) ov w' c s
      refine Zr_st (q := (287, [zp a0, zj x1, zp a2, zj x3, zj x4, zj x5, v6, v7], [zp a2])) rfl rfl rfl ?_
      show Zr sc 125 287 [zp a0, zj x1, zp a2, zj x3, zj x4, zj x5, v6, v7] [zp a2] (w.set a0 (zob 7 [zp (a0 + 1), .ref 0, zj dr, zj wy, zj st, zj hd, zp (a0 + 73), zj nm, zp (a0 + 74), zp (a0 + 75), zp (a0 + 76), zj ar, zj 0, zp (a0 + 77), zj pk, zp D, zj tl])) ov w' c s
      refine Zr_st (q := (289, [zp a0, zj x1, zp a2, zj x3, zj x4, zj x5, v6, v7], [zj x4, zp a2])) rfl rfl rfl ?_
      show Zr sc 125 289 [zp a0, zj x1, zp a2, zj x3, zj x4, zj x5, v6, v7] [zj x4, zp a2] (w.set a0 (zob 7 [zp (a0 + 1), .ref 0, zj dr, zj wy, zj st, zj hd, zp (a0 + 73), zj nm, zp (a0 + 74), zp (a0 + 75), zp (a0 + 76), zj ar, zj 0, zp (a0 + 77), zj pk, zp D, zj tl])) ov w' c s
      obtain ⟨hn_13, h⟩ := h
      obtain ⟨hi_12, h⟩ := h
      refine rl_ia rfl (zw_o hn_13 hw_6) hi_12.1 hi_12.2.1 hi_12.2.2 ?_
      show Zr sc 125 290 [zp a0, zj x1, zp a2, zj x3, zj x4, zj x5, v6, v7] [zj (zgi l_7 x4)] (w.set a0 (zob 7 [zp (a0 + 1), .ref 0, zj dr, zj wy, zj st, zj hd, zp (a0 + 73), zj nm, zp (a0 + 74), zp (a0 + 75), zp (a0 + 76), zj ar, zj 0, zp (a0 + 77), zj pk, zp D, zj tl])) ov w' c s
      obtain ⟨h1, h2, h3, h4⟩ := h
      subst h1; subst h2; subst h3; subst h4
      exact Zr_ret (ins := .ireturn) rfl rfl

-- HeapwrightLabLaw$Pool.holes()[I
set_option maxRecDepth 100000 in
theorem V126_0 {sc : List Value} {w w' : List zE} {ov : Option Value} {c s : Nat} {a0 : Nat} (h : (((0 : Int) ≤ 2048 ∧ 2048 ≤ (60000 : Int)) ∧ (∃ p_1 : Nat, p_1 = w.length ∧ (∃ c_3 s_4 : Nat, (c = 1 + c_3 ∧ s = (2048 : Int).toNat + s_4) ∧ Zr sc 126 10 [zp a0, zp p_1, zj 0, zj 0, zmk] [] (w ++ [za (List.replicate (2048 : Int).toNat (0 : Int))]) ov w' c_3 s_4)))) : Zr sc 126 0 [zp a0, zmk, zmk, zmk, zmk] [] w ov w' c s := by
  refine rl_si rfl (by decide) ?_
  show Zr sc 126 3 [zp a0, zmk, zmk, zmk, zmk] [zj 2048] w ov w' c s
  obtain ⟨hx_6, h⟩ := h
  obtain ⟨p_1, hp_2, h⟩ := h
  obtain ⟨c_3, s_4, hc_5, h⟩ := h
  refine rn_na rfl hx_6.1 hx_6.2 hp_2 hc_5.1 hc_5.2 ?_
  show Zr sc 126 5 [zp a0, zmk, zmk, zmk, zmk] [zp p_1] (w ++ [za (List.replicate (2048 : Int).toNat (0 : Int))]) ov w' c_3 s_4
  refine Zr_st (q := (6, [zp a0, zp p_1, zmk, zmk, zmk], [])) rfl rfl rfl ?_
  show Zr sc 126 6 [zp a0, zp p_1, zmk, zmk, zmk] [] (w ++ [za (List.replicate (2048 : Int).toNat (0 : Int))]) ov w' c_3 s_4
  refine rl_ic rfl ?_
  show Zr sc 126 7 [zp a0, zp p_1, zmk, zmk, zmk] [zj 0] (w ++ [za (List.replicate (2048 : Int).toNat (0 : Int))]) ov w' c_3 s_4
  refine Zr_st (q := (8, [zp a0, zp p_1, zj 0, zmk, zmk], [])) rfl rfl rfl ?_
  show Zr sc 126 8 [zp a0, zp p_1, zj 0, zmk, zmk] [] (w ++ [za (List.replicate (2048 : Int).toNat (0 : Int))]) ov w' c_3 s_4
  refine rl_ic rfl ?_
  show Zr sc 126 9 [zp a0, zp p_1, zj 0, zmk, zmk] [zj 0] (w ++ [za (List.replicate (2048 : Int).toNat (0 : Int))]) ov w' c_3 s_4
  refine Zr_st (q := (10, [zp a0, zp p_1, zj 0, zj 0, zmk], [])) rfl rfl rfl ?_
  show Zr sc 126 10 [zp a0, zp p_1, zj 0, zj 0, zmk] [] (w ++ [za (List.replicate (2048 : Int).toNat (0 : Int))]) ov w' c_3 s_4
  exact h
set_option maxRecDepth 100000 in
theorem V126_10 {sc : List Value} {w w' : List zE} {ov : Option Value} {c s : Nat} {a0 : Nat} {a1 : Nat} {x2 : Int} {x3 : Int} {v4 : Value} {dr : Int} {wy : Int} {st : Int} {hd : Int} {nm : Int} {ar : Int} {hn : Int} {pk : Int} {D : Nat} {tl : Int} (L0 : w[a0]? = some (zob 7 [zp (a0 + 1), .ref 0, zj dr, zj wy, zj st, zj hd, zp (a0 + 73), zj nm, zp (a0 + 74), zp (a0 + 75), zp (a0 + 76), zj ar, zj hn, zp (a0 + 77), zj pk, zp D, zj tl])) (h : ((zrg x3 ∧ zrg 1024) ∧ ((1024 ≤ x3 → (((0 : Int) ≤ x2 ∧ x2 ≤ (60000 : Int)) ∧ (∃ p_2 : Nat, p_2 = w.length ∧ (∃ c_4 s_5 : Nat, (c = 1 + c_4 ∧ s = (x2 : Int).toNat + s_5) ∧ (∃ l_10 : List Int, w[a1]? = some (za l_10) ∧ ((((0 : Int) ≤ 0 ∧ 0 + x2 ≤ (l_10.length : Int) ∧ l_10.length ≤ 60000) ∧ ((0 : Int) ≤ 0 ∧ 0 + x2 ≤ ((List.replicate (x2 : Int).toNat (0 : Int)).length : Int) ∧ (List.replicate (x2 : Int).toNat (0 : Int)).length ≤ 60000) ∧ (0 : Int) ≤ x2) ∧ (ov = some (zp p_2) ∧ w' = ((w ++ [za (List.replicate (x2 : Int).toNat (0 : Int))]).set p_2 (za (zicp l_10 (List.replicate (x2 : Int).toNat (0 : Int)) 0 0 x2))) ∧ c_4 = 0 ∧ s_5 = 0))))))) ∧ (¬ (1024 ≤ x3) → (∃ r_13 : Int, Zc sc 127 [zp a0, zj x3] w (some (zj r_13)) w 0 0 ∧ ((zrg r_13) ∧ ((r_13 ≤ 0 → ((zrg 1 ∧ zrg r_13) ∧ Zr sc 126 10 [zp a0, zp a1, zj x2, zj (x3 + (max 1 r_13)), zj r_13] [] w ov w' c s)) ∧ (¬ (r_13 ≤ 0) → (∃ l_18 : List Int, w[a1]? = some (za l_18) ∧ (((0 : Int) ≤ x2 ∧ x2 < (l_18.length : Int) ∧ x2 ≤ (2147483647 : Int)) ∧ (((0 : Int) ≤ (x2 + 1) ∧ (x2 + 1) < ((zsi l_18 x2 x3).length : Int) ∧ (x2 + 1) ≤ (2147483647 : Int)) ∧ ((zrg 1 ∧ zrg r_13) ∧ Zr sc 126 10 [zp a0, zp a1, zj ((x2 + 1) + 1), zj (x3 + (max 1 r_13)), zj r_13] [] ((w.set a1 (za (zsi l_18 x2 x3))).set a1 (za (zsi (zsi l_18 x2 x3) (x2 + 1) r_13))) ov w' c s)))))))))))) : Zr sc 126 10 [zp a0, zp a1, zj x2, zj x3, v4] [] w ov w' c s := by
  refine Zr_st (q := (11, [zp a0, zp a1, zj x2, zj x3, v4], [zj x3])) rfl rfl rfl ?_
  show Zr sc 126 11 [zp a0, zp a1, zj x2, zj x3, v4] [zj x3] w ov w' c s
  refine rl_si rfl (by decide) ?_
  show Zr sc 126 14 [zp a0, zp a1, zj x2, zj x3, v4] [zj 1024, zj x3] w ov w' c s
  obtain ⟨hr_1, h⟩ := h
  refine Zr_br (p := 1024 ≤ x3) rfl rfl (zcmp_j (cnd := .ge) hr_1.1 hr_1.2) (fun hp => ?_) (fun hp => ?_)
  · replace h := h.1 hp
    show Zr sc 126 56 [zp a0, zp a1, zj x2, zj x3, v4] [] w ov w' c s
    refine Zr_st (q := (57, [zp a0, zp a1, zj x2, zj x3, v4], [zj x2])) rfl rfl rfl ?_
    show Zr sc 126 57 [zp a0, zp a1, zj x2, zj x3, v4] [zj x2] w ov w' c s
    obtain ⟨hx_7, h⟩ := h
    obtain ⟨p_2, hp_3, h⟩ := h
    obtain ⟨c_4, s_5, hc_6, h⟩ := h
    refine rn_na rfl hx_7.1 hx_7.2 hp_3 hc_6.1 hc_6.2 ?_
    show Zr sc 126 59 [zp a0, zp a1, zj x2, zj x3, v4] [zp p_2] (w ++ [za (List.replicate (x2 : Int).toNat (0 : Int))]) ov w' c_4 s_5
    refine Zr_st (q := (61, [zp a0, zp a1, zj x2, zj x3, zp p_2], [])) rfl rfl rfl ?_
    show Zr sc 126 61 [zp a0, zp a1, zj x2, zj x3, zp p_2] [] (w ++ [za (List.replicate (x2 : Int).toNat (0 : Int))]) ov w' c_4 s_5
    refine Zr_st (q := (62, [zp a0, zp a1, zj x2, zj x3, zp p_2], [zp a1])) rfl rfl rfl ?_
    show Zr sc 126 62 [zp a0, zp a1, zj x2, zj x3, zp p_2] [zp a1] (w ++ [za (List.replicate (x2 : Int).toNat (0 : Int))]) ov w' c_4 s_5
    refine rl_ic rfl ?_
    show Zr sc 126 63 [zp a0, zp a1, zj x2, zj x3, zp p_2] [zj 0, zp a1] (w ++ [za (List.replicate (x2 : Int).toNat (0 : Int))]) ov w' c_4 s_5
    refine Zr_st (q := (65, [zp a0, zp a1, zj x2, zj x3, zp p_2], [zp p_2, zj 0, zp a1])) rfl rfl rfl ?_
    show Zr sc 126 65 [zp a0, zp a1, zj x2, zj x3, zp p_2] [zp p_2, zj 0, zp a1] (w ++ [za (List.replicate (x2 : Int).toNat (0 : Int))]) ov w' c_4 s_5
    refine rl_ic rfl ?_
    show Zr sc 126 66 [zp a0, zp a1, zj x2, zj x3, zp p_2] [zj 0, zp p_2, zj 0, zp a1] (w ++ [za (List.replicate (x2 : Int).toNat (0 : Int))]) ov w' c_4 s_5
    refine Zr_st (q := (67, [zp a0, zp a1, zj x2, zj x3, zp p_2], [zj x2, zj 0, zp p_2, zj 0, zp a1])) rfl rfl rfl ?_
    show Zr sc 126 67 [zp a0, zp a1, zj x2, zj x3, zp p_2] [zj x2, zj 0, zp p_2, zj 0, zp a1] (w ++ [za (List.replicate (x2 : Int).toNat (0 : Int))]) ov w' c_4 s_5
    obtain ⟨l_10, hw_9, h⟩ := h
    obtain ⟨hb_8, h⟩ := h
    refine Zr_cp (ins := .invokestatic 91) (rest := []) rfl rfl rfl rfl (zinv_t2 (rest := []) rfl rfl rfl rfl rfl) rfl (zcp_j (zw_a hw_9) (zw_n hp_3) hb_8) ?_
    show Zr sc 126 70 [zp a0, zp a1, zj x2, zj x3, zp p_2] [] ((w ++ [za (List.replicate (x2 : Int).toNat (0 : Int))]).set p_2 (za (zicp l_10 (List.replicate (x2 : Int).toNat (0 : Int)) 0 0 x2))) ov w' c_4 s_5
    refine Zr_st (q := (72, [zp a0, zp a1, zj x2, zj x3, zp p_2], [zp p_2])) rfl rfl rfl ?_
    show Zr sc 126 72 [zp a0, zp a1, zj x2, zj x3, zp p_2] [zp p_2] ((w ++ [za (List.replicate (x2 : Int).toNat (0 : Int))]).set p_2 (za (zicp l_10 (List.replicate (x2 : Int).toNat (0 : Int)) 0 0 x2))) ov w' c_4 s_5
    obtain ⟨h1, h2, h3, h4⟩ := h
    subst h1; subst h2; subst h3; subst h4
    exact Zr_ret (ins := .areturn) rfl rfl
  · replace h := h.2 hp
    show Zr sc 126 17 [zp a0, zp a1, zj x2, zj x3, v4] [] w ov w' c s
    refine Zr_st (q := (18, [zp a0, zp a1, zj x2, zj x3, v4], [zp a0])) rfl rfl rfl ?_
    show Zr sc 126 18 [zp a0, zp a1, zj x2, zj x3, v4] [zp a0] w ov w' c s
    refine Zr_st (q := (19, [zp a0, zp a1, zj x2, zj x3, v4], [zj x3, zp a0])) rfl rfl rfl ?_
    show Zr sc 126 19 [zp a0, zp a1, zj x2, zj x3, v4] [zj x3, zp a0] w ov w' c s
    obtain ⟨r_13, hk_9, h⟩ := h
    refine rn_cal0 (ins := .invokevirtual 83) (rest := []) rfl rfl rfl rfl (zinv_v (fs := _) L0 rfl rfl rfl rfl) rfl rfl hk_9 ?_
    show Zr sc 126 22 [zp a0, zp a1, zj x2, zj x3, v4] [zj r_13] w ov w' c s
    refine Zr_st (q := (24, [zp a0, zp a1, zj x2, zj x3, zj r_13], [])) rfl rfl rfl ?_
    show Zr sc 126 24 [zp a0, zp a1, zj x2, zj x3, zj r_13] [] w ov w' c s
    refine Zr_st (q := (26, [zp a0, zp a1, zj x2, zj x3, zj r_13], [zj r_13])) rfl rfl rfl ?_
    show Zr sc 126 26 [zp a0, zp a1, zj x2, zj x3, zj r_13] [zj r_13] w ov w' c s
    obtain ⟨hr_14, h⟩ := h
    refine Zr_b0 (p := r_13 ≤ 0) rfl rfl (zcmp_0 (cnd := .le) hr_14) (fun hp => ?_) (fun hp => ?_)
    · replace h := h.1 hp
      show Zr sc 126 44 [zp a0, zp a1, zj x2, zj x3, zj r_13] [] w ov w' c s
      refine Zr_st (q := (45, [zp a0, zp a1, zj x2, zj x3, zj r_13], [zj x3])) rfl rfl rfl ?_
      show Zr sc 126 45 [zp a0, zp a1, zj x2, zj x3, zj r_13] [zj x3] w ov w' c s
      refine rl_ic rfl ?_
      show Zr sc 126 46 [zp a0, zp a1, zj x2, zj x3, zj r_13] [zj 1, zj x3] w ov w' c s
      refine Zr_st (q := (48, [zp a0, zp a1, zj x2, zj x3, zj r_13], [zj r_13, zj 1, zj x3])) rfl rfl rfl ?_
      show Zr sc 126 48 [zp a0, zp a1, zj x2, zj x3, zj r_13] [zj r_13, zj 1, zj x3] w ov w' c s
      obtain ⟨hm_15, h⟩ := h
      refine Zr_mx (b := true) (ins := .invokestatic 86) (rest := [zj x3]) rfl rfl rfl rfl (zinv_t2 (rest := [zj x3]) rfl rfl rfl rfl rfl) rfl (zmx_j hm_15.1 hm_15.2) ?_
      show Zr sc 126 51 [zp a0, zp a1, zj x2, zj x3, zj r_13] [zj (max 1 r_13), zj x3] w ov w' c s
      refine rl_add rfl ?_
      show Zr sc 126 52 [zp a0, zp a1, zj x2, zj x3, zj r_13] [zj (x3 + (max 1 r_13))] w ov w' c s
      refine Zr_st (q := (53, [zp a0, zp a1, zj x2, zj (x3 + (max 1 r_13)), zj r_13], [])) rfl rfl rfl ?_
      show Zr sc 126 53 [zp a0, zp a1, zj x2, zj (x3 + (max 1 r_13)), zj r_13] [] w ov w' c s
      refine Zr_st (q := (10, [zp a0, zp a1, zj x2, zj (x3 + (max 1 r_13)), zj r_13], [])) rfl rfl rfl ?_
      show Zr sc 126 10 [zp a0, zp a1, zj x2, zj (x3 + (max 1 r_13)), zj r_13] [] w ov w' c s
      exact h
    · replace h := h.2 hp
      show Zr sc 126 29 [zp a0, zp a1, zj x2, zj x3, zj r_13] [] w ov w' c s
      refine Zr_st (q := (30, [zp a0, zp a1, zj x2, zj x3, zj r_13], [zp a1])) rfl rfl rfl ?_
      show Zr sc 126 30 [zp a0, zp a1, zj x2, zj x3, zj r_13] [zp a1] w ov w' c s
      refine Zr_st (q := (31, [zp a0, zp a1, zj x2, zj x3, zj r_13], [zj x2, zp a1])) rfl rfl rfl ?_
      show Zr sc 126 31 [zp a0, zp a1, zj x2, zj x3, zj r_13] [zj x2, zp a1] w ov w' c s
      refine rl_inc rfl rfl rfl rfl ?_
      show Zr sc 126 34 [zp a0, zp a1, zj (x2 + 1), zj x3, zj r_13] [zj x2, zp a1] w ov w' c s
      refine Zr_st (q := (35, [zp a0, zp a1, zj (x2 + 1), zj x3, zj r_13], [zj x3, zj x2, zp a1])) rfl rfl rfl ?_
      show Zr sc 126 35 [zp a0, zp a1, zj (x2 + 1), zj x3, zj r_13] [zj x3, zj x2, zp a1] w ov w' c s
      obtain ⟨l_18, hw_17, h⟩ := h
      obtain ⟨hi_16, h⟩ := h
      refine rl_is rfl hw_17 hi_16.1 hi_16.2.1 hi_16.2.2 ?_
      show Zr sc 126 36 [zp a0, zp a1, zj (x2 + 1), zj x3, zj r_13] [] (w.set a1 (za (zsi l_18 x2 x3))) ov w' c s
      refine Zr_st (q := (37, [zp a0, zp a1, zj (x2 + 1), zj x3, zj r_13], [zp a1])) rfl rfl rfl ?_
      show Zr sc 126 37 [zp a0, zp a1, zj (x2 + 1), zj x3, zj r_13] [zp a1] (w.set a1 (za (zsi l_18 x2 x3))) ov w' c s
      refine Zr_st (q := (38, [zp a0, zp a1, zj (x2 + 1), zj x3, zj r_13], [zj (x2 + 1), zp a1])) rfl rfl rfl ?_
      show Zr sc 126 38 [zp a0, zp a1, zj (x2 + 1), zj x3, zj r_13] [zj (x2 + 1), zp a1] (w.set a1 (za (zsi l_18 x2 x3))) ov w' c s
      refine rl_inc rfl rfl rfl rfl ?_
      show Zr sc 126 41 [zp a0, zp a1, zj ((x2 + 1) + 1), zj x3, zj r_13] [zj (x2 + 1), zp a1] (w.set a1 (za (zsi l_18 x2 x3))) ov w' c s
      refine Zr_st (q := (43, [zp a0, zp a1, zj ((x2 + 1) + 1), zj x3, zj r_13], [zj r_13, zj (x2 + 1), zp a1])) rfl rfl rfl ?_
      show Zr sc 126 43 [zp a0, zp a1, zj ((x2 + 1) + 1), zj x3, zj r_13] [zj r_13, zj (x2 + 1), zp a1] (w.set a1 (za (zsi l_18 x2 x3))) ov w' c s
      obtain ⟨hi_19, h⟩ := h
      refine rl_is rfl (zw_s hw_17) hi_19.1 hi_19.2.1 hi_19.2.2 ?_
      show Zr sc 126 44 [zp a0, zp a1, zj ((x2 + 1) + 1), zj x3, zj r_13] [] ((w.set a1 (za (zsi l_18 x2 x3))).set a1 (za (zsi (zsi l_18 x2 x3) (x2 + 1) r_13))) ov w' c s
      refine Zr_st (q := (45, [zp a0, zp a1, zj ((x2 + 1) + 1), zj x3, zj r_13], [zj x3])) rfl rfl rfl ?_
      show Zr sc 126 45 [zp a0, zp a1, zj ((x2 + 1) + 1), zj x3, zj r_13] [zj x3] ((w.set a1 (za (zsi l_18 x2 x3))).set a1 (za (zsi (zsi l_18 x2 x3) (x2 + 1) r_13))) ov w' c s
      refine rl_ic rfl ?_
      show Zr sc 126 46 [zp a0, zp a1, zj ((x2 + 1) + 1), zj x3, zj r_13] [zj 1, zj x3] ((w.set a1 (za (zsi l_18 x2 x3))).set a1 (za (zsi (zsi l_18 x2 x3) (x2 + 1) r_13))) ov w' c s
      refine Zr_st (q := (48, [zp a0, zp a1, zj ((x2 + 1) + 1), zj x3, zj r_13], [zj r_13, zj 1, zj x3])) rfl rfl rfl ?_
      show Zr sc 126 48 [zp a0, zp a1, zj ((x2 + 1) + 1), zj x3, zj r_13] [zj r_13, zj 1, zj x3] ((w.set a1 (za (zsi l_18 x2 x3))).set a1 (za (zsi (zsi l_18 x2 x3) (x2 + 1) r_13))) ov w' c s
      obtain ⟨hm_20, h⟩ := h
      refine Zr_mx (b := true) (ins := .invokestatic 86) (rest := [zj x3]) rfl rfl rfl rfl (zinv_t2 (rest := [zj x3]) rfl rfl rfl rfl rfl) rfl (zmx_j hm_20.1 hm_20.2) ?_
      show Zr sc 126 51 [zp a0, zp a1, zj ((x2 + 1) + 1), zj x3, zj r_13] [zj (max 1 r_13), zj x3] ((w.set a1 (za (zsi l_18 x2 x3))).set a1 (za (zsi (zsi l_18 x2 x3) (x2 + 1) r_13))) ov w' c s
      refine rl_add rfl ?_
      show Zr sc 126 52 [zp a0, zp a1, zj ((x2 + 1) + 1), zj x3, zj r_13] [zj (x3 + (max 1 r_13))] ((w.set a1 (za (zsi l_18 x2 x3))).set a1 (za (zsi (zsi l_18 x2 x3) (x2 + 1) r_13))) ov w' c s
      refine Zr_st (q := (53, [zp a0, zp a1, zj ((x2 + 1) + 1), zj (x3 + (max 1 r_13)), zj r_13], [])) rfl rfl rfl ?_
      show Zr sc 126 53 [zp a0, zp a1, zj ((x2 + 1) + 1), zj (x3 + (max 1 r_13)), zj r_13] [] ((w.set a1 (za (zsi l_18 x2 x3))).set a1 (za (zsi (zsi l_18 x2 x3) (x2 + 1) r_13))) ov w' c s
      refine Zr_st (q := (10, [zp a0, zp a1, zj ((x2 + 1) + 1), zj (x3 + (max 1 r_13)), zj r_13], [])) rfl rfl rfl ?_
      show Zr sc 126 10 [zp a0, zp a1, zj ((x2 + 1) + 1), zj (x3 + (max 1 r_13)), zj r_13] [] ((w.set a1 (za (zsi l_18 x2 x3))).set a1 (za (zsi (zsi l_18 x2 x3) (x2 + 1) r_13))) ov w' c s
      exact h

-- HeapwrightLabLaw$Pool.holeAt(I)I
set_option maxRecDepth 100000 in
theorem V127_0 {sc : List Value} {w w' : List zE} {ov : Option Value} {c s : Nat} {a0 : Nat} {x1 : Int} {dr : Int} {wy : Int} {st : Int} {hd : Int} {nm : Int} {ar : Int} {hn : Int} {pk : Int} {D : Nat} {tl : Int} {ow : List Int} (L0 : w[a0]? = some (zob 7 [zp (a0 + 1), .ref 0, zj dr, zj wy, zj st, zj hd, zp (a0 + 73), zj nm, zp (a0 + 74), zp (a0 + 75), zp (a0 + 76), zj ar, zj hn, zp (a0 + 77), zj pk, zp D, zj tl])) (L73 : w[(a0 + 73)]? = some (za ow)) (h : (((0 : Int) ≤ x1 ∧ x1 < (ow.length : Int) ∧ x1 ≤ (2147483647 : Int)) ∧ ((zrg (zgi ow x1)) ∧ (((zgi ow x1) < 0 → ((zrg wy ∧ zrg 4) ∧ ((4 ≤ wy → ((zrg wy ∧ zrg 4) ∧ ((wy ≠ 4 → (((0 : Int) ≤ x1 ∧ x1 ≤ (2147483647 : Int) ∧ (0 : Int) < 128 ∧ 128 ≤ (2147483647 : Int)) ∧ (∃ r_8 : Int, Zc sc 129 [zp a0, zj (x1 / 128)] w (some (zj r_8)) w 0 0 ∧ ((zrg r_8) ∧ ((r_8 ≤ 0 → Zr sc 127 132 [zp a0, zj x1, zj 128] [] w ov w' c s) ∧ (¬ (r_8 ≤ 0) → (((0 : Int) ≤ x1 ∧ x1 ≤ (2147483647 : Int) ∧ (0 : Int) < 128 ∧ 128 ≤ (2147483647 : Int)) ∧ (∃ r_13 : Int, Zc sc 129 [zp a0, zj (x1 / 128)] w (some (zj r_13)) w 0 0 ∧ (((0 : Int) ≤ x1 ∧ x1 ≤ (2147483647 : Int) ∧ (0 : Int) < r_13 ∧ r_13 ≤ (2147483647 : Int)) ∧ ((zrg (x1 % r_13)) ∧ (((x1 % r_13) ≠ 0 → (ov = some (zj 0) ∧ w' = w ∧ c = 0 ∧ s = 0)) ∧ (¬ ((x1 % r_13) ≠ 0) → (((0 : Int) ≤ x1 ∧ x1 ≤ (2147483647 : Int) ∧ (0 : Int) < 128 ∧ 128 ≤ (2147483647 : Int)) ∧ (∃ r_19 : Int, Zc sc 129 [zp a0, zj (x1 / 128)] w (some (zj r_19)) w 0 0 ∧ (ov = some (zj r_19) ∧ w' = w ∧ c = 0 ∧ s = 0))))))))))))))) ∧ (¬ (wy ≠ 4) → Zr sc 127 55 [zp a0, zj x1, zj 1] [] w ov w' c s)))) ∧ (¬ (4 ≤ wy) → Zr sc 127 21 [zp a0, zj x1, zj 1] [] w ov w' c s)))) ∧ (¬ ((zgi ow x1) < 0) → (ov = some (zj 0) ∧ w' = w ∧ c = 0 ∧ s = 0)))))) : Zr sc 127 0 [zp a0, zj x1, zmk] [] w ov w' c s := by
  refine Zr_st (q := (1, [zp a0, zj x1, zmk], [zp a0])) rfl rfl rfl ?_
  show Zr sc 127 1 [zp a0, zj x1, zmk] [zp a0] w ov w' c s
  refine rl_gf rfl L0 rfl rfl ?_
  show Zr sc 127 4 [zp a0, zj x1, zmk] [zp (a0 + 73)] w ov w' c s
  refine Zr_st (q := (5, [zp a0, zj x1, zmk], [zj x1, zp (a0 + 73)])) rfl rfl rfl ?_
  show Zr sc 127 5 [zp a0, zj x1, zmk] [zj x1, zp (a0 + 73)] w ov w' c s
  obtain ⟨hi_1, h⟩ := h
  refine rl_ia rfl L73 hi_1.1 hi_1.2.1 hi_1.2.2 ?_
  show Zr sc 127 6 [zp a0, zj x1, zmk] [zj (zgi ow x1)] w ov w' c s
  obtain ⟨hr_2, h⟩ := h
  refine Zr_b0 (p := (zgi ow x1) < 0) rfl rfl (zcmp_0 (cnd := .lt) hr_2) (fun hp => ?_) (fun hp => ?_)
  · replace h := h.1 hp
    show Zr sc 127 11 [zp a0, zj x1, zmk] [] w ov w' c s
    refine rl_ic rfl ?_
    show Zr sc 127 12 [zp a0, zj x1, zmk] [zj 1] w ov w' c s
    refine Zr_st (q := (13, [zp a0, zj x1, zj 1], [])) rfl rfl rfl ?_
    show Zr sc 127 13 [zp a0, zj x1, zj 1] [] w ov w' c s
    refine Zr_st (q := (14, [zp a0, zj x1, zj 1], [zp a0])) rfl rfl rfl ?_
    show Zr sc 127 14 [zp a0, zj x1, zj 1] [zp a0] w ov w' c s
    refine rl_gf rfl L0 rfl rfl ?_
    show Zr sc 127 17 [zp a0, zj x1, zj 1] [zj wy] w ov w' c s
    refine rl_ic rfl ?_
    show Zr sc 127 18 [zp a0, zj x1, zj 1] [zj 4, zj wy] w ov w' c s
    obtain ⟨hr_3, h⟩ := h
    refine Zr_br (p := 4 ≤ wy) rfl rfl (zcmp_j (cnd := .ge) hr_3.1 hr_3.2) (fun hp => ?_) (fun hp => ?_)
    · replace h := h.1 hp
      show Zr sc 127 47 [zp a0, zj x1, zj 1] [] w ov w' c s
      refine Zr_st (q := (48, [zp a0, zj x1, zj 1], [zp a0])) rfl rfl rfl ?_
      show Zr sc 127 48 [zp a0, zj x1, zj 1] [zp a0] w ov w' c s
      refine rl_gf rfl L0 rfl rfl ?_
      show Zr sc 127 51 [zp a0, zj x1, zj 1] [zj wy] w ov w' c s
      refine rl_ic rfl ?_
      show Zr sc 127 52 [zp a0, zj x1, zj 1] [zj 4, zj wy] w ov w' c s
      obtain ⟨hr_4, h⟩ := h
      refine Zr_br (p := wy ≠ 4) rfl rfl (zcmp_j (cnd := .ne) hr_4.1 hr_4.2) (fun hp => ?_) (fun hp => ?_)
      · replace h := h.1 hp
        show Zr sc 127 88 [zp a0, zj x1, zj 1] [] w ov w' c s
        refine Zr_st (q := (89, [zp a0, zj x1, zj 1], [zp a0])) rfl rfl rfl ?_
        show Zr sc 127 89 [zp a0, zj x1, zj 1] [zp a0] w ov w' c s
        refine Zr_st (q := (90, [zp a0, zj x1, zj 1], [zj x1, zp a0])) rfl rfl rfl ?_
        show Zr sc 127 90 [zp a0, zj x1, zj 1] [zj x1, zp a0] w ov w' c s
        refine rl_si rfl (by decide) ?_
        show Zr sc 127 93 [zp a0, zj x1, zj 1] [zj 128, zj x1, zp a0] w ov w' c s
        obtain ⟨hd_5, h⟩ := h
        refine rl_div rfl hd_5.1 hd_5.2.1 hd_5.2.2.1 hd_5.2.2.2 ?_
        show Zr sc 127 94 [zp a0, zj x1, zj 1] [zj (x1 / 128), zp a0] w ov w' c s
        obtain ⟨r_8, hk_9, h⟩ := h
        refine rn_cal0 (ins := .invokevirtual 97) (rest := []) rfl rfl rfl rfl (zinv_v (fs := _) L0 rfl rfl rfl rfl) rfl rfl hk_9 ?_
        show Zr sc 127 97 [zp a0, zj x1, zj 1] [zj r_8] w ov w' c s
        obtain ⟨hr_9, h⟩ := h
        refine Zr_b0 (p := r_8 ≤ 0) rfl rfl (zcmp_0 (cnd := .le) hr_9) (fun hp => ?_) (fun hp => ?_)
        · replace h := h.1 hp
          show Zr sc 127 128 [zp a0, zj x1, zj 1] [] w ov w' c s
          refine rl_si rfl (by decide) ?_
          show Zr sc 127 131 [zp a0, zj x1, zj 1] [zj 128] w ov w' c s
          refine Zr_st (q := (132, [zp a0, zj x1, zj 128], [])) rfl rfl rfl ?_
          show Zr sc 127 132 [zp a0, zj x1, zj 128] [] w ov w' c s
          exact h
        · replace h := h.2 hp
          show Zr sc 127 100 [zp a0, zj x1, zj 1] [] w ov w' c s
          refine Zr_st (q := (101, [zp a0, zj x1, zj 1], [zj x1])) rfl rfl rfl ?_
          show Zr sc 127 101 [zp a0, zj x1, zj 1] [zj x1] w ov w' c s
          refine Zr_st (q := (102, [zp a0, zj x1, zj 1], [zp a0, zj x1])) rfl rfl rfl ?_
          show Zr sc 127 102 [zp a0, zj x1, zj 1] [zp a0, zj x1] w ov w' c s
          refine Zr_st (q := (103, [zp a0, zj x1, zj 1], [zj x1, zp a0, zj x1])) rfl rfl rfl ?_
          show Zr sc 127 103 [zp a0, zj x1, zj 1] [zj x1, zp a0, zj x1] w ov w' c s
          refine rl_si rfl (by decide) ?_
          show Zr sc 127 106 [zp a0, zj x1, zj 1] [zj 128, zj x1, zp a0, zj x1] w ov w' c s
          obtain ⟨hd_10, h⟩ := h
          refine rl_div rfl hd_10.1 hd_10.2.1 hd_10.2.2.1 hd_10.2.2.2 ?_
          show Zr sc 127 107 [zp a0, zj x1, zj 1] [zj (x1 / 128), zp a0, zj x1] w ov w' c s
          obtain ⟨r_13, hk_9, h⟩ := h
          refine rn_cal0 (ins := .invokevirtual 97) (rest := [zj x1]) rfl rfl rfl rfl (zinv_v (fs := _) L0 rfl rfl rfl rfl) rfl rfl hk_9 ?_
          show Zr sc 127 110 [zp a0, zj x1, zj 1] [zj r_13, zj x1] w ov w' c s
          obtain ⟨hd_14, h⟩ := h
          refine rl_rem rfl hd_14.1 hd_14.2.1 hd_14.2.2.1 hd_14.2.2.2 ?_
          show Zr sc 127 111 [zp a0, zj x1, zj 1] [zj (x1 % r_13)] w ov w' c s
          obtain ⟨hr_15, h⟩ := h
          refine Zr_b0 (p := (x1 % r_13) ≠ 0) rfl rfl (zcmp_0 (cnd := .ne) hr_15) (fun hp => ?_) (fun hp => ?_)
          · replace h := h.1 hp
            show Zr sc 127 126 [zp a0, zj x1, zj 1] [] w ov w' c s
            refine rl_ic rfl ?_
            show Zr sc 127 127 [zp a0, zj x1, zj 1] [zj 0] w ov w' c s
            obtain ⟨h1, h2, h3, h4⟩ := h
            subst h1; subst h2; subst h3; subst h4
            exact Zr_ret (ins := .ireturn) rfl rfl
          · replace h := h.2 hp
            show Zr sc 127 114 [zp a0, zj x1, zj 1] [] w ov w' c s
            refine Zr_st (q := (115, [zp a0, zj x1, zj 1], [zp a0])) rfl rfl rfl ?_
            show Zr sc 127 115 [zp a0, zj x1, zj 1] [zp a0] w ov w' c s
            refine Zr_st (q := (116, [zp a0, zj x1, zj 1], [zj x1, zp a0])) rfl rfl rfl ?_
            show Zr sc 127 116 [zp a0, zj x1, zj 1] [zj x1, zp a0] w ov w' c s
            refine rl_si rfl (by decide) ?_
            show Zr sc 127 119 [zp a0, zj x1, zj 1] [zj 128, zj x1, zp a0] w ov w' c s
            obtain ⟨hd_16, h⟩ := h
            refine rl_div rfl hd_16.1 hd_16.2.1 hd_16.2.2.1 hd_16.2.2.2 ?_
            show Zr sc 127 120 [zp a0, zj x1, zj 1] [zj (x1 / 128), zp a0] w ov w' c s
            obtain ⟨r_19, hk_9, h⟩ := h
            refine rn_cal0 (ins := .invokevirtual 97) (rest := []) rfl rfl rfl rfl (zinv_v (fs := _) L0 rfl rfl rfl rfl) rfl rfl hk_9 ?_
            show Zr sc 127 123 [zp a0, zj x1, zj 1] [zj r_19] w ov w' c s
            refine Zr_st (q := (127, [zp a0, zj x1, zj 1], [zj r_19])) rfl rfl rfl ?_
            show Zr sc 127 127 [zp a0, zj x1, zj 1] [zj r_19] w ov w' c s
            obtain ⟨h1, h2, h3, h4⟩ := h
            subst h1; subst h2; subst h3; subst h4
            exact Zr_ret (ins := .ireturn) rfl rfl
      · replace h := h.2 hp
        show Zr sc 127 55 [zp a0, zj x1, zj 1] [] w ov w' c s
        exact h
    · replace h := h.2 hp
      show Zr sc 127 21 [zp a0, zj x1, zj 1] [] w ov w' c s
      exact h
  · replace h := h.2 hp
    show Zr sc 127 9 [zp a0, zj x1, zmk] [] w ov w' c s
    refine rl_ic rfl ?_
    show Zr sc 127 10 [zp a0, zj x1, zmk] [zj 0] w ov w' c s
    obtain ⟨h1, h2, h3, h4⟩ := h
    subst h1; subst h2; subst h3; subst h4
    exact Zr_ret (ins := .ireturn) rfl rfl
set_option maxRecDepth 100000 in
theorem V127_21 {sc : List Value} {w w' : List zE} {ov : Option Value} {c s : Nat} {a0 : Nat} {x1 : Int} {x2 : Int} {dr : Int} {wy : Int} {st : Int} {hd : Int} {nm : Int} {ar : Int} {hn : Int} {pk : Int} {D : Nat} {tl : Int} {ow : List Int} (L0 : w[a0]? = some (zob 7 [zp (a0 + 1), .ref 0, zj dr, zj wy, zj st, zj hd, zp (a0 + 73), zj nm, zp (a0 + 74), zp (a0 + 75), zp (a0 + 76), zj ar, zj hn, zp (a0 + 77), zj pk, zp D, zj tl])) (L73 : w[(a0 + 73)]? = some (za ow)) (h : ((zrg (x1 + x2) ∧ zrg 1024) ∧ ((1024 ≤ (x1 + x2) → (ov = some (zj x2) ∧ w' = w ∧ c = 0 ∧ s = 0)) ∧ (¬ (1024 ≤ (x1 + x2)) → (((0 : Int) ≤ (x1 + x2) ∧ (x1 + x2) < (ow.length : Int) ∧ (x1 + x2) ≤ (2147483647 : Int)) ∧ ((zrg (zgi ow (x1 + x2))) ∧ ((0 ≤ (zgi ow (x1 + x2)) → (ov = some (zj x2) ∧ w' = w ∧ c = 0 ∧ s = 0)) ∧ (¬ (0 ≤ (zgi ow (x1 + x2))) → Zr sc 127 21 [zp a0, zj x1, zj (x2 + 1)] [] w ov w' c s)))))))) : Zr sc 127 21 [zp a0, zj x1, zj x2] [] w ov w' c s := by
  refine Zr_st (q := (22, [zp a0, zj x1, zj x2], [zj x1])) rfl rfl rfl ?_
  show Zr sc 127 22 [zp a0, zj x1, zj x2] [zj x1] w ov w' c s
  refine Zr_st (q := (23, [zp a0, zj x1, zj x2], [zj x2, zj x1])) rfl rfl rfl ?_
  show Zr sc 127 23 [zp a0, zj x1, zj x2] [zj x2, zj x1] w ov w' c s
  refine rl_add rfl ?_
  show Zr sc 127 24 [zp a0, zj x1, zj x2] [zj (x1 + x2)] w ov w' c s
  refine rl_si rfl (by decide) ?_
  show Zr sc 127 27 [zp a0, zj x1, zj x2] [zj 1024, zj (x1 + x2)] w ov w' c s
  obtain ⟨hr_1, h⟩ := h
  refine Zr_br (p := 1024 ≤ (x1 + x2)) rfl rfl (zcmp_j (cnd := .ge) hr_1.1 hr_1.2) (fun hp => ?_) (fun hp => ?_)
  · replace h := h.1 hp
    show Zr sc 127 164 [zp a0, zj x1, zj x2] [] w ov w' c s
    refine Zr_st (q := (165, [zp a0, zj x1, zj x2], [zj x2])) rfl rfl rfl ?_
    show Zr sc 127 165 [zp a0, zj x1, zj x2] [zj x2] w ov w' c s
    obtain ⟨h1, h2, h3, h4⟩ := h
    subst h1; subst h2; subst h3; subst h4
    exact Zr_ret (ins := .ireturn) rfl rfl
  · replace h := h.2 hp
    show Zr sc 127 30 [zp a0, zj x1, zj x2] [] w ov w' c s
    refine Zr_st (q := (31, [zp a0, zj x1, zj x2], [zp a0])) rfl rfl rfl ?_
    show Zr sc 127 31 [zp a0, zj x1, zj x2] [zp a0] w ov w' c s
    refine rl_gf rfl L0 rfl rfl ?_
    show Zr sc 127 34 [zp a0, zj x1, zj x2] [zp (a0 + 73)] w ov w' c s
    refine Zr_st (q := (35, [zp a0, zj x1, zj x2], [zj x1, zp (a0 + 73)])) rfl rfl rfl ?_
    show Zr sc 127 35 [zp a0, zj x1, zj x2] [zj x1, zp (a0 + 73)] w ov w' c s
    refine Zr_st (q := (36, [zp a0, zj x1, zj x2], [zj x2, zj x1, zp (a0 + 73)])) rfl rfl rfl ?_
    show Zr sc 127 36 [zp a0, zj x1, zj x2] [zj x2, zj x1, zp (a0 + 73)] w ov w' c s
    refine rl_add rfl ?_
    show Zr sc 127 37 [zp a0, zj x1, zj x2] [zj (x1 + x2), zp (a0 + 73)] w ov w' c s
    obtain ⟨hi_2, h⟩ := h
    refine rl_ia rfl L73 hi_2.1 hi_2.2.1 hi_2.2.2 ?_
    show Zr sc 127 38 [zp a0, zj x1, zj x2] [zj (zgi ow (x1 + x2))] w ov w' c s
    obtain ⟨hr_3, h⟩ := h
    refine Zr_b0 (p := 0 ≤ (zgi ow (x1 + x2))) rfl rfl (zcmp_0 (cnd := .ge) hr_3) (fun hp => ?_) (fun hp => ?_)
    · replace h := h.1 hp
      show Zr sc 127 164 [zp a0, zj x1, zj x2] [] w ov w' c s
      refine Zr_st (q := (165, [zp a0, zj x1, zj x2], [zj x2])) rfl rfl rfl ?_
      show Zr sc 127 165 [zp a0, zj x1, zj x2] [zj x2] w ov w' c s
      obtain ⟨h1, h2, h3, h4⟩ := h
      subst h1; subst h2; subst h3; subst h4
      exact Zr_ret (ins := .ireturn) rfl rfl
    · replace h := h.2 hp
      show Zr sc 127 41 [zp a0, zj x1, zj x2] [] w ov w' c s
      refine rl_inc rfl rfl rfl rfl ?_
      show Zr sc 127 44 [zp a0, zj x1, zj (x2 + 1)] [] w ov w' c s
      refine Zr_st (q := (21, [zp a0, zj x1, zj (x2 + 1)], [])) rfl rfl rfl ?_
      show Zr sc 127 21 [zp a0, zj x1, zj (x2 + 1)] [] w ov w' c s
      exact h
set_option maxRecDepth 100000 in
theorem V127_55 {sc : List Value} {w w' : List zE} {ov : Option Value} {c s : Nat} {a0 : Nat} {x1 : Int} {x2 : Int} {dr : Int} {wy : Int} {st : Int} {hd : Int} {nm : Int} {ar : Int} {hn : Int} {pk : Int} {D : Nat} {tl : Int} (L0 : w[a0]? = some (zob 7 [zp (a0 + 1), .ref 0, zj dr, zj wy, zj st, zj hd, zp (a0 + 73), zj nm, zp (a0 + 74), zp (a0 + 75), zp (a0 + 76), zj ar, zj hn, zp (a0 + 77), zj pk, zp D, zj tl])) (h : ((zrg x2 ∧ zrg 1024) ∧ ((1024 ≤ x2 → (ov = some (zj x2) ∧ w' = w ∧ c = 0 ∧ s = 0)) ∧ (¬ (1024 ≤ x2) → (((0 : Int) ≤ x1 ∧ x1 ≤ (2147483647 : Int) ∧ (0 : Int) < (2 * x2) ∧ (2 * x2) ≤ (2147483647 : Int)) ∧ ((zrg (x1 % (2 * x2))) ∧ (((x1 % (2 * x2)) ≠ 0 → (ov = some (zj x2) ∧ w' = w ∧ c = 0 ∧ s = 0)) ∧ (¬ ((x1 % (2 * x2)) ≠ 0) → (∃ r_6 : Int, Zc sc 128 [zp a0, zj x1, zj (2 * x2)] w (some (zj r_6)) w 0 0 ∧ ((zrg r_6) ∧ ((r_6 = 0 → (ov = some (zj x2) ∧ w' = w ∧ c = 0 ∧ s = 0)) ∧ (¬ (r_6 = 0) → Zr sc 127 55 [zp a0, zj x1, zj (x2 * 2)] [] w ov w' c s)))))))))))) : Zr sc 127 55 [zp a0, zj x1, zj x2] [] w ov w' c s := by
  refine Zr_st (q := (56, [zp a0, zj x1, zj x2], [zj x2])) rfl rfl rfl ?_
  show Zr sc 127 56 [zp a0, zj x1, zj x2] [zj x2] w ov w' c s
  refine rl_si rfl (by decide) ?_
  show Zr sc 127 59 [zp a0, zj x1, zj x2] [zj 1024, zj x2] w ov w' c s
  obtain ⟨hr_1, h⟩ := h
  refine Zr_br (p := 1024 ≤ x2) rfl rfl (zcmp_j (cnd := .ge) hr_1.1 hr_1.2) (fun hp => ?_) (fun hp => ?_)
  · replace h := h.1 hp
    show Zr sc 127 164 [zp a0, zj x1, zj x2] [] w ov w' c s
    refine Zr_st (q := (165, [zp a0, zj x1, zj x2], [zj x2])) rfl rfl rfl ?_
    show Zr sc 127 165 [zp a0, zj x1, zj x2] [zj x2] w ov w' c s
    obtain ⟨h1, h2, h3, h4⟩ := h
    subst h1; subst h2; subst h3; subst h4
    exact Zr_ret (ins := .ireturn) rfl rfl
  · replace h := h.2 hp
    show Zr sc 127 62 [zp a0, zj x1, zj x2] [] w ov w' c s
    refine Zr_st (q := (63, [zp a0, zj x1, zj x2], [zj x1])) rfl rfl rfl ?_
    show Zr sc 127 63 [zp a0, zj x1, zj x2] [zj x1] w ov w' c s
    refine rl_ic rfl ?_
    show Zr sc 127 64 [zp a0, zj x1, zj x2] [zj 2, zj x1] w ov w' c s
    refine Zr_st (q := (65, [zp a0, zj x1, zj x2], [zj x2, zj 2, zj x1])) rfl rfl rfl ?_
    show Zr sc 127 65 [zp a0, zj x1, zj x2] [zj x2, zj 2, zj x1] w ov w' c s
    refine rl_mul rfl ?_
    show Zr sc 127 66 [zp a0, zj x1, zj x2] [zj (2 * x2), zj x1] w ov w' c s
    obtain ⟨hd_2, h⟩ := h
    refine rl_rem rfl hd_2.1 hd_2.2.1 hd_2.2.2.1 hd_2.2.2.2 ?_
    show Zr sc 127 67 [zp a0, zj x1, zj x2] [zj (x1 % (2 * x2))] w ov w' c s
    obtain ⟨hr_3, h⟩ := h
    refine Zr_b0 (p := (x1 % (2 * x2)) ≠ 0) rfl rfl (zcmp_0 (cnd := .ne) hr_3) (fun hp => ?_) (fun hp => ?_)
    · replace h := h.1 hp
      show Zr sc 127 164 [zp a0, zj x1, zj x2] [] w ov w' c s
      refine Zr_st (q := (165, [zp a0, zj x1, zj x2], [zj x2])) rfl rfl rfl ?_
      show Zr sc 127 165 [zp a0, zj x1, zj x2] [zj x2] w ov w' c s
      obtain ⟨h1, h2, h3, h4⟩ := h
      subst h1; subst h2; subst h3; subst h4
      exact Zr_ret (ins := .ireturn) rfl rfl
    · replace h := h.2 hp
      show Zr sc 127 70 [zp a0, zj x1, zj x2] [] w ov w' c s
      refine Zr_st (q := (71, [zp a0, zj x1, zj x2], [zp a0])) rfl rfl rfl ?_
      show Zr sc 127 71 [zp a0, zj x1, zj x2] [zp a0] w ov w' c s
      refine Zr_st (q := (72, [zp a0, zj x1, zj x2], [zj x1, zp a0])) rfl rfl rfl ?_
      show Zr sc 127 72 [zp a0, zj x1, zj x2] [zj x1, zp a0] w ov w' c s
      refine rl_ic rfl ?_
      show Zr sc 127 73 [zp a0, zj x1, zj x2] [zj 2, zj x1, zp a0] w ov w' c s
      refine Zr_st (q := (74, [zp a0, zj x1, zj x2], [zj x2, zj 2, zj x1, zp a0])) rfl rfl rfl ?_
      show Zr sc 127 74 [zp a0, zj x1, zj x2] [zj x2, zj 2, zj x1, zp a0] w ov w' c s
      refine rl_mul rfl ?_
      show Zr sc 127 75 [zp a0, zj x1, zj x2] [zj (2 * x2), zj x1, zp a0] w ov w' c s
      obtain ⟨r_6, hk_9, h⟩ := h
      refine rn_cal0 (ins := .invokevirtual 79) (rest := []) rfl rfl rfl rfl (zinv_v (fs := _) L0 rfl rfl rfl rfl) rfl rfl hk_9 ?_
      show Zr sc 127 78 [zp a0, zj x1, zj x2] [zj r_6] w ov w' c s
      obtain ⟨hr_7, h⟩ := h
      refine Zr_b0 (p := r_6 = 0) rfl rfl (zcmp_0 (cnd := .eq) hr_7) (fun hp => ?_) (fun hp => ?_)
      · replace h := h.1 hp
        show Zr sc 127 164 [zp a0, zj x1, zj x2] [] w ov w' c s
        refine Zr_st (q := (165, [zp a0, zj x1, zj x2], [zj x2])) rfl rfl rfl ?_
        show Zr sc 127 165 [zp a0, zj x1, zj x2] [zj x2] w ov w' c s
        obtain ⟨h1, h2, h3, h4⟩ := h
        subst h1; subst h2; subst h3; subst h4
        exact Zr_ret (ins := .ireturn) rfl rfl
      · replace h := h.2 hp
        show Zr sc 127 81 [zp a0, zj x1, zj x2] [] w ov w' c s
        refine Zr_st (q := (82, [zp a0, zj x1, zj x2], [zj x2])) rfl rfl rfl ?_
        show Zr sc 127 82 [zp a0, zj x1, zj x2] [zj x2] w ov w' c s
        refine rl_ic rfl ?_
        show Zr sc 127 83 [zp a0, zj x1, zj x2] [zj 2, zj x2] w ov w' c s
        refine rl_mul rfl ?_
        show Zr sc 127 84 [zp a0, zj x1, zj x2] [zj (x2 * 2)] w ov w' c s
        refine Zr_st (q := (85, [zp a0, zj x1, zj (x2 * 2)], [])) rfl rfl rfl ?_
        show Zr sc 127 85 [zp a0, zj x1, zj (x2 * 2)] [] w ov w' c s
        refine Zr_st (q := (55, [zp a0, zj x1, zj (x2 * 2)], [])) rfl rfl rfl ?_
        show Zr sc 127 55 [zp a0, zj x1, zj (x2 * 2)] [] w ov w' c s
        exact h
set_option maxRecDepth 100000 in
theorem V127_132 {sc : List Value} {w w' : List zE} {ov : Option Value} {c s : Nat} {a0 : Nat} {x1 : Int} {x2 : Int} {dr : Int} {wy : Int} {st : Int} {hd : Int} {nm : Int} {ar : Int} {hn : Int} {pk : Int} {D : Nat} {tl : Int} (L0 : w[a0]? = some (zob 7 [zp (a0 + 1), .ref 0, zj dr, zj wy, zj st, zj hd, zp (a0 + 73), zj nm, zp (a0 + 74), zp (a0 + 75), zp (a0 + 76), zj ar, zj hn, zp (a0 + 77), zj pk, zp D, zj tl])) (h : ((zrg (x1 + x2) ∧ zrg 1024) ∧ ((1024 ≤ (x1 + x2) → (ov = some (zj x2) ∧ w' = w ∧ c = 0 ∧ s = 0)) ∧ (¬ (1024 ≤ (x1 + x2)) → (((0 : Int) ≤ (x1 + x2) ∧ (x1 + x2) ≤ (2147483647 : Int) ∧ (0 : Int) < 128 ∧ 128 ≤ (2147483647 : Int)) ∧ (∃ r_5 : Int, Zc sc 129 [zp a0, zj ((x1 + x2) / 128)] w (some (zj r_5)) w 0 0 ∧ ((zrg r_5) ∧ ((r_5 ≠ 0 → (ov = some (zj x2) ∧ w' = w ∧ c = 0 ∧ s = 0)) ∧ (¬ (r_5 ≠ 0) → Zr sc 127 132 [zp a0, zj x1, zj (x2 + 128)] [] w ov w' c s))))))))) : Zr sc 127 132 [zp a0, zj x1, zj x2] [] w ov w' c s := by
  refine Zr_st (q := (133, [zp a0, zj x1, zj x2], [zj x1])) rfl rfl rfl ?_
  show Zr sc 127 133 [zp a0, zj x1, zj x2] [zj x1] w ov w' c s
  refine Zr_st (q := (134, [zp a0, zj x1, zj x2], [zj x2, zj x1])) rfl rfl rfl ?_
  show Zr sc 127 134 [zp a0, zj x1, zj x2] [zj x2, zj x1] w ov w' c s
  refine rl_add rfl ?_
  show Zr sc 127 135 [zp a0, zj x1, zj x2] [zj (x1 + x2)] w ov w' c s
  refine rl_si rfl (by decide) ?_
  show Zr sc 127 138 [zp a0, zj x1, zj x2] [zj 1024, zj (x1 + x2)] w ov w' c s
  obtain ⟨hr_1, h⟩ := h
  refine Zr_br (p := 1024 ≤ (x1 + x2)) rfl rfl (zcmp_j (cnd := .ge) hr_1.1 hr_1.2) (fun hp => ?_) (fun hp => ?_)
  · replace h := h.1 hp
    show Zr sc 127 164 [zp a0, zj x1, zj x2] [] w ov w' c s
    refine Zr_st (q := (165, [zp a0, zj x1, zj x2], [zj x2])) rfl rfl rfl ?_
    show Zr sc 127 165 [zp a0, zj x1, zj x2] [zj x2] w ov w' c s
    obtain ⟨h1, h2, h3, h4⟩ := h
    subst h1; subst h2; subst h3; subst h4
    exact Zr_ret (ins := .ireturn) rfl rfl
  · replace h := h.2 hp
    show Zr sc 127 141 [zp a0, zj x1, zj x2] [] w ov w' c s
    refine Zr_st (q := (142, [zp a0, zj x1, zj x2], [zp a0])) rfl rfl rfl ?_
    show Zr sc 127 142 [zp a0, zj x1, zj x2] [zp a0] w ov w' c s
    refine Zr_st (q := (143, [zp a0, zj x1, zj x2], [zj x1, zp a0])) rfl rfl rfl ?_
    show Zr sc 127 143 [zp a0, zj x1, zj x2] [zj x1, zp a0] w ov w' c s
    refine Zr_st (q := (144, [zp a0, zj x1, zj x2], [zj x2, zj x1, zp a0])) rfl rfl rfl ?_
    show Zr sc 127 144 [zp a0, zj x1, zj x2] [zj x2, zj x1, zp a0] w ov w' c s
    refine rl_add rfl ?_
    show Zr sc 127 145 [zp a0, zj x1, zj x2] [zj (x1 + x2), zp a0] w ov w' c s
    refine rl_si rfl (by decide) ?_
    show Zr sc 127 148 [zp a0, zj x1, zj x2] [zj 128, zj (x1 + x2), zp a0] w ov w' c s
    obtain ⟨hd_2, h⟩ := h
    refine rl_div rfl hd_2.1 hd_2.2.1 hd_2.2.2.1 hd_2.2.2.2 ?_
    show Zr sc 127 149 [zp a0, zj x1, zj x2] [zj ((x1 + x2) / 128), zp a0] w ov w' c s
    obtain ⟨r_5, hk_9, h⟩ := h
    refine rn_cal0 (ins := .invokevirtual 97) (rest := []) rfl rfl rfl rfl (zinv_v (fs := _) L0 rfl rfl rfl rfl) rfl rfl hk_9 ?_
    show Zr sc 127 152 [zp a0, zj x1, zj x2] [zj r_5] w ov w' c s
    obtain ⟨hr_6, h⟩ := h
    refine Zr_b0 (p := r_5 ≠ 0) rfl rfl (zcmp_0 (cnd := .ne) hr_6) (fun hp => ?_) (fun hp => ?_)
    · replace h := h.1 hp
      show Zr sc 127 164 [zp a0, zj x1, zj x2] [] w ov w' c s
      refine Zr_st (q := (165, [zp a0, zj x1, zj x2], [zj x2])) rfl rfl rfl ?_
      show Zr sc 127 165 [zp a0, zj x1, zj x2] [zj x2] w ov w' c s
      obtain ⟨h1, h2, h3, h4⟩ := h
      subst h1; subst h2; subst h3; subst h4
      exact Zr_ret (ins := .ireturn) rfl rfl
    · replace h := h.2 hp
      show Zr sc 127 155 [zp a0, zj x1, zj x2] [] w ov w' c s
      refine rl_inc rfl rfl rfl rfl ?_
      show Zr sc 127 161 [zp a0, zj x1, zj (x2 + 128)] [] w ov w' c s
      refine Zr_st (q := (132, [zp a0, zj x1, zj (x2 + 128)], [])) rfl rfl rfl ?_
      show Zr sc 127 132 [zp a0, zj x1, zj (x2 + 128)] [] w ov w' c s
      exact h

-- HeapwrightLabLaw$Pool.isFree(II)Z
set_option maxRecDepth 100000 in
theorem V128_0 {sc : List Value} {w w' : List zE} {ov : Option Value} {c s : Nat} {a0 : Nat} {x1 : Int} {x2 : Int} (h : Zr sc 128 2 [zp a0, zj x1, zj x2, zj x1] [] w ov w' c s) : Zr sc 128 0 [zp a0, zj x1, zj x2, zmk] [] w ov w' c s := by
  refine Zr_st (q := (1, [zp a0, zj x1, zj x2, zmk], [zj x1])) rfl rfl rfl ?_
  show Zr sc 128 1 [zp a0, zj x1, zj x2, zmk] [zj x1] w ov w' c s
  refine Zr_st (q := (2, [zp a0, zj x1, zj x2, zj x1], [])) rfl rfl rfl ?_
  show Zr sc 128 2 [zp a0, zj x1, zj x2, zj x1] [] w ov w' c s
  exact h
set_option maxRecDepth 100000 in
theorem V128_2 {sc : List Value} {w w' : List zE} {ov : Option Value} {c s : Nat} {a0 : Nat} {x1 : Int} {x2 : Int} {x3 : Int} {dr : Int} {wy : Int} {st : Int} {hd : Int} {nm : Int} {ar : Int} {hn : Int} {pk : Int} {D : Nat} {tl : Int} {ow : List Int} (L0 : w[a0]? = some (zob 7 [zp (a0 + 1), .ref 0, zj dr, zj wy, zj st, zj hd, zp (a0 + 73), zj nm, zp (a0 + 74), zp (a0 + 75), zp (a0 + 76), zj ar, zj hn, zp (a0 + 77), zj pk, zp D, zj tl])) (L73 : w[(a0 + 73)]? = some (za ow)) (h : ((zrg x3 ∧ zrg (x1 + x2)) ∧ (((x1 + x2) ≤ x3 → (ov = some (zj 1) ∧ w' = w ∧ c = 0 ∧ s = 0)) ∧ (¬ ((x1 + x2) ≤ x3) → (((0 : Int) ≤ x3 ∧ x3 < (ow.length : Int) ∧ x3 ≤ (2147483647 : Int)) ∧ ((zrg (zgi ow x3)) ∧ (((zgi ow x3) < 0 → Zr sc 128 2 [zp a0, zj x1, zj x2, zj (x3 + 1)] [] w ov w' c s) ∧ (¬ ((zgi ow x3) < 0) → (ov = some (zj 0) ∧ w' = w ∧ c = 0 ∧ s = 0))))))))) : Zr sc 128 2 [zp a0, zj x1, zj x2, zj x3] [] w ov w' c s := by
  refine Zr_st (q := (3, [zp a0, zj x1, zj x2, zj x3], [zj x3])) rfl rfl rfl ?_
  show Zr sc 128 3 [zp a0, zj x1, zj x2, zj x3] [zj x3] w ov w' c s
  refine Zr_st (q := (4, [zp a0, zj x1, zj x2, zj x3], [zj x1, zj x3])) rfl rfl rfl ?_
  show Zr sc 128 4 [zp a0, zj x1, zj x2, zj x3] [zj x1, zj x3] w ov w' c s
  refine Zr_st (q := (5, [zp a0, zj x1, zj x2, zj x3], [zj x2, zj x1, zj x3])) rfl rfl rfl ?_
  show Zr sc 128 5 [zp a0, zj x1, zj x2, zj x3] [zj x2, zj x1, zj x3] w ov w' c s
  refine rl_add rfl ?_
  show Zr sc 128 6 [zp a0, zj x1, zj x2, zj x3] [zj (x1 + x2), zj x3] w ov w' c s
  obtain ⟨hr_1, h⟩ := h
  refine Zr_br (p := (x1 + x2) ≤ x3) rfl rfl (zcmp_j (cnd := .ge) hr_1.1 hr_1.2) (fun hp => ?_) (fun hp => ?_)
  · replace h := h.1 hp
    show Zr sc 128 26 [zp a0, zj x1, zj x2, zj x3] [] w ov w' c s
    refine rl_ic rfl ?_
    show Zr sc 128 27 [zp a0, zj x1, zj x2, zj x3] [zj 1] w ov w' c s
    obtain ⟨h1, h2, h3, h4⟩ := h
    subst h1; subst h2; subst h3; subst h4
    exact Zr_ret (ins := .ireturn) rfl rfl
  · replace h := h.2 hp
    show Zr sc 128 9 [zp a0, zj x1, zj x2, zj x3] [] w ov w' c s
    refine Zr_st (q := (10, [zp a0, zj x1, zj x2, zj x3], [zp a0])) rfl rfl rfl ?_
    show Zr sc 128 10 [zp a0, zj x1, zj x2, zj x3] [zp a0] w ov w' c s
    refine rl_gf rfl L0 rfl rfl ?_
    show Zr sc 128 13 [zp a0, zj x1, zj x2, zj x3] [zp (a0 + 73)] w ov w' c s
    refine Zr_st (q := (14, [zp a0, zj x1, zj x2, zj x3], [zj x3, zp (a0 + 73)])) rfl rfl rfl ?_
    show Zr sc 128 14 [zp a0, zj x1, zj x2, zj x3] [zj x3, zp (a0 + 73)] w ov w' c s
    obtain ⟨hi_2, h⟩ := h
    refine rl_ia rfl L73 hi_2.1 hi_2.2.1 hi_2.2.2 ?_
    show Zr sc 128 15 [zp a0, zj x1, zj x2, zj x3] [zj (zgi ow x3)] w ov w' c s
    obtain ⟨hr_3, h⟩ := h
    refine Zr_b0 (p := (zgi ow x3) < 0) rfl rfl (zcmp_0 (cnd := .lt) hr_3) (fun hp => ?_) (fun hp => ?_)
    · replace h := h.1 hp
      show Zr sc 128 20 [zp a0, zj x1, zj x2, zj x3] [] w ov w' c s
      refine rl_inc rfl rfl rfl rfl ?_
      show Zr sc 128 23 [zp a0, zj x1, zj x2, zj (x3 + 1)] [] w ov w' c s
      refine Zr_st (q := (2, [zp a0, zj x1, zj x2, zj (x3 + 1)], [])) rfl rfl rfl ?_
      show Zr sc 128 2 [zp a0, zj x1, zj x2, zj (x3 + 1)] [] w ov w' c s
      exact h
    · replace h := h.2 hp
      show Zr sc 128 18 [zp a0, zj x1, zj x2, zj x3] [] w ov w' c s
      refine rl_ic rfl ?_
      show Zr sc 128 19 [zp a0, zj x1, zj x2, zj x3] [zj 0] w ov w' c s
      obtain ⟨h1, h2, h3, h4⟩ := h
      subst h1; subst h2; subst h3; subst h4
      exact Zr_ret (ins := .ireturn) rfl rfl

-- HeapwrightLabLaw$Pool.pageClass(I)I
set_option maxRecDepth 100000 in
theorem V129_0 {sc : List Value} {w w' : List zE} {ov : Option Value} {c s : Nat} {a0 : Nat} {x1 : Int} {dr : Int} {wy : Int} {st : Int} {hd : Int} {nm : Int} {ar : Int} {hn : Int} {pk : Int} {D : Nat} {tl : Int} (L0 : w[a0]? = some (zob 7 [zp (a0 + 1), .ref 0, zj dr, zj wy, zj st, zj hd, zp (a0 + 73), zj nm, zp (a0 + 74), zp (a0 + 75), zp (a0 + 76), zj ar, zj hn, zp (a0 + 77), zj pk, zp D, zj tl])) (h : (∃ r_3 : Int, Zc sc 128 [zp a0, zj (128 * x1), zj 128] w (some (zj r_3)) w 0 0 ∧ ((zrg r_3) ∧ ((r_3 = 0 → Zr sc 129 23 [zp a0, zj x1, zj (128 * x1)] [] w ov w' c s) ∧ (¬ (r_3 = 0) → (ov = some (zj 0) ∧ w' = w ∧ c = 0 ∧ s = 0)))))) : Zr sc 129 0 [zp a0, zj x1, zmk] [] w ov w' c s := by
  refine Zr_st (q := (1, [zp a0, zj x1, zmk], [zp a0])) rfl rfl rfl ?_
  show Zr sc 129 1 [zp a0, zj x1, zmk] [zp a0] w ov w' c s
  refine rl_si rfl (by decide) ?_
  show Zr sc 129 4 [zp a0, zj x1, zmk] [zj 128, zp a0] w ov w' c s
  refine Zr_st (q := (5, [zp a0, zj x1, zmk], [zj x1, zj 128, zp a0])) rfl rfl rfl ?_
  show Zr sc 129 5 [zp a0, zj x1, zmk] [zj x1, zj 128, zp a0] w ov w' c s
  refine rl_mul rfl ?_
  show Zr sc 129 6 [zp a0, zj x1, zmk] [zj (128 * x1), zp a0] w ov w' c s
  refine rl_si rfl (by decide) ?_
  show Zr sc 129 9 [zp a0, zj x1, zmk] [zj 128, zj (128 * x1), zp a0] w ov w' c s
  obtain ⟨r_3, hk_9, h⟩ := h
  refine rn_cal0 (ins := .invokevirtual 79) (rest := []) rfl rfl rfl rfl (zinv_v (fs := _) L0 rfl rfl rfl rfl) rfl rfl hk_9 ?_
  show Zr sc 129 12 [zp a0, zj x1, zmk] [zj r_3] w ov w' c s
  obtain ⟨hr_4, h⟩ := h
  refine Zr_b0 (p := r_3 = 0) rfl rfl (zcmp_0 (cnd := .eq) hr_4) (fun hp => ?_) (fun hp => ?_)
  · replace h := h.1 hp
    show Zr sc 129 17 [zp a0, zj x1, zmk] [] w ov w' c s
    refine rl_si rfl (by decide) ?_
    show Zr sc 129 20 [zp a0, zj x1, zmk] [zj 128] w ov w' c s
    refine Zr_st (q := (21, [zp a0, zj x1, zmk], [zj x1, zj 128])) rfl rfl rfl ?_
    show Zr sc 129 21 [zp a0, zj x1, zmk] [zj x1, zj 128] w ov w' c s
    refine rl_mul rfl ?_
    show Zr sc 129 22 [zp a0, zj x1, zmk] [zj (128 * x1)] w ov w' c s
    refine Zr_st (q := (23, [zp a0, zj x1, zj (128 * x1)], [])) rfl rfl rfl ?_
    show Zr sc 129 23 [zp a0, zj x1, zj (128 * x1)] [] w ov w' c s
    exact h
  · replace h := h.2 hp
    show Zr sc 129 15 [zp a0, zj x1, zmk] [] w ov w' c s
    refine rl_ic rfl ?_
    show Zr sc 129 16 [zp a0, zj x1, zmk] [zj 0] w ov w' c s
    obtain ⟨h1, h2, h3, h4⟩ := h
    subst h1; subst h2; subst h3; subst h4
    exact Zr_ret (ins := .ireturn) rfl rfl
set_option maxRecDepth 100000 in
theorem V129_23 {sc : List Value} {w w' : List zE} {ov : Option Value} {c s : Nat} {a0 : Nat} {x1 : Int} {x2 : Int} {dr : Int} {wy : Int} {st : Int} {hd : Int} {nm : Int} {ar : Int} {hn : Int} {pk : Int} {D : Nat} {tl : Int} {ow : List Int} {rm : List Int} (L0 : w[a0]? = some (zob 7 [zp (a0 + 1), .ref 0, zj dr, zj wy, zj st, zj hd, zp (a0 + 73), zj nm, zp (a0 + 74), zp (a0 + 75), zp (a0 + 76), zj ar, zj hn, zp (a0 + 77), zj pk, zp D, zj tl])) (L73 : w[(a0 + 73)]? = some (za ow)) (L75 : w[(a0 + 75)]? = some (za rm)) (h : (((0 : Int) ≤ x2 ∧ x2 < (ow.length : Int) ∧ x2 ≤ (2147483647 : Int)) ∧ ((zrg (zgi ow x2)) ∧ (((zgi ow x2) < 0 → Zr sc 129 23 [zp a0, zj x1, zj (x2 + 1)] [] w ov w' c s) ∧ (¬ ((zgi ow x2) < 0) → (((0 : Int) ≤ x2 ∧ x2 < (ow.length : Int) ∧ x2 ≤ (2147483647 : Int)) ∧ (((0 : Int) ≤ (zgi ow x2) ∧ (zgi ow x2) < (rm.length : Int) ∧ (zgi ow x2) ≤ (2147483647 : Int)) ∧ ((zrg (zgi rm (zgi ow x2)) ∧ zrg 128) ∧ (((zgi rm (zgi ow x2)) ≤ 128 → (((0 : Int) ≤ x2 ∧ x2 < (ow.length : Int) ∧ x2 ≤ (2147483647 : Int)) ∧ (((0 : Int) ≤ (zgi ow x2) ∧ (zgi ow x2) < (rm.length : Int) ∧ (zgi ow x2) ≤ (2147483647 : Int)) ∧ (ov = some (zj (zgi rm (zgi ow x2))) ∧ w' = w ∧ c = 0 ∧ s = 0)))) ∧ (¬ ((zgi rm (zgi ow x2)) ≤ 128) → (ov = some (zj (-1)) ∧ w' = w ∧ c = 0 ∧ s = 0))))))))))) : Zr sc 129 23 [zp a0, zj x1, zj x2] [] w ov w' c s := by
  refine Zr_st (q := (24, [zp a0, zj x1, zj x2], [zp a0])) rfl rfl rfl ?_
  show Zr sc 129 24 [zp a0, zj x1, zj x2] [zp a0] w ov w' c s
  refine rl_gf rfl L0 rfl rfl ?_
  show Zr sc 129 27 [zp a0, zj x1, zj x2] [zp (a0 + 73)] w ov w' c s
  refine Zr_st (q := (28, [zp a0, zj x1, zj x2], [zj x2, zp (a0 + 73)])) rfl rfl rfl ?_
  show Zr sc 129 28 [zp a0, zj x1, zj x2] [zj x2, zp (a0 + 73)] w ov w' c s
  obtain ⟨hi_1, h⟩ := h
  refine rl_ia rfl L73 hi_1.1 hi_1.2.1 hi_1.2.2 ?_
  show Zr sc 129 29 [zp a0, zj x1, zj x2] [zj (zgi ow x2)] w ov w' c s
  obtain ⟨hr_2, h⟩ := h
  refine Zr_b0 (p := (zgi ow x2) < 0) rfl rfl (zcmp_0 (cnd := .lt) hr_2) (fun hp => ?_) (fun hp => ?_)
  · replace h := h.1 hp
    show Zr sc 129 65 [zp a0, zj x1, zj x2] [] w ov w' c s
    refine rl_inc rfl rfl rfl rfl ?_
    show Zr sc 129 68 [zp a0, zj x1, zj (x2 + 1)] [] w ov w' c s
    refine Zr_st (q := (23, [zp a0, zj x1, zj (x2 + 1)], [])) rfl rfl rfl ?_
    show Zr sc 129 23 [zp a0, zj x1, zj (x2 + 1)] [] w ov w' c s
    exact h
  · replace h := h.2 hp
    show Zr sc 129 32 [zp a0, zj x1, zj x2] [] w ov w' c s
    refine Zr_st (q := (33, [zp a0, zj x1, zj x2], [zp a0])) rfl rfl rfl ?_
    show Zr sc 129 33 [zp a0, zj x1, zj x2] [zp a0] w ov w' c s
    refine rl_gf rfl L0 rfl rfl ?_
    show Zr sc 129 36 [zp a0, zj x1, zj x2] [zp (a0 + 75)] w ov w' c s
    refine Zr_st (q := (37, [zp a0, zj x1, zj x2], [zp a0, zp (a0 + 75)])) rfl rfl rfl ?_
    show Zr sc 129 37 [zp a0, zj x1, zj x2] [zp a0, zp (a0 + 75)] w ov w' c s
    refine rl_gf rfl L0 rfl rfl ?_
    show Zr sc 129 40 [zp a0, zj x1, zj x2] [zp (a0 + 73), zp (a0 + 75)] w ov w' c s
    refine Zr_st (q := (41, [zp a0, zj x1, zj x2], [zj x2, zp (a0 + 73), zp (a0 + 75)])) rfl rfl rfl ?_
    show Zr sc 129 41 [zp a0, zj x1, zj x2] [zj x2, zp (a0 + 73), zp (a0 + 75)] w ov w' c s
    obtain ⟨hi_3, h⟩ := h
    refine rl_ia rfl L73 hi_3.1 hi_3.2.1 hi_3.2.2 ?_
    show Zr sc 129 42 [zp a0, zj x1, zj x2] [zj (zgi ow x2), zp (a0 + 75)] w ov w' c s
    obtain ⟨hi_4, h⟩ := h
    refine rl_ia rfl L75 hi_4.1 hi_4.2.1 hi_4.2.2 ?_
    show Zr sc 129 43 [zp a0, zj x1, zj x2] [zj (zgi rm (zgi ow x2))] w ov w' c s
    refine rl_si rfl (by decide) ?_
    show Zr sc 129 46 [zp a0, zj x1, zj x2] [zj 128, zj (zgi rm (zgi ow x2))] w ov w' c s
    obtain ⟨hr_5, h⟩ := h
    refine Zr_br (p := (zgi rm (zgi ow x2)) ≤ 128) rfl rfl (zcmp_j (cnd := .le) hr_5.1 hr_5.2) (fun hp => ?_) (fun hp => ?_)
    · replace h := h.1 hp
      show Zr sc 129 53 [zp a0, zj x1, zj x2] [] w ov w' c s
      refine Zr_st (q := (54, [zp a0, zj x1, zj x2], [zp a0])) rfl rfl rfl ?_
      show Zr sc 129 54 [zp a0, zj x1, zj x2] [zp a0] w ov w' c s
      refine rl_gf rfl L0 rfl rfl ?_
      show Zr sc 129 57 [zp a0, zj x1, zj x2] [zp (a0 + 75)] w ov w' c s
      refine Zr_st (q := (58, [zp a0, zj x1, zj x2], [zp a0, zp (a0 + 75)])) rfl rfl rfl ?_
      show Zr sc 129 58 [zp a0, zj x1, zj x2] [zp a0, zp (a0 + 75)] w ov w' c s
      refine rl_gf rfl L0 rfl rfl ?_
      show Zr sc 129 61 [zp a0, zj x1, zj x2] [zp (a0 + 73), zp (a0 + 75)] w ov w' c s
      refine Zr_st (q := (62, [zp a0, zj x1, zj x2], [zj x2, zp (a0 + 73), zp (a0 + 75)])) rfl rfl rfl ?_
      show Zr sc 129 62 [zp a0, zj x1, zj x2] [zj x2, zp (a0 + 73), zp (a0 + 75)] w ov w' c s
      obtain ⟨hi_6, h⟩ := h
      refine rl_ia rfl L73 hi_6.1 hi_6.2.1 hi_6.2.2 ?_
      show Zr sc 129 63 [zp a0, zj x1, zj x2] [zj (zgi ow x2), zp (a0 + 75)] w ov w' c s
      obtain ⟨hi_7, h⟩ := h
      refine rl_ia rfl L75 hi_7.1 hi_7.2.1 hi_7.2.2 ?_
      show Zr sc 129 64 [zp a0, zj x1, zj x2] [zj (zgi rm (zgi ow x2))] w ov w' c s
      obtain ⟨h1, h2, h3, h4⟩ := h
      subst h1; subst h2; subst h3; subst h4
      exact Zr_ret (ins := .ireturn) rfl rfl
    · replace h := h.2 hp
      show Zr sc 129 49 [zp a0, zj x1, zj x2] [] w ov w' c s
      refine rl_ic rfl ?_
      show Zr sc 129 50 [zp a0, zj x1, zj x2] [zj (-1)] w ov w' c s
      refine Zr_st (q := (64, [zp a0, zj x1, zj x2], [zj (-1)])) rfl rfl rfl ?_
      show Zr sc 129 64 [zp a0, zj x1, zj x2] [zj (-1)] w ov w' c s
      obtain ⟨h1, h2, h3, h4⟩ := h
      subst h1; subst h2; subst h3; subst h4
      exact Zr_ret (ins := .ireturn) rfl rfl

-- HeapwrightLabLaw$Pool.takeSlot(I)I
set_option maxRecDepth 100000 in
theorem V130_0 {sc : List Value} {w w' : List zE} {ov : Option Value} {c s : Nat} {a0 : Nat} {x1 : Int} (h : Zr sc 130 2 [zp a0, zj x1, zj 0, zmk] [] w ov w' c s) : Zr sc 130 0 [zp a0, zj x1, zmk, zmk] [] w ov w' c s := by
  refine rl_ic rfl ?_
  show Zr sc 130 1 [zp a0, zj x1, zmk, zmk] [zj 0] w ov w' c s
  refine Zr_st (q := (2, [zp a0, zj x1, zj 0, zmk], [])) rfl rfl rfl ?_
  show Zr sc 130 2 [zp a0, zj x1, zj 0, zmk] [] w ov w' c s
  exact h
set_option maxRecDepth 100000 in
theorem V130_2 {sc : List Value} {w w' : List zE} {ov : Option Value} {c s : Nat} {a0 : Nat} {x1 : Int} {x2 : Int} {v3 : Value} {dr : Int} {wy : Int} {st : Int} {hd : Int} {nm : Int} {ar : Int} {hn : Int} {pk : Int} {D : Nat} {tl : Int} {cn : List Int} (L0 : w[a0]? = some (zob 7 [zp (a0 + 1), .ref 0, zj dr, zj wy, zj st, zj hd, zp (a0 + 73), zj nm, zp (a0 + 74), zp (a0 + 75), zp (a0 + 76), zj ar, zj hn, zp (a0 + 77), zj pk, zp D, zj tl])) (L77 : w[(a0 + 77)]? = some (za cn)) (h : ((zrg x2 ∧ zrg 8) ∧ ((8 ≤ x2 → Zr sc 130 82 [zp a0, zj x1, zj x2, v3] [] w ov w' c s) ∧ (¬ (8 ≤ x2) → ((zrg x1 ∧ zrg 128) ∧ ((128 < x1 → Zr sc 130 82 [zp a0, zj x1, zj x2, v3] [] w ov w' c s) ∧ (¬ (128 < x1) → (∃ r_5 : Int, Zc sc 129 [zp a0, zj x2] w (some (zj r_5)) w 0 0 ∧ ((zrg r_5 ∧ zrg x1) ∧ ((r_5 = x1 → (((0 : Int) ≤ 0 ∧ 0 < (cn.length : Int) ∧ 0 ≤ (2147483647 : Int)) ∧ (((0 : Int) ≤ 0 ∧ 0 < (cn.length : Int) ∧ 0 ≤ (2147483647 : Int)) ∧ Zr sc 130 39 [zp a0, zj x1, zj x2, zj 0] [] (w.set (a0 + 77) (za (zsi cn 0 ((zgi cn 0) + 1)))) ov w' c s))) ∧ (¬ (r_5 = x1) → Zr sc 130 2 [zp a0, zj x1, zj (x2 + 1), v3] [] w ov w' c s))))))))))) : Zr sc 130 2 [zp a0, zj x1, zj x2, v3] [] w ov w' c s := by
  refine Zr_st (q := (3, [zp a0, zj x1, zj x2, v3], [zj x2])) rfl rfl rfl ?_
  show Zr sc 130 3 [zp a0, zj x1, zj x2, v3] [zj x2] w ov w' c s
  refine rl_bi rfl (by decide) ?_
  show Zr sc 130 5 [zp a0, zj x1, zj x2, v3] [zj 8, zj x2] w ov w' c s
  obtain ⟨hr_1, h⟩ := h
  refine Zr_br (p := 8 ≤ x2) rfl rfl (zcmp_j (cnd := .ge) hr_1.1 hr_1.2) (fun hp => ?_) (fun hp => ?_)
  · replace h := h.1 hp
    show Zr sc 130 82 [zp a0, zj x1, zj x2, v3] [] w ov w' c s
    exact h
  · replace h := h.2 hp
    show Zr sc 130 8 [zp a0, zj x1, zj x2, v3] [] w ov w' c s
    refine Zr_st (q := (9, [zp a0, zj x1, zj x2, v3], [zj x1])) rfl rfl rfl ?_
    show Zr sc 130 9 [zp a0, zj x1, zj x2, v3] [zj x1] w ov w' c s
    refine rl_si rfl (by decide) ?_
    show Zr sc 130 12 [zp a0, zj x1, zj x2, v3] [zj 128, zj x1] w ov w' c s
    obtain ⟨hr_2, h⟩ := h
    refine Zr_br (p := 128 < x1) rfl rfl (zcmp_j (cnd := .gt) hr_2.1 hr_2.2) (fun hp => ?_) (fun hp => ?_)
    · replace h := h.1 hp
      show Zr sc 130 82 [zp a0, zj x1, zj x2, v3] [] w ov w' c s
      exact h
    · replace h := h.2 hp
      show Zr sc 130 15 [zp a0, zj x1, zj x2, v3] [] w ov w' c s
      refine Zr_st (q := (16, [zp a0, zj x1, zj x2, v3], [zp a0])) rfl rfl rfl ?_
      show Zr sc 130 16 [zp a0, zj x1, zj x2, v3] [zp a0] w ov w' c s
      refine Zr_st (q := (17, [zp a0, zj x1, zj x2, v3], [zj x2, zp a0])) rfl rfl rfl ?_
      show Zr sc 130 17 [zp a0, zj x1, zj x2, v3] [zj x2, zp a0] w ov w' c s
      obtain ⟨r_5, hk_9, h⟩ := h
      refine rn_cal0 (ins := .invokevirtual 97) (rest := []) rfl rfl rfl rfl (zinv_v (fs := _) L0 rfl rfl rfl rfl) rfl rfl hk_9 ?_
      show Zr sc 130 20 [zp a0, zj x1, zj x2, v3] [zj r_5] w ov w' c s
      refine Zr_st (q := (21, [zp a0, zj x1, zj x2, v3], [zj x1, zj r_5])) rfl rfl rfl ?_
      show Zr sc 130 21 [zp a0, zj x1, zj x2, v3] [zj x1, zj r_5] w ov w' c s
      obtain ⟨hr_6, h⟩ := h
      refine Zr_br (p := r_5 = x1) rfl rfl (zcmp_j (cnd := .eq) hr_6.1 hr_6.2) (fun hp => ?_) (fun hp => ?_)
      · replace h := h.1 hp
        show Zr sc 130 27 [zp a0, zj x1, zj x2, v3] [] w ov w' c s
        refine Zr_st (q := (28, [zp a0, zj x1, zj x2, v3], [zp a0])) rfl rfl rfl ?_
        show Zr sc 130 28 [zp a0, zj x1, zj x2, v3] [zp a0] w ov w' c s
        refine rl_gf rfl L0 rfl rfl ?_
        show Zr sc 130 31 [zp a0, zj x1, zj x2, v3] [zp (a0 + 77)] w ov w' c s
        refine rl_ic rfl ?_
        show Zr sc 130 32 [zp a0, zj x1, zj x2, v3] [zj 0, zp (a0 + 77)] w ov w' c s
        refine Zr_st (q := (33, [zp a0, zj x1, zj x2, v3], [zj 0, zp (a0 + 77), zj 0, zp (a0 + 77)])) rfl rfl rfl ?_
        show Zr sc 130 33 [zp a0, zj x1, zj x2, v3] [zj 0, zp (a0 + 77), zj 0, zp (a0 + 77)] w ov w' c s
        obtain ⟨hi_7, h⟩ := h
        refine rl_ia rfl L77 hi_7.1 hi_7.2.1 hi_7.2.2 ?_
        show Zr sc 130 34 [zp a0, zj x1, zj x2, v3] [zj (zgi cn 0), zj 0, zp (a0 + 77)] w ov w' c s
        refine rl_ic rfl ?_
        show Zr sc 130 35 [zp a0, zj x1, zj x2, v3] [zj 1, zj (zgi cn 0), zj 0, zp (a0 + 77)] w ov w' c s
        refine rl_add rfl ?_
        show Zr sc 130 36 [zp a0, zj x1, zj x2, v3] [zj ((zgi cn 0) + 1), zj 0, zp (a0 + 77)] w ov w' c s
        obtain ⟨hi_8, h⟩ := h
        refine rl_is rfl L77 hi_8.1 hi_8.2.1 hi_8.2.2 ?_
        show Zr sc 130 37 [zp a0, zj x1, zj x2, v3] [] (w.set (a0 + 77) (za (zsi cn 0 ((zgi cn 0) + 1)))) ov w' c s
        refine rl_ic rfl ?_
        show Zr sc 130 38 [zp a0, zj x1, zj x2, v3] [zj 0] (w.set (a0 + 77) (za (zsi cn 0 ((zgi cn 0) + 1)))) ov w' c s
        refine Zr_st (q := (39, [zp a0, zj x1, zj x2, zj 0], [])) rfl rfl rfl ?_
        show Zr sc 130 39 [zp a0, zj x1, zj x2, zj 0] [] (w.set (a0 + 77) (za (zsi cn 0 ((zgi cn 0) + 1)))) ov w' c s
        exact h
      · replace h := h.2 hp
        show Zr sc 130 24 [zp a0, zj x1, zj x2, v3] [] w ov w' c s
        refine Zr_st (q := (76, [zp a0, zj x1, zj x2, v3], [])) rfl rfl rfl ?_
        show Zr sc 130 76 [zp a0, zj x1, zj x2, v3] [] w ov w' c s
        refine rl_inc rfl rfl rfl rfl ?_
        show Zr sc 130 79 [zp a0, zj x1, zj (x2 + 1), v3] [] w ov w' c s
        refine Zr_st (q := (2, [zp a0, zj x1, zj (x2 + 1), v3], [])) rfl rfl rfl ?_
        show Zr sc 130 2 [zp a0, zj x1, zj (x2 + 1), v3] [] w ov w' c s
        exact h
set_option maxRecDepth 100000 in
theorem V130_39 {sc : List Value} {w w' : List zE} {ov : Option Value} {c s : Nat} {a0 : Nat} {x1 : Int} {x2 : Int} {x3 : Int} {dr : Int} {wy : Int} {st : Int} {hd : Int} {nm : Int} {ar : Int} {hn : Int} {pk : Int} {D : Nat} {tl : Int} {ow : List Int} (L0 : w[a0]? = some (zob 7 [zp (a0 + 1), .ref 0, zj dr, zj wy, zj st, zj hd, zp (a0 + 73), zj nm, zp (a0 + 74), zp (a0 + 75), zp (a0 + 76), zj ar, zj hn, zp (a0 + 77), zj pk, zp D, zj tl])) (L73 : w[(a0 + 73)]? = some (za ow)) (h : ((zrg x3 ∧ zrg 128) ∧ ((128 ≤ x3 → Zr sc 130 2 [zp a0, zj x1, zj (x2 + 1), zj x3] [] w ov w' c s) ∧ (¬ (128 ≤ x3) → (((0 : Int) ≤ ((128 * x2) + x3) ∧ ((128 * x2) + x3) < (ow.length : Int) ∧ ((128 * x2) + x3) ≤ (2147483647 : Int)) ∧ ((zrg (zgi ow ((128 * x2) + x3))) ∧ ((0 ≤ (zgi ow ((128 * x2) + x3)) → Zr sc 130 39 [zp a0, zj x1, zj x2, zj (x3 + x1)] [] w ov w' c s) ∧ (¬ (0 ≤ (zgi ow ((128 * x2) + x3))) → (ov = some (zj ((128 * x2) + x3)) ∧ w' = w ∧ c = 0 ∧ s = 0))))))))) : Zr sc 130 39 [zp a0, zj x1, zj x2, zj x3] [] w ov w' c s := by
  refine Zr_st (q := (40, [zp a0, zj x1, zj x2, zj x3], [zj x3])) rfl rfl rfl ?_
  show Zr sc 130 40 [zp a0, zj x1, zj x2, zj x3] [zj x3] w ov w' c s
  refine rl_si rfl (by decide) ?_
  show Zr sc 130 43 [zp a0, zj x1, zj x2, zj x3] [zj 128, zj x3] w ov w' c s
  obtain ⟨hr_1, h⟩ := h
  refine Zr_br (p := 128 ≤ x3) rfl rfl (zcmp_j (cnd := .ge) hr_1.1 hr_1.2) (fun hp => ?_) (fun hp => ?_)
  · replace h := h.1 hp
    show Zr sc 130 76 [zp a0, zj x1, zj x2, zj x3] [] w ov w' c s
    refine rl_inc rfl rfl rfl rfl ?_
    show Zr sc 130 79 [zp a0, zj x1, zj (x2 + 1), zj x3] [] w ov w' c s
    refine Zr_st (q := (2, [zp a0, zj x1, zj (x2 + 1), zj x3], [])) rfl rfl rfl ?_
    show Zr sc 130 2 [zp a0, zj x1, zj (x2 + 1), zj x3] [] w ov w' c s
    exact h
  · replace h := h.2 hp
    show Zr sc 130 46 [zp a0, zj x1, zj x2, zj x3] [] w ov w' c s
    refine Zr_st (q := (47, [zp a0, zj x1, zj x2, zj x3], [zp a0])) rfl rfl rfl ?_
    show Zr sc 130 47 [zp a0, zj x1, zj x2, zj x3] [zp a0] w ov w' c s
    refine rl_gf rfl L0 rfl rfl ?_
    show Zr sc 130 50 [zp a0, zj x1, zj x2, zj x3] [zp (a0 + 73)] w ov w' c s
    refine rl_si rfl (by decide) ?_
    show Zr sc 130 53 [zp a0, zj x1, zj x2, zj x3] [zj 128, zp (a0 + 73)] w ov w' c s
    refine Zr_st (q := (54, [zp a0, zj x1, zj x2, zj x3], [zj x2, zj 128, zp (a0 + 73)])) rfl rfl rfl ?_
    show Zr sc 130 54 [zp a0, zj x1, zj x2, zj x3] [zj x2, zj 128, zp (a0 + 73)] w ov w' c s
    refine rl_mul rfl ?_
    show Zr sc 130 55 [zp a0, zj x1, zj x2, zj x3] [zj (128 * x2), zp (a0 + 73)] w ov w' c s
    refine Zr_st (q := (56, [zp a0, zj x1, zj x2, zj x3], [zj x3, zj (128 * x2), zp (a0 + 73)])) rfl rfl rfl ?_
    show Zr sc 130 56 [zp a0, zj x1, zj x2, zj x3] [zj x3, zj (128 * x2), zp (a0 + 73)] w ov w' c s
    refine rl_add rfl ?_
    show Zr sc 130 57 [zp a0, zj x1, zj x2, zj x3] [zj ((128 * x2) + x3), zp (a0 + 73)] w ov w' c s
    obtain ⟨hi_2, h⟩ := h
    refine rl_ia rfl L73 hi_2.1 hi_2.2.1 hi_2.2.2 ?_
    show Zr sc 130 58 [zp a0, zj x1, zj x2, zj x3] [zj (zgi ow ((128 * x2) + x3))] w ov w' c s
    obtain ⟨hr_3, h⟩ := h
    refine Zr_b0 (p := 0 ≤ (zgi ow ((128 * x2) + x3))) rfl rfl (zcmp_0 (cnd := .ge) hr_3) (fun hp => ?_) (fun hp => ?_)
    · replace h := h.1 hp
      show Zr sc 130 69 [zp a0, zj x1, zj x2, zj x3] [] w ov w' c s
      refine Zr_st (q := (70, [zp a0, zj x1, zj x2, zj x3], [zj x3])) rfl rfl rfl ?_
      show Zr sc 130 70 [zp a0, zj x1, zj x2, zj x3] [zj x3] w ov w' c s
      refine Zr_st (q := (71, [zp a0, zj x1, zj x2, zj x3], [zj x1, zj x3])) rfl rfl rfl ?_
      show Zr sc 130 71 [zp a0, zj x1, zj x2, zj x3] [zj x1, zj x3] w ov w' c s
      refine rl_add rfl ?_
      show Zr sc 130 72 [zp a0, zj x1, zj x2, zj x3] [zj (x3 + x1)] w ov w' c s
      refine Zr_st (q := (73, [zp a0, zj x1, zj x2, zj (x3 + x1)], [])) rfl rfl rfl ?_
      show Zr sc 130 73 [zp a0, zj x1, zj x2, zj (x3 + x1)] [] w ov w' c s
      refine Zr_st (q := (39, [zp a0, zj x1, zj x2, zj (x3 + x1)], [])) rfl rfl rfl ?_
      show Zr sc 130 39 [zp a0, zj x1, zj x2, zj (x3 + x1)] [] w ov w' c s
      exact h
    · replace h := h.2 hp
      show Zr sc 130 61 [zp a0, zj x1, zj x2, zj x3] [] w ov w' c s
      refine rl_si rfl (by decide) ?_
      show Zr sc 130 64 [zp a0, zj x1, zj x2, zj x3] [zj 128] w ov w' c s
      refine Zr_st (q := (65, [zp a0, zj x1, zj x2, zj x3], [zj x2, zj 128])) rfl rfl rfl ?_
      show Zr sc 130 65 [zp a0, zj x1, zj x2, zj x3] [zj x2, zj 128] w ov w' c s
      refine rl_mul rfl ?_
      show Zr sc 130 66 [zp a0, zj x1, zj x2, zj x3] [zj (128 * x2)] w ov w' c s
      refine Zr_st (q := (67, [zp a0, zj x1, zj x2, zj x3], [zj x3, zj (128 * x2)])) rfl rfl rfl ?_
      show Zr sc 130 67 [zp a0, zj x1, zj x2, zj x3] [zj x3, zj (128 * x2)] w ov w' c s
      refine rl_add rfl ?_
      show Zr sc 130 68 [zp a0, zj x1, zj x2, zj x3] [zj ((128 * x2) + x3)] w ov w' c s
      obtain ⟨h1, h2, h3, h4⟩ := h
      subst h1; subst h2; subst h3; subst h4
      exact Zr_ret (ins := .ireturn) rfl rfl
set_option maxRecDepth 100000 in
theorem V130_82 {sc : List Value} {w w' : List zE} {ov : Option Value} {c s : Nat} {a0 : Nat} {x1 : Int} {x2 : Int} {v3 : Value} (h : ((zrg x1 ∧ zrg 128) ∧ ((128 ≤ x1 → (((0 : Int) ≤ x1 ∧ x1 ≤ (2147483647 : Int) ∧ (0 : Int) < 128 ∧ 128 ≤ (2147483647 : Int)) ∧ Zr sc 130 101 [zp a0, zj x1, zj (x1 / 128), zj 0] [] w ov w' c s)) ∧ (¬ (128 ≤ x1) → Zr sc 130 101 [zp a0, zj x1, zj 1, zj 0] [] w ov w' c s)))) : Zr sc 130 82 [zp a0, zj x1, zj x2, v3] [] w ov w' c s := by
  refine Zr_st (q := (83, [zp a0, zj x1, zj x2, v3], [zj x1])) rfl rfl rfl ?_
  show Zr sc 130 83 [zp a0, zj x1, zj x2, v3] [zj x1] w ov w' c s
  refine rl_si rfl (by decide) ?_
  show Zr sc 130 86 [zp a0, zj x1, zj x2, v3] [zj 128, zj x1] w ov w' c s
  obtain ⟨hr_1, h⟩ := h
  refine Zr_br (p := 128 ≤ x1) rfl rfl (zcmp_j (cnd := .ge) hr_1.1 hr_1.2) (fun hp => ?_) (fun hp => ?_)
  · replace h := h.1 hp
    show Zr sc 130 93 [zp a0, zj x1, zj x2, v3] [] w ov w' c s
    refine Zr_st (q := (94, [zp a0, zj x1, zj x2, v3], [zj x1])) rfl rfl rfl ?_
    show Zr sc 130 94 [zp a0, zj x1, zj x2, v3] [zj x1] w ov w' c s
    refine rl_si rfl (by decide) ?_
    show Zr sc 130 97 [zp a0, zj x1, zj x2, v3] [zj 128, zj x1] w ov w' c s
    obtain ⟨hd_2, h⟩ := h
    refine rl_div rfl hd_2.1 hd_2.2.1 hd_2.2.2.1 hd_2.2.2.2 ?_
    show Zr sc 130 98 [zp a0, zj x1, zj x2, v3] [zj (x1 / 128)] w ov w' c s
    refine Zr_st (q := (99, [zp a0, zj x1, zj (x1 / 128), v3], [])) rfl rfl rfl ?_
    show Zr sc 130 99 [zp a0, zj x1, zj (x1 / 128), v3] [] w ov w' c s
    refine rl_ic rfl ?_
    show Zr sc 130 100 [zp a0, zj x1, zj (x1 / 128), v3] [zj 0] w ov w' c s
    refine Zr_st (q := (101, [zp a0, zj x1, zj (x1 / 128), zj 0], [])) rfl rfl rfl ?_
    show Zr sc 130 101 [zp a0, zj x1, zj (x1 / 128), zj 0] [] w ov w' c s
    exact h
  · replace h := h.2 hp
    show Zr sc 130 89 [zp a0, zj x1, zj x2, v3] [] w ov w' c s
    refine rl_ic rfl ?_
    show Zr sc 130 90 [zp a0, zj x1, zj x2, v3] [zj 1] w ov w' c s
    refine Zr_st (q := (98, [zp a0, zj x1, zj x2, v3], [zj 1])) rfl rfl rfl ?_
    show Zr sc 130 98 [zp a0, zj x1, zj x2, v3] [zj 1] w ov w' c s
    refine Zr_st (q := (99, [zp a0, zj x1, zj 1, v3], [])) rfl rfl rfl ?_
    show Zr sc 130 99 [zp a0, zj x1, zj 1, v3] [] w ov w' c s
    refine rl_ic rfl ?_
    show Zr sc 130 100 [zp a0, zj x1, zj 1, v3] [zj 0] w ov w' c s
    refine Zr_st (q := (101, [zp a0, zj x1, zj 1, zj 0], [])) rfl rfl rfl ?_
    show Zr sc 130 101 [zp a0, zj x1, zj 1, zj 0] [] w ov w' c s
    exact h
set_option maxRecDepth 100000 in
theorem V130_101 {sc : List Value} {w w' : List zE} {ov : Option Value} {c s : Nat} {a0 : Nat} {x1 : Int} {x2 : Int} {x3 : Int} {dr : Int} {wy : Int} {st : Int} {hd : Int} {nm : Int} {ar : Int} {hn : Int} {pk : Int} {D : Nat} {tl : Int} {cn : List Int} (L0 : w[a0]? = some (zob 7 [zp (a0 + 1), .ref 0, zj dr, zj wy, zj st, zj hd, zp (a0 + 73), zj nm, zp (a0 + 74), zp (a0 + 75), zp (a0 + 76), zj ar, zj hn, zp (a0 + 77), zj pk, zp D, zj tl])) (L77 : w[(a0 + 77)]? = some (za cn)) (h : ((zrg (x3 + x2) ∧ zrg 8) ∧ ((8 < (x3 + x2) → (ov = some (zj (-1)) ∧ w' = w ∧ c = 0 ∧ s = 0)) ∧ (¬ (8 < (x3 + x2)) → (∃ r_4 : Int, Zc sc 128 [zp a0, zj (128 * x3), zj (128 * x2)] w (some (zj r_4)) w 0 0 ∧ ((zrg r_4) ∧ ((r_4 ≠ 0 → (((0 : Int) ≤ 1 ∧ 1 < (cn.length : Int) ∧ 1 ≤ (2147483647 : Int)) ∧ ((zrg x1 ∧ zrg 128) ∧ ((128 ≤ x1 → (((0 : Int) ≤ 1 ∧ 1 < (cn.length : Int) ∧ 1 ≤ (2147483647 : Int)) ∧ (ov = some (zj (128 * x3)) ∧ w' = (w.set (a0 + 77) (za (zsi cn 1 ((zgi cn 1) + 0)))) ∧ c = 0 ∧ s = 0))) ∧ (¬ (128 ≤ x1) → (((0 : Int) ≤ 1 ∧ 1 < (cn.length : Int) ∧ 1 ≤ (2147483647 : Int)) ∧ (ov = some (zj (128 * x3)) ∧ w' = (w.set (a0 + 77) (za (zsi cn 1 ((zgi cn 1) + 1)))) ∧ c = 0 ∧ s = 0))))))) ∧ (¬ (r_4 ≠ 0) → Zr sc 130 101 [zp a0, zj x1, zj x2, zj (x3 + 1)] [] w ov w' c s)))))))) : Zr sc 130 101 [zp a0, zj x1, zj x2, zj x3] [] w ov w' c s := by
  refine Zr_st (q := (102, [zp a0, zj x1, zj x2, zj x3], [zj x3])) rfl rfl rfl ?_
  show Zr sc 130 102 [zp a0, zj x1, zj x2, zj x3] [zj x3] w ov w' c s
  refine Zr_st (q := (103, [zp a0, zj x1, zj x2, zj x3], [zj x2, zj x3])) rfl rfl rfl ?_
  show Zr sc 130 103 [zp a0, zj x1, zj x2, zj x3] [zj x2, zj x3] w ov w' c s
  refine rl_add rfl ?_
  show Zr sc 130 104 [zp a0, zj x1, zj x2, zj x3] [zj (x3 + x2)] w ov w' c s
  refine rl_bi rfl (by decide) ?_
  show Zr sc 130 106 [zp a0, zj x1, zj x2, zj x3] [zj 8, zj (x3 + x2)] w ov w' c s
  obtain ⟨hr_1, h⟩ := h
  refine Zr_br (p := 8 < (x3 + x2)) rfl rfl (zcmp_j (cnd := .gt) hr_1.1 hr_1.2) (fun hp => ?_) (fun hp => ?_)
  · replace h := h.1 hp
    show Zr sc 130 162 [zp a0, zj x1, zj x2, zj x3] [] w ov w' c s
    refine rl_ic rfl ?_
    show Zr sc 130 163 [zp a0, zj x1, zj x2, zj x3] [zj (-1)] w ov w' c s
    obtain ⟨h1, h2, h3, h4⟩ := h
    subst h1; subst h2; subst h3; subst h4
    exact Zr_ret (ins := .ireturn) rfl rfl
  · replace h := h.2 hp
    show Zr sc 130 109 [zp a0, zj x1, zj x2, zj x3] [] w ov w' c s
    refine Zr_st (q := (110, [zp a0, zj x1, zj x2, zj x3], [zp a0])) rfl rfl rfl ?_
    show Zr sc 130 110 [zp a0, zj x1, zj x2, zj x3] [zp a0] w ov w' c s
    refine rl_si rfl (by decide) ?_
    show Zr sc 130 113 [zp a0, zj x1, zj x2, zj x3] [zj 128, zp a0] w ov w' c s
    refine Zr_st (q := (114, [zp a0, zj x1, zj x2, zj x3], [zj x3, zj 128, zp a0])) rfl rfl rfl ?_
    show Zr sc 130 114 [zp a0, zj x1, zj x2, zj x3] [zj x3, zj 128, zp a0] w ov w' c s
    refine rl_mul rfl ?_
    show Zr sc 130 115 [zp a0, zj x1, zj x2, zj x3] [zj (128 * x3), zp a0] w ov w' c s
    refine rl_si rfl (by decide) ?_
    show Zr sc 130 118 [zp a0, zj x1, zj x2, zj x3] [zj 128, zj (128 * x3), zp a0] w ov w' c s
    refine Zr_st (q := (119, [zp a0, zj x1, zj x2, zj x3], [zj x2, zj 128, zj (128 * x3), zp a0])) rfl rfl rfl ?_
    show Zr sc 130 119 [zp a0, zj x1, zj x2, zj x3] [zj x2, zj 128, zj (128 * x3), zp a0] w ov w' c s
    refine rl_mul rfl ?_
    show Zr sc 130 120 [zp a0, zj x1, zj x2, zj x3] [zj (128 * x2), zj (128 * x3), zp a0] w ov w' c s
    obtain ⟨r_4, hk_9, h⟩ := h
    refine rn_cal0 (ins := .invokevirtual 79) (rest := []) rfl rfl rfl rfl (zinv_v (fs := _) L0 rfl rfl rfl rfl) rfl rfl hk_9 ?_
    show Zr sc 130 123 [zp a0, zj x1, zj x2, zj x3] [zj r_4] w ov w' c s
    obtain ⟨hr_5, h⟩ := h
    refine Zr_b0 (p := r_4 ≠ 0) rfl rfl (zcmp_0 (cnd := .ne) hr_5) (fun hp => ?_) (fun hp => ?_)
    · replace h := h.1 hp
      show Zr sc 130 129 [zp a0, zj x1, zj x2, zj x3] [] w ov w' c s
      refine Zr_st (q := (130, [zp a0, zj x1, zj x2, zj x3], [zp a0])) rfl rfl rfl ?_
      show Zr sc 130 130 [zp a0, zj x1, zj x2, zj x3] [zp a0] w ov w' c s
      refine rl_gf rfl L0 rfl rfl ?_
      show Zr sc 130 133 [zp a0, zj x1, zj x2, zj x3] [zp (a0 + 77)] w ov w' c s
      refine rl_ic rfl ?_
      show Zr sc 130 134 [zp a0, zj x1, zj x2, zj x3] [zj 1, zp (a0 + 77)] w ov w' c s
      refine Zr_st (q := (135, [zp a0, zj x1, zj x2, zj x3], [zj 1, zp (a0 + 77), zj 1, zp (a0 + 77)])) rfl rfl rfl ?_
      show Zr sc 130 135 [zp a0, zj x1, zj x2, zj x3] [zj 1, zp (a0 + 77), zj 1, zp (a0 + 77)] w ov w' c s
      obtain ⟨hi_6, h⟩ := h
      refine rl_ia rfl L77 hi_6.1 hi_6.2.1 hi_6.2.2 ?_
      show Zr sc 130 136 [zp a0, zj x1, zj x2, zj x3] [zj (zgi cn 1), zj 1, zp (a0 + 77)] w ov w' c s
      refine Zr_st (q := (137, [zp a0, zj x1, zj x2, zj x3], [zj x1, zj (zgi cn 1), zj 1, zp (a0 + 77)])) rfl rfl rfl ?_
      show Zr sc 130 137 [zp a0, zj x1, zj x2, zj x3] [zj x1, zj (zgi cn 1), zj 1, zp (a0 + 77)] w ov w' c s
      refine rl_si rfl (by decide) ?_
      show Zr sc 130 140 [zp a0, zj x1, zj x2, zj x3] [zj 128, zj x1, zj (zgi cn 1), zj 1, zp (a0 + 77)] w ov w' c s
      obtain ⟨hr_7, h⟩ := h
      refine Zr_br (p := 128 ≤ x1) rfl rfl (zcmp_j (cnd := .ge) hr_7.1 hr_7.2) (fun hp => ?_) (fun hp => ?_)
      · replace h := h.1 hp
        show Zr sc 130 147 [zp a0, zj x1, zj x2, zj x3] [zj (zgi cn 1), zj 1, zp (a0 + 77)] w ov w' c s
        refine rl_ic rfl ?_
        show Zr sc 130 148 [zp a0, zj x1, zj x2, zj x3] [zj 0, zj (zgi cn 1), zj 1, zp (a0 + 77)] w ov w' c s
        refine rl_add rfl ?_
        show Zr sc 130 149 [zp a0, zj x1, zj x2, zj x3] [zj ((zgi cn 1) + 0), zj 1, zp (a0 + 77)] w ov w' c s
        obtain ⟨hi_8, h⟩ := h
        refine rl_is rfl L77 hi_8.1 hi_8.2.1 hi_8.2.2 ?_
        show Zr sc 130 150 [zp a0, zj x1, zj x2, zj x3] [] (w.set (a0 + 77) (za (zsi cn 1 ((zgi cn 1) + 0)))) ov w' c s
        refine rl_si rfl (by decide) ?_
        show Zr sc 130 153 [zp a0, zj x1, zj x2, zj x3] [zj 128] (w.set (a0 + 77) (za (zsi cn 1 ((zgi cn 1) + 0)))) ov w' c s
        refine Zr_st (q := (154, [zp a0, zj x1, zj x2, zj x3], [zj x3, zj 128])) rfl rfl rfl ?_
        show Zr sc 130 154 [zp a0, zj x1, zj x2, zj x3] [zj x3, zj 128] (w.set (a0 + 77) (za (zsi cn 1 ((zgi cn 1) + 0)))) ov w' c s
        refine rl_mul rfl ?_
        show Zr sc 130 155 [zp a0, zj x1, zj x2, zj x3] [zj (128 * x3)] (w.set (a0 + 77) (za (zsi cn 1 ((zgi cn 1) + 0)))) ov w' c s
        obtain ⟨h1, h2, h3, h4⟩ := h
        subst h1; subst h2; subst h3; subst h4
        exact Zr_ret (ins := .ireturn) rfl rfl
      · replace h := h.2 hp
        show Zr sc 130 143 [zp a0, zj x1, zj x2, zj x3] [zj (zgi cn 1), zj 1, zp (a0 + 77)] w ov w' c s
        refine rl_ic rfl ?_
        show Zr sc 130 144 [zp a0, zj x1, zj x2, zj x3] [zj 1, zj (zgi cn 1), zj 1, zp (a0 + 77)] w ov w' c s
        refine Zr_st (q := (148, [zp a0, zj x1, zj x2, zj x3], [zj 1, zj (zgi cn 1), zj 1, zp (a0 + 77)])) rfl rfl rfl ?_
        show Zr sc 130 148 [zp a0, zj x1, zj x2, zj x3] [zj 1, zj (zgi cn 1), zj 1, zp (a0 + 77)] w ov w' c s
        refine rl_add rfl ?_
        show Zr sc 130 149 [zp a0, zj x1, zj x2, zj x3] [zj ((zgi cn 1) + 1), zj 1, zp (a0 + 77)] w ov w' c s
        obtain ⟨hi_9, h⟩ := h
        refine rl_is rfl L77 hi_9.1 hi_9.2.1 hi_9.2.2 ?_
        show Zr sc 130 150 [zp a0, zj x1, zj x2, zj x3] [] (w.set (a0 + 77) (za (zsi cn 1 ((zgi cn 1) + 1)))) ov w' c s
        refine rl_si rfl (by decide) ?_
        show Zr sc 130 153 [zp a0, zj x1, zj x2, zj x3] [zj 128] (w.set (a0 + 77) (za (zsi cn 1 ((zgi cn 1) + 1)))) ov w' c s
        refine Zr_st (q := (154, [zp a0, zj x1, zj x2, zj x3], [zj x3, zj 128])) rfl rfl rfl ?_
        show Zr sc 130 154 [zp a0, zj x1, zj x2, zj x3] [zj x3, zj 128] (w.set (a0 + 77) (za (zsi cn 1 ((zgi cn 1) + 1)))) ov w' c s
        refine rl_mul rfl ?_
        show Zr sc 130 155 [zp a0, zj x1, zj x2, zj x3] [zj (128 * x3)] (w.set (a0 + 77) (za (zsi cn 1 ((zgi cn 1) + 1)))) ov w' c s
        obtain ⟨h1, h2, h3, h4⟩ := h
        subst h1; subst h2; subst h3; subst h4
        exact Zr_ret (ins := .ireturn) rfl rfl
    · replace h := h.2 hp
      show Zr sc 130 126 [zp a0, zj x1, zj x2, zj x3] [] w ov w' c s
      refine Zr_st (q := (156, [zp a0, zj x1, zj x2, zj x3], [])) rfl rfl rfl ?_
      show Zr sc 130 156 [zp a0, zj x1, zj x2, zj x3] [] w ov w' c s
      refine rl_inc rfl rfl rfl rfl ?_
      show Zr sc 130 159 [zp a0, zj x1, zj x2, zj (x3 + 1)] [] w ov w' c s
      refine Zr_st (q := (101, [zp a0, zj x1, zj x2, zj (x3 + 1)], [])) rfl rfl rfl ?_
      show Zr sc 130 101 [zp a0, zj x1, zj x2, zj (x3 + 1)] [] w ov w' c s
      exact h

-- HeapwrightLabLaw$Pool.fill(III)V
set_option maxRecDepth 100000 in
theorem V131_0 {sc : List Value} {w w' : List zE} {ov : Option Value} {c s : Nat} {a0 : Nat} {x1 : Int} {x2 : Int} {x3 : Int} (h : Zr sc 131 3 [zp a0, zj x1, zj x2, zj x3, zj x1] [] w ov w' c s) : Zr sc 131 0 [zp a0, zj x1, zj x2, zj x3, zmk] [] w ov w' c s := by
  refine Zr_st (q := (1, [zp a0, zj x1, zj x2, zj x3, zmk], [zj x1])) rfl rfl rfl ?_
  show Zr sc 131 1 [zp a0, zj x1, zj x2, zj x3, zmk] [zj x1] w ov w' c s
  refine Zr_st (q := (3, [zp a0, zj x1, zj x2, zj x3, zj x1], [])) rfl rfl rfl ?_
  show Zr sc 131 3 [zp a0, zj x1, zj x2, zj x3, zj x1] [] w ov w' c s
  exact h
set_option maxRecDepth 100000 in
theorem V131_3 {sc : List Value} {w w' : List zE} {ov : Option Value} {c s : Nat} {a0 : Nat} {x1 : Int} {x2 : Int} {x3 : Int} {x4 : Int} {dr : Int} {wy : Int} {st : Int} {hd : Int} {nm : Int} {ar : Int} {hn : Int} {pk : Int} {D : Nat} {tl : Int} {ow : List Int} (L0 : w[a0]? = some (zob 7 [zp (a0 + 1), .ref 0, zj dr, zj wy, zj st, zj hd, zp (a0 + 73), zj nm, zp (a0 + 74), zp (a0 + 75), zp (a0 + 76), zj ar, zj hn, zp (a0 + 77), zj pk, zp D, zj tl])) (L73 : w[(a0 + 73)]? = some (za ow)) (h : ((zrg x4 ∧ zrg (x1 + x2)) ∧ (((x1 + x2) ≤ x4 → (ov = none ∧ w' = w ∧ c = 0 ∧ s = 0)) ∧ (¬ ((x1 + x2) ≤ x4) → (((0 : Int) ≤ x4 ∧ x4 < (ow.length : Int) ∧ x4 ≤ (2147483647 : Int)) ∧ Zr sc 131 3 [zp a0, zj x1, zj x2, zj x3, zj (x4 + 1)] [] (w.set (a0 + 73) (za (zsi ow x4 x3))) ov w' c s))))) : Zr sc 131 3 [zp a0, zj x1, zj x2, zj x3, zj x4] [] w ov w' c s := by
  refine Zr_st (q := (5, [zp a0, zj x1, zj x2, zj x3, zj x4], [zj x4])) rfl rfl rfl ?_
  show Zr sc 131 5 [zp a0, zj x1, zj x2, zj x3, zj x4] [zj x4] w ov w' c s
  refine Zr_st (q := (6, [zp a0, zj x1, zj x2, zj x3, zj x4], [zj x1, zj x4])) rfl rfl rfl ?_
  show Zr sc 131 6 [zp a0, zj x1, zj x2, zj x3, zj x4] [zj x1, zj x4] w ov w' c s
  refine Zr_st (q := (7, [zp a0, zj x1, zj x2, zj x3, zj x4], [zj x2, zj x1, zj x4])) rfl rfl rfl ?_
  show Zr sc 131 7 [zp a0, zj x1, zj x2, zj x3, zj x4] [zj x2, zj x1, zj x4] w ov w' c s
  refine rl_add rfl ?_
  show Zr sc 131 8 [zp a0, zj x1, zj x2, zj x3, zj x4] [zj (x1 + x2), zj x4] w ov w' c s
  obtain ⟨hr_1, h⟩ := h
  refine Zr_br (p := (x1 + x2) ≤ x4) rfl rfl (zcmp_j (cnd := .ge) hr_1.1 hr_1.2) (fun hp => ?_) (fun hp => ?_)
  · replace h := h.1 hp
    show Zr sc 131 25 [zp a0, zj x1, zj x2, zj x3, zj x4] [] w ov w' c s
    obtain ⟨h1, h2, h3, h4⟩ := h
    subst h1; subst h2; subst h3; subst h4
    exact Zr_ret (ins := .return_) rfl rfl
  · replace h := h.2 hp
    show Zr sc 131 11 [zp a0, zj x1, zj x2, zj x3, zj x4] [] w ov w' c s
    refine Zr_st (q := (12, [zp a0, zj x1, zj x2, zj x3, zj x4], [zp a0])) rfl rfl rfl ?_
    show Zr sc 131 12 [zp a0, zj x1, zj x2, zj x3, zj x4] [zp a0] w ov w' c s
    refine rl_gf rfl L0 rfl rfl ?_
    show Zr sc 131 15 [zp a0, zj x1, zj x2, zj x3, zj x4] [zp (a0 + 73)] w ov w' c s
    refine Zr_st (q := (17, [zp a0, zj x1, zj x2, zj x3, zj x4], [zj x4, zp (a0 + 73)])) rfl rfl rfl ?_
    show Zr sc 131 17 [zp a0, zj x1, zj x2, zj x3, zj x4] [zj x4, zp (a0 + 73)] w ov w' c s
    refine Zr_st (q := (18, [zp a0, zj x1, zj x2, zj x3, zj x4], [zj x3, zj x4, zp (a0 + 73)])) rfl rfl rfl ?_
    show Zr sc 131 18 [zp a0, zj x1, zj x2, zj x3, zj x4] [zj x3, zj x4, zp (a0 + 73)] w ov w' c s
    obtain ⟨hi_2, h⟩ := h
    refine rl_is rfl L73 hi_2.1 hi_2.2.1 hi_2.2.2 ?_
    show Zr sc 131 19 [zp a0, zj x1, zj x2, zj x3, zj x4] [] (w.set (a0 + 73) (za (zsi ow x4 x3))) ov w' c s
    refine rl_inc rfl rfl rfl rfl ?_
    show Zr sc 131 22 [zp a0, zj x1, zj x2, zj x3, zj (x4 + 1)] [] (w.set (a0 + 73) (za (zsi ow x4 x3))) ov w' c s
    refine Zr_st (q := (3, [zp a0, zj x1, zj x2, zj x3, zj (x4 + 1)], [])) rfl rfl rfl ?_
    show Zr sc 131 3 [zp a0, zj x1, zj x2, zj x3, zj (x4 + 1)] [] (w.set (a0 + 73) (za (zsi ow x4 x3))) ov w' c s
    exact h

-- HeapwrightLabLaw$Pool.did(III)V
set_option maxRecDepth 100000 in
theorem V132_0 {sc : List Value} {w w' : List zE} {ov : Option Value} {c s : Nat} {a0 : Nat} {x1 : Int} {x2 : Int} {x3 : Int} {dr : Int} {wy : Int} {st : Int} {hd : Int} {nm : Int} {ar : Int} {hn : Int} {pk : Int} {D : Nat} {tl : Int} {de : List Int} (L0 : w[a0]? = some (zob 7 [zp (a0 + 1), .ref 0, zj dr, zj wy, zj st, zj hd, zp (a0 + 73), zj nm, zp (a0 + 74), zp (a0 + 75), zp (a0 + 76), zj ar, zj hn, zp (a0 + 77), zj pk, zp D, zj tl])) (LD : w[D]? = some (za de)) (h : (((0 : Int) ≤ ((de.length : Int) + 3) ∧ ((de.length : Int) + 3) ≤ (60000 : Int)) ∧ (∃ p_1 : Nat, p_1 = w.length ∧ (∃ c_3 s_4 : Nat, (c = 1 + c_3 ∧ s = (((de.length : Int) + 3) : Int).toNat + s_4) ∧ ((((0 : Int) ≤ 0 ∧ 0 + (de.length : Int) ≤ (de.length : Int) ∧ de.length ≤ 60000) ∧ ((0 : Int) ≤ 0 ∧ 0 + (de.length : Int) ≤ ((List.replicate (((de.length : Int) + 3) : Int).toNat (0 : Int)).length : Int) ∧ (List.replicate (((de.length : Int) + 3) : Int).toNat (0 : Int)).length ≤ 60000) ∧ (0 : Int) ≤ (de.length : Int)) ∧ ((p_1 ≠ a0) ∧ ((p_1 ≠ D) ∧ (((0 : Int) ≤ (de.length : Int) ∧ (de.length : Int) < ((zicp de (List.replicate (((de.length : Int) + 3) : Int).toNat (0 : Int)) 0 0 (de.length : Int)).length : Int) ∧ (de.length : Int) ≤ (2147483647 : Int)) ∧ (((0 : Int) ≤ ((de.length : Int) + 1) ∧ ((de.length : Int) + 1) < ((zsi (zicp de (List.replicate (((de.length : Int) + 3) : Int).toNat (0 : Int)) 0 0 (de.length : Int)) (de.length : Int) x1).length : Int) ∧ ((de.length : Int) + 1) ≤ (2147483647 : Int)) ∧ (((0 : Int) ≤ ((de.length : Int) + 2) ∧ ((de.length : Int) + 2) < ((zsi (zsi (zicp de (List.replicate (((de.length : Int) + 3) : Int).toNat (0 : Int)) 0 0 (de.length : Int)) (de.length : Int) x1) ((de.length : Int) + 1) x2).length : Int) ∧ ((de.length : Int) + 2) ≤ (2147483647 : Int)) ∧ (∃ r_15 : Int, Zc sc 133 [zp a0] ((((((w ++ [za (List.replicate (((de.length : Int) + 3) : Int).toNat (0 : Int))]).set p_1 (za (zicp de (List.replicate (((de.length : Int) + 3) : Int).toNat (0 : Int)) 0 0 (de.length : Int)))).set p_1 (za (zsi (zicp de (List.replicate (((de.length : Int) + 3) : Int).toNat (0 : Int)) 0 0 (de.length : Int)) (de.length : Int) x1))).set p_1 (za (zsi (zsi (zicp de (List.replicate (((de.length : Int) + 3) : Int).toNat (0 : Int)) 0 0 (de.length : Int)) (de.length : Int) x1) ((de.length : Int) + 1) x2))).set p_1 (za (zsi (zsi (zsi (zicp de (List.replicate (((de.length : Int) + 3) : Int).toNat (0 : Int)) 0 0 (de.length : Int)) (de.length : Int) x1) ((de.length : Int) + 1) x2) ((de.length : Int) + 2) x3))).set a0 (zob 7 [zp (a0 + 1), .ref 0, zj dr, zj wy, zj st, zj hd, zp (a0 + 73), zj nm, zp (a0 + 74), zp (a0 + 75), zp (a0 + 76), zj ar, zj hn, zp (a0 + 77), zj pk, zp p_1, zj tl])) (some (zj r_15)) ((((((w ++ [za (List.replicate (((de.length : Int) + 3) : Int).toNat (0 : Int))]).set p_1 (za (zicp de (List.replicate (((de.length : Int) + 3) : Int).toNat (0 : Int)) 0 0 (de.length : Int)))).set p_1 (za (zsi (zicp de (List.replicate (((de.length : Int) + 3) : Int).toNat (0 : Int)) 0 0 (de.length : Int)) (de.length : Int) x1))).set p_1 (za (zsi (zsi (zicp de (List.replicate (((de.length : Int) + 3) : Int).toNat (0 : Int)) 0 0 (de.length : Int)) (de.length : Int) x1) ((de.length : Int) + 1) x2))).set p_1 (za (zsi (zsi (zsi (zicp de (List.replicate (((de.length : Int) + 3) : Int).toNat (0 : Int)) 0 0 (de.length : Int)) (de.length : Int) x1) ((de.length : Int) + 1) x2) ((de.length : Int) + 2) x3))).set a0 (zob 7 [zp (a0 + 1), .ref 0, zj dr, zj wy, zj st, zj hd, zp (a0 + 73), zj nm, zp (a0 + 74), zp (a0 + 75), zp (a0 + 76), zj ar, zj hn, zp (a0 + 77), zj pk, zp p_1, zj tl])) 0 0 ∧ ((zrg pk ∧ zrg r_15) ∧ (ov = none ∧ w' = (((((((w ++ [za (List.replicate (((de.length : Int) + 3) : Int).toNat (0 : Int))]).set p_1 (za (zicp de (List.replicate (((de.length : Int) + 3) : Int).toNat (0 : Int)) 0 0 (de.length : Int)))).set p_1 (za (zsi (zicp de (List.replicate (((de.length : Int) + 3) : Int).toNat (0 : Int)) 0 0 (de.length : Int)) (de.length : Int) x1))).set p_1 (za (zsi (zsi (zicp de (List.replicate (((de.length : Int) + 3) : Int).toNat (0 : Int)) 0 0 (de.length : Int)) (de.length : Int) x1) ((de.length : Int) + 1) x2))).set p_1 (za (zsi (zsi (zsi (zicp de (List.replicate (((de.length : Int) + 3) : Int).toNat (0 : Int)) 0 0 (de.length : Int)) (de.length : Int) x1) ((de.length : Int) + 1) x2) ((de.length : Int) + 2) x3))).set a0 (zob 7 [zp (a0 + 1), .ref 0, zj dr, zj wy, zj st, zj hd, zp (a0 + 73), zj nm, zp (a0 + 74), zp (a0 + 75), zp (a0 + 76), zj ar, zj hn, zp (a0 + 77), zj pk, zp p_1, zj tl])).set a0 (zob 7 [zp (a0 + 1), .ref 0, zj dr, zj wy, zj st, zj hd, zp (a0 + 73), zj nm, zp (a0 + 74), zp (a0 + 75), zp (a0 + 76), zj ar, zj hn, zp (a0 + 77), zj (max pk r_15), zp p_1, zj tl])) ∧ c_3 = 0 ∧ s_4 = 0))))))))))))) : Zr sc 132 0 [zp a0, zj x1, zj x2, zj x3, zmk] [] w ov w' c s := by
  refine Zr_st (q := (1, [zp a0, zj x1, zj x2, zj x3, zmk], [zp a0])) rfl rfl rfl ?_
  show Zr sc 132 1 [zp a0, zj x1, zj x2, zj x3, zmk] [zp a0] w ov w' c s
  refine rl_gf rfl L0 rfl rfl ?_
  show Zr sc 132 4 [zp a0, zj x1, zj x2, zj x3, zmk] [zp D] w ov w' c s
  refine rl_al rfl LD ?_
  show Zr sc 132 5 [zp a0, zj x1, zj x2, zj x3, zmk] [zj (de.length : Int)] w ov w' c s
  refine rl_ic rfl ?_
  show Zr sc 132 6 [zp a0, zj x1, zj x2, zj x3, zmk] [zj 3, zj (de.length : Int)] w ov w' c s
  refine rl_add rfl ?_
  show Zr sc 132 7 [zp a0, zj x1, zj x2, zj x3, zmk] [zj ((de.length : Int) + 3)] w ov w' c s
  obtain ⟨hx_6, h⟩ := h
  obtain ⟨p_1, hp_2, h⟩ := h
  obtain ⟨c_3, s_4, hc_5, h⟩ := h
  refine rn_na rfl hx_6.1 hx_6.2 hp_2 hc_5.1 hc_5.2 ?_
  show Zr sc 132 9 [zp a0, zj x1, zj x2, zj x3, zmk] [zp p_1] (w ++ [za (List.replicate (((de.length : Int) + 3) : Int).toNat (0 : Int))]) ov w' c_3 s_4
  refine Zr_st (q := (11, [zp a0, zj x1, zj x2, zj x3, zp p_1], [])) rfl rfl rfl ?_
  show Zr sc 132 11 [zp a0, zj x1, zj x2, zj x3, zp p_1] [] (w ++ [za (List.replicate (((de.length : Int) + 3) : Int).toNat (0 : Int))]) ov w' c_3 s_4
  refine Zr_st (q := (12, [zp a0, zj x1, zj x2, zj x3, zp p_1], [zp a0])) rfl rfl rfl ?_
  show Zr sc 132 12 [zp a0, zj x1, zj x2, zj x3, zp p_1] [zp a0] (w ++ [za (List.replicate (((de.length : Int) + 3) : Int).toNat (0 : Int))]) ov w' c_3 s_4
  refine rl_gf rfl (zw_a L0) rfl rfl ?_
  show Zr sc 132 15 [zp a0, zj x1, zj x2, zj x3, zp p_1] [zp D] (w ++ [za (List.replicate (((de.length : Int) + 3) : Int).toNat (0 : Int))]) ov w' c_3 s_4
  refine rl_ic rfl ?_
  show Zr sc 132 16 [zp a0, zj x1, zj x2, zj x3, zp p_1] [zj 0, zp D] (w ++ [za (List.replicate (((de.length : Int) + 3) : Int).toNat (0 : Int))]) ov w' c_3 s_4
  refine Zr_st (q := (18, [zp a0, zj x1, zj x2, zj x3, zp p_1], [zp p_1, zj 0, zp D])) rfl rfl rfl ?_
  show Zr sc 132 18 [zp a0, zj x1, zj x2, zj x3, zp p_1] [zp p_1, zj 0, zp D] (w ++ [za (List.replicate (((de.length : Int) + 3) : Int).toNat (0 : Int))]) ov w' c_3 s_4
  refine rl_ic rfl ?_
  show Zr sc 132 19 [zp a0, zj x1, zj x2, zj x3, zp p_1] [zj 0, zp p_1, zj 0, zp D] (w ++ [za (List.replicate (((de.length : Int) + 3) : Int).toNat (0 : Int))]) ov w' c_3 s_4
  refine Zr_st (q := (20, [zp a0, zj x1, zj x2, zj x3, zp p_1], [zp a0, zj 0, zp p_1, zj 0, zp D])) rfl rfl rfl ?_
  show Zr sc 132 20 [zp a0, zj x1, zj x2, zj x3, zp p_1] [zp a0, zj 0, zp p_1, zj 0, zp D] (w ++ [za (List.replicate (((de.length : Int) + 3) : Int).toNat (0 : Int))]) ov w' c_3 s_4
  refine rl_gf rfl (zw_a L0) rfl rfl ?_
  show Zr sc 132 23 [zp a0, zj x1, zj x2, zj x3, zp p_1] [zp D, zj 0, zp p_1, zj 0, zp D] (w ++ [za (List.replicate (((de.length : Int) + 3) : Int).toNat (0 : Int))]) ov w' c_3 s_4
  refine rl_al rfl (zw_a LD) ?_
  show Zr sc 132 24 [zp a0, zj x1, zj x2, zj x3, zp p_1] [zj (de.length : Int), zj 0, zp p_1, zj 0, zp D] (w ++ [za (List.replicate (((de.length : Int) + 3) : Int).toNat (0 : Int))]) ov w' c_3 s_4
  obtain ⟨hb_7, h⟩ := h
  refine Zr_cp (ins := .invokestatic 91) (rest := []) rfl rfl rfl rfl (zinv_t2 (rest := []) rfl rfl rfl rfl rfl) rfl (zcp_j (zw_a LD) (zw_n hp_2) hb_7) ?_
  show Zr sc 132 27 [zp a0, zj x1, zj x2, zj x3, zp p_1] [] ((w ++ [za (List.replicate (((de.length : Int) + 3) : Int).toNat (0 : Int))]).set p_1 (za (zicp de (List.replicate (((de.length : Int) + 3) : Int).toNat (0 : Int)) 0 0 (de.length : Int)))) ov w' c_3 s_4
  refine Zr_st (q := (29, [zp a0, zj x1, zj x2, zj x3, zp p_1], [zp p_1])) rfl rfl rfl ?_
  show Zr sc 132 29 [zp a0, zj x1, zj x2, zj x3, zp p_1] [zp p_1] ((w ++ [za (List.replicate (((de.length : Int) + 3) : Int).toNat (0 : Int))]).set p_1 (za (zicp de (List.replicate (((de.length : Int) + 3) : Int).toNat (0 : Int)) 0 0 (de.length : Int)))) ov w' c_3 s_4
  refine Zr_st (q := (30, [zp a0, zj x1, zj x2, zj x3, zp p_1], [zp a0, zp p_1])) rfl rfl rfl ?_
  show Zr sc 132 30 [zp a0, zj x1, zj x2, zj x3, zp p_1] [zp a0, zp p_1] ((w ++ [za (List.replicate (((de.length : Int) + 3) : Int).toNat (0 : Int))]).set p_1 (za (zicp de (List.replicate (((de.length : Int) + 3) : Int).toNat (0 : Int)) 0 0 (de.length : Int)))) ov w' c_3 s_4
  obtain ⟨hn_8, h⟩ := h
  refine rl_gf rfl (zw_o hn_8 (zw_a L0)) rfl rfl ?_
  show Zr sc 132 33 [zp a0, zj x1, zj x2, zj x3, zp p_1] [zp D, zp p_1] ((w ++ [za (List.replicate (((de.length : Int) + 3) : Int).toNat (0 : Int))]).set p_1 (za (zicp de (List.replicate (((de.length : Int) + 3) : Int).toNat (0 : Int)) 0 0 (de.length : Int)))) ov w' c_3 s_4
  obtain ⟨hn_9, h⟩ := h
  refine rl_al rfl (zw_o hn_9 (zw_a LD)) ?_
  show Zr sc 132 34 [zp a0, zj x1, zj x2, zj x3, zp p_1] [zj (de.length : Int), zp p_1] ((w ++ [za (List.replicate (((de.length : Int) + 3) : Int).toNat (0 : Int))]).set p_1 (za (zicp de (List.replicate (((de.length : Int) + 3) : Int).toNat (0 : Int)) 0 0 (de.length : Int)))) ov w' c_3 s_4
  refine Zr_st (q := (35, [zp a0, zj x1, zj x2, zj x3, zp p_1], [zj x1, zj (de.length : Int), zp p_1])) rfl rfl rfl ?_
  show Zr sc 132 35 [zp a0, zj x1, zj x2, zj x3, zp p_1] [zj x1, zj (de.length : Int), zp p_1] ((w ++ [za (List.replicate (((de.length : Int) + 3) : Int).toNat (0 : Int))]).set p_1 (za (zicp de (List.replicate (((de.length : Int) + 3) : Int).toNat (0 : Int)) 0 0 (de.length : Int)))) ov w' c_3 s_4
  obtain ⟨hi_10, h⟩ := h
  refine rl_is rfl (zw_s (zw_n hp_2)) hi_10.1 hi_10.2.1 hi_10.2.2 ?_
  show Zr sc 132 36 [zp a0, zj x1, zj x2, zj x3, zp p_1] [] (((w ++ [za (List.replicate (((de.length : Int) + 3) : Int).toNat (0 : Int))]).set p_1 (za (zicp de (List.replicate (((de.length : Int) + 3) : Int).toNat (0 : Int)) 0 0 (de.length : Int)))).set p_1 (za (zsi (zicp de (List.replicate (((de.length : Int) + 3) : Int).toNat (0 : Int)) 0 0 (de.length : Int)) (de.length : Int) x1))) ov w' c_3 s_4
  refine Zr_st (q := (38, [zp a0, zj x1, zj x2, zj x3, zp p_1], [zp p_1])) rfl rfl rfl ?_
  show Zr sc 132 38 [zp a0, zj x1, zj x2, zj x3, zp p_1] [zp p_1] (((w ++ [za (List.replicate (((de.length : Int) + 3) : Int).toNat (0 : Int))]).set p_1 (za (zicp de (List.replicate (((de.length : Int) + 3) : Int).toNat (0 : Int)) 0 0 (de.length : Int)))).set p_1 (za (zsi (zicp de (List.replicate (((de.length : Int) + 3) : Int).toNat (0 : Int)) 0 0 (de.length : Int)) (de.length : Int) x1))) ov w' c_3 s_4
  refine Zr_st (q := (39, [zp a0, zj x1, zj x2, zj x3, zp p_1], [zp a0, zp p_1])) rfl rfl rfl ?_
  show Zr sc 132 39 [zp a0, zj x1, zj x2, zj x3, zp p_1] [zp a0, zp p_1] (((w ++ [za (List.replicate (((de.length : Int) + 3) : Int).toNat (0 : Int))]).set p_1 (za (zicp de (List.replicate (((de.length : Int) + 3) : Int).toNat (0 : Int)) 0 0 (de.length : Int)))).set p_1 (za (zsi (zicp de (List.replicate (((de.length : Int) + 3) : Int).toNat (0 : Int)) 0 0 (de.length : Int)) (de.length : Int) x1))) ov w' c_3 s_4
  refine rl_gf rfl (zw_o hn_8 (zw_o hn_8 (zw_a L0))) rfl rfl ?_
  show Zr sc 132 42 [zp a0, zj x1, zj x2, zj x3, zp p_1] [zp D, zp p_1] (((w ++ [za (List.replicate (((de.length : Int) + 3) : Int).toNat (0 : Int))]).set p_1 (za (zicp de (List.replicate (((de.length : Int) + 3) : Int).toNat (0 : Int)) 0 0 (de.length : Int)))).set p_1 (za (zsi (zicp de (List.replicate (((de.length : Int) + 3) : Int).toNat (0 : Int)) 0 0 (de.length : Int)) (de.length : Int) x1))) ov w' c_3 s_4
  refine rl_al rfl (zw_o hn_9 (zw_o hn_9 (zw_a LD))) ?_
  show Zr sc 132 43 [zp a0, zj x1, zj x2, zj x3, zp p_1] [zj (de.length : Int), zp p_1] (((w ++ [za (List.replicate (((de.length : Int) + 3) : Int).toNat (0 : Int))]).set p_1 (za (zicp de (List.replicate (((de.length : Int) + 3) : Int).toNat (0 : Int)) 0 0 (de.length : Int)))).set p_1 (za (zsi (zicp de (List.replicate (((de.length : Int) + 3) : Int).toNat (0 : Int)) 0 0 (de.length : Int)) (de.length : Int) x1))) ov w' c_3 s_4
  refine rl_ic rfl ?_
  show Zr sc 132 44 [zp a0, zj x1, zj x2, zj x3, zp p_1] [zj 1, zj (de.length : Int), zp p_1] (((w ++ [za (List.replicate (((de.length : Int) + 3) : Int).toNat (0 : Int))]).set p_1 (za (zicp de (List.replicate (((de.length : Int) + 3) : Int).toNat (0 : Int)) 0 0 (de.length : Int)))).set p_1 (za (zsi (zicp de (List.replicate (((de.length : Int) + 3) : Int).toNat (0 : Int)) 0 0 (de.length : Int)) (de.length : Int) x1))) ov w' c_3 s_4
  refine rl_add rfl ?_
  show Zr sc 132 45 [zp a0, zj x1, zj x2, zj x3, zp p_1] [zj ((de.length : Int) + 1), zp p_1] (((w ++ [za (List.replicate (((de.length : Int) + 3) : Int).toNat (0 : Int))]).set p_1 (za (zicp de (List.replicate (((de.length : Int) + 3) : Int).toNat (0 : Int)) 0 0 (de.length : Int)))).set p_1 (za (zsi (zicp de (List.replicate (((de.length : Int) + 3) : Int).toNat (0 : Int)) 0 0 (de.length : Int)) (de.length : Int) x1))) ov w' c_3 s_4
  refine Zr_st (q := (46, [zp a0, zj x1, zj x2, zj x3, zp p_1], [zj x2, zj ((de.length : Int) + 1), zp p_1])) rfl rfl rfl ?_
  show Zr sc 132 46 [zp a0, zj x1, zj x2, zj x3, zp p_1] [zj x2, zj ((de.length : Int) + 1), zp p_1] (((w ++ [za (List.replicate (((de.length : Int) + 3) : Int).toNat (0 : Int))]).set p_1 (za (zicp de (List.replicate (((de.length : Int) + 3) : Int).toNat (0 : Int)) 0 0 (de.length : Int)))).set p_1 (za (zsi (zicp de (List.replicate (((de.length : Int) + 3) : Int).toNat (0 : Int)) 0 0 (de.length : Int)) (de.length : Int) x1))) ov w' c_3 s_4
  obtain ⟨hi_11, h⟩ := h
  refine rl_is rfl (zw_s (zw_s (zw_n hp_2))) hi_11.1 hi_11.2.1 hi_11.2.2 ?_
  show Zr sc 132 47 [zp a0, zj x1, zj x2, zj x3, zp p_1] [] ((((w ++ [za (List.replicate (((de.length : Int) + 3) : Int).toNat (0 : Int))]).set p_1 (za (zicp de (List.replicate (((de.length : Int) + 3) : Int).toNat (0 : Int)) 0 0 (de.length : Int)))).set p_1 (za (zsi (zicp de (List.replicate (((de.length : Int) + 3) : Int).toNat (0 : Int)) 0 0 (de.length : Int)) (de.length : Int) x1))).set p_1 (za (zsi (zsi (zicp de (List.replicate (((de.length : Int) + 3) : Int).toNat (0 : Int)) 0 0 (de.length : Int)) (de.length : Int) x1) ((de.length : Int) + 1) x2))) ov w' c_3 s_4
  refine Zr_st (q := (49, [zp a0, zj x1, zj x2, zj x3, zp p_1], [zp p_1])) rfl rfl rfl ?_
  show Zr sc 132 49 [zp a0, zj x1, zj x2, zj x3, zp p_1] [zp p_1] ((((w ++ [za (List.replicate (((de.length : Int) + 3) : Int).toNat (0 : Int))]).set p_1 (za (zicp de (List.replicate (((de.length : Int) + 3) : Int).toNat (0 : Int)) 0 0 (de.length : Int)))).set p_1 (za (zsi (zicp de (List.replicate (((de.length : Int) + 3) : Int).toNat (0 : Int)) 0 0 (de.length : Int)) (de.length : Int) x1))).set p_1 (za (zsi (zsi (zicp de (List.replicate (((de.length : Int) + 3) : Int).toNat (0 : Int)) 0 0 (de.length : Int)) (de.length : Int) x1) ((de.length : Int) + 1) x2))) ov w' c_3 s_4
  refine Zr_st (q := (50, [zp a0, zj x1, zj x2, zj x3, zp p_1], [zp a0, zp p_1])) rfl rfl rfl ?_
  show Zr sc 132 50 [zp a0, zj x1, zj x2, zj x3, zp p_1] [zp a0, zp p_1] ((((w ++ [za (List.replicate (((de.length : Int) + 3) : Int).toNat (0 : Int))]).set p_1 (za (zicp de (List.replicate (((de.length : Int) + 3) : Int).toNat (0 : Int)) 0 0 (de.length : Int)))).set p_1 (za (zsi (zicp de (List.replicate (((de.length : Int) + 3) : Int).toNat (0 : Int)) 0 0 (de.length : Int)) (de.length : Int) x1))).set p_1 (za (zsi (zsi (zicp de (List.replicate (((de.length : Int) + 3) : Int).toNat (0 : Int)) 0 0 (de.length : Int)) (de.length : Int) x1) ((de.length : Int) + 1) x2))) ov w' c_3 s_4
  refine rl_gf rfl (zw_o hn_8 (zw_o hn_8 (zw_o hn_8 (zw_a L0)))) rfl rfl ?_
  show Zr sc 132 53 [zp a0, zj x1, zj x2, zj x3, zp p_1] [zp D, zp p_1] ((((w ++ [za (List.replicate (((de.length : Int) + 3) : Int).toNat (0 : Int))]).set p_1 (za (zicp de (List.replicate (((de.length : Int) + 3) : Int).toNat (0 : Int)) 0 0 (de.length : Int)))).set p_1 (za (zsi (zicp de (List.replicate (((de.length : Int) + 3) : Int).toNat (0 : Int)) 0 0 (de.length : Int)) (de.length : Int) x1))).set p_1 (za (zsi (zsi (zicp de (List.replicate (((de.length : Int) + 3) : Int).toNat (0 : Int)) 0 0 (de.length : Int)) (de.length : Int) x1) ((de.length : Int) + 1) x2))) ov w' c_3 s_4
  refine rl_al rfl (zw_o hn_9 (zw_o hn_9 (zw_o hn_9 (zw_a LD)))) ?_
  show Zr sc 132 54 [zp a0, zj x1, zj x2, zj x3, zp p_1] [zj (de.length : Int), zp p_1] ((((w ++ [za (List.replicate (((de.length : Int) + 3) : Int).toNat (0 : Int))]).set p_1 (za (zicp de (List.replicate (((de.length : Int) + 3) : Int).toNat (0 : Int)) 0 0 (de.length : Int)))).set p_1 (za (zsi (zicp de (List.replicate (((de.length : Int) + 3) : Int).toNat (0 : Int)) 0 0 (de.length : Int)) (de.length : Int) x1))).set p_1 (za (zsi (zsi (zicp de (List.replicate (((de.length : Int) + 3) : Int).toNat (0 : Int)) 0 0 (de.length : Int)) (de.length : Int) x1) ((de.length : Int) + 1) x2))) ov w' c_3 s_4
  refine rl_ic rfl ?_
  show Zr sc 132 55 [zp a0, zj x1, zj x2, zj x3, zp p_1] [zj 2, zj (de.length : Int), zp p_1] ((((w ++ [za (List.replicate (((de.length : Int) + 3) : Int).toNat (0 : Int))]).set p_1 (za (zicp de (List.replicate (((de.length : Int) + 3) : Int).toNat (0 : Int)) 0 0 (de.length : Int)))).set p_1 (za (zsi (zicp de (List.replicate (((de.length : Int) + 3) : Int).toNat (0 : Int)) 0 0 (de.length : Int)) (de.length : Int) x1))).set p_1 (za (zsi (zsi (zicp de (List.replicate (((de.length : Int) + 3) : Int).toNat (0 : Int)) 0 0 (de.length : Int)) (de.length : Int) x1) ((de.length : Int) + 1) x2))) ov w' c_3 s_4
  refine rl_add rfl ?_
  show Zr sc 132 56 [zp a0, zj x1, zj x2, zj x3, zp p_1] [zj ((de.length : Int) + 2), zp p_1] ((((w ++ [za (List.replicate (((de.length : Int) + 3) : Int).toNat (0 : Int))]).set p_1 (za (zicp de (List.replicate (((de.length : Int) + 3) : Int).toNat (0 : Int)) 0 0 (de.length : Int)))).set p_1 (za (zsi (zicp de (List.replicate (((de.length : Int) + 3) : Int).toNat (0 : Int)) 0 0 (de.length : Int)) (de.length : Int) x1))).set p_1 (za (zsi (zsi (zicp de (List.replicate (((de.length : Int) + 3) : Int).toNat (0 : Int)) 0 0 (de.length : Int)) (de.length : Int) x1) ((de.length : Int) + 1) x2))) ov w' c_3 s_4
  refine Zr_st (q := (57, [zp a0, zj x1, zj x2, zj x3, zp p_1], [zj x3, zj ((de.length : Int) + 2), zp p_1])) rfl rfl rfl ?_
  show Zr sc 132 57 [zp a0, zj x1, zj x2, zj x3, zp p_1] [zj x3, zj ((de.length : Int) + 2), zp p_1] ((((w ++ [za (List.replicate (((de.length : Int) + 3) : Int).toNat (0 : Int))]).set p_1 (za (zicp de (List.replicate (((de.length : Int) + 3) : Int).toNat (0 : Int)) 0 0 (de.length : Int)))).set p_1 (za (zsi (zicp de (List.replicate (((de.length : Int) + 3) : Int).toNat (0 : Int)) 0 0 (de.length : Int)) (de.length : Int) x1))).set p_1 (za (zsi (zsi (zicp de (List.replicate (((de.length : Int) + 3) : Int).toNat (0 : Int)) 0 0 (de.length : Int)) (de.length : Int) x1) ((de.length : Int) + 1) x2))) ov w' c_3 s_4
  obtain ⟨hi_12, h⟩ := h
  refine rl_is rfl (zw_s (zw_s (zw_s (zw_n hp_2)))) hi_12.1 hi_12.2.1 hi_12.2.2 ?_
  show Zr sc 132 58 [zp a0, zj x1, zj x2, zj x3, zp p_1] [] (((((w ++ [za (List.replicate (((de.length : Int) + 3) : Int).toNat (0 : Int))]).set p_1 (za (zicp de (List.replicate (((de.length : Int) + 3) : Int).toNat (0 : Int)) 0 0 (de.length : Int)))).set p_1 (za (zsi (zicp de (List.replicate (((de.length : Int) + 3) : Int).toNat (0 : Int)) 0 0 (de.length : Int)) (de.length : Int) x1))).set p_1 (za (zsi (zsi (zicp de (List.replicate (((de.length : Int) + 3) : Int).toNat (0 : Int)) 0 0 (de.length : Int)) (de.length : Int) x1) ((de.length : Int) + 1) x2))).set p_1 (za (zsi (zsi (zsi (zicp de (List.replicate (((de.length : Int) + 3) : Int).toNat (0 : Int)) 0 0 (de.length : Int)) (de.length : Int) x1) ((de.length : Int) + 1) x2) ((de.length : Int) + 2) x3))) ov w' c_3 s_4
  refine Zr_st (q := (59, [zp a0, zj x1, zj x2, zj x3, zp p_1], [zp a0])) rfl rfl rfl ?_
  show Zr sc 132 59 [zp a0, zj x1, zj x2, zj x3, zp p_1] [zp a0] (((((w ++ [za (List.replicate (((de.length : Int) + 3) : Int).toNat (0 : Int))]).set p_1 (za (zicp de (List.replicate (((de.length : Int) + 3) : Int).toNat (0 : Int)) 0 0 (de.length : Int)))).set p_1 (za (zsi (zicp de (List.replicate (((de.length : Int) + 3) : Int).toNat (0 : Int)) 0 0 (de.length : Int)) (de.length : Int) x1))).set p_1 (za (zsi (zsi (zicp de (List.replicate (((de.length : Int) + 3) : Int).toNat (0 : Int)) 0 0 (de.length : Int)) (de.length : Int) x1) ((de.length : Int) + 1) x2))).set p_1 (za (zsi (zsi (zsi (zicp de (List.replicate (((de.length : Int) + 3) : Int).toNat (0 : Int)) 0 0 (de.length : Int)) (de.length : Int) x1) ((de.length : Int) + 1) x2) ((de.length : Int) + 2) x3))) ov w' c_3 s_4
  refine Zr_st (q := (61, [zp a0, zj x1, zj x2, zj x3, zp p_1], [zp p_1, zp a0])) rfl rfl rfl ?_
  show Zr sc 132 61 [zp a0, zj x1, zj x2, zj x3, zp p_1] [zp p_1, zp a0] (((((w ++ [za (List.replicate (((de.length : Int) + 3) : Int).toNat (0 : Int))]).set p_1 (za (zicp de (List.replicate (((de.length : Int) + 3) : Int).toNat (0 : Int)) 0 0 (de.length : Int)))).set p_1 (za (zsi (zicp de (List.replicate (((de.length : Int) + 3) : Int).toNat (0 : Int)) 0 0 (de.length : Int)) (de.length : Int) x1))).set p_1 (za (zsi (zsi (zicp de (List.replicate (((de.length : Int) + 3) : Int).toNat (0 : Int)) 0 0 (de.length : Int)) (de.length : Int) x1) ((de.length : Int) + 1) x2))).set p_1 (za (zsi (zsi (zsi (zicp de (List.replicate (((de.length : Int) + 3) : Int).toNat (0 : Int)) 0 0 (de.length : Int)) (de.length : Int) x1) ((de.length : Int) + 1) x2) ((de.length : Int) + 2) x3))) ov w' c_3 s_4
  refine rl_pf rfl (zw_o hn_8 (zw_o hn_8 (zw_o hn_8 (zw_o hn_8 (zw_a L0))))) rfl rfl rfl ?_
  show Zr sc 132 64 [zp a0, zj x1, zj x2, zj x3, zp p_1] [] ((((((w ++ [za (List.replicate (((de.length : Int) + 3) : Int).toNat (0 : Int))]).set p_1 (za (zicp de (List.replicate (((de.length : Int) + 3) : Int).toNat (0 : Int)) 0 0 (de.length : Int)))).set p_1 (za (zsi (zicp de (List.replicate (((de.length : Int) + 3) : Int).toNat (0 : Int)) 0 0 (de.length : Int)) (de.length : Int) x1))).set p_1 (za (zsi (zsi (zicp de (List.replicate (((de.length : Int) + 3) : Int).toNat (0 : Int)) 0 0 (de.length : Int)) (de.length : Int) x1) ((de.length : Int) + 1) x2))).set p_1 (za (zsi (zsi (zsi (zicp de (List.replicate (((de.length : Int) + 3) : Int).toNat (0 : Int)) 0 0 (de.length : Int)) (de.length : Int) x1) ((de.length : Int) + 1) x2) ((de.length : Int) + 2) x3))).set a0 (zob 7 [zp (a0 + 1), .ref 0, zj dr, zj wy, zj st, zj hd, zp (a0 + 73), zj nm, zp (a0 + 74), zp (a0 + 75), zp (a0 + 76), zj ar, zj hn, zp (a0 + 77), zj pk, zp p_1, zj tl])) ov w' c_3 s_4
  refine Zr_st (q := (65, [zp a0, zj x1, zj x2, zj x3, zp p_1], [zp a0])) rfl rfl rfl ?_
  show Zr sc 132 65 [zp a0, zj x1, zj x2, zj x3, zp p_1] [zp a0] ((((((w ++ [za (List.replicate (((de.length : Int) + 3) : Int).toNat (0 : Int))]).set p_1 (za (zicp de (List.replicate (((de.length : Int) + 3) : Int).toNat (0 : Int)) 0 0 (de.length : Int)))).set p_1 (za (zsi (zicp de (List.replicate (((de.length : Int) + 3) : Int).toNat (0 : Int)) 0 0 (de.length : Int)) (de.length : Int) x1))).set p_1 (za (zsi (zsi (zicp de (List.replicate (((de.length : Int) + 3) : Int).toNat (0 : Int)) 0 0 (de.length : Int)) (de.length : Int) x1) ((de.length : Int) + 1) x2))).set p_1 (za (zsi (zsi (zsi (zicp de (List.replicate (((de.length : Int) + 3) : Int).toNat (0 : Int)) 0 0 (de.length : Int)) (de.length : Int) x1) ((de.length : Int) + 1) x2) ((de.length : Int) + 2) x3))).set a0 (zob 7 [zp (a0 + 1), .ref 0, zj dr, zj wy, zj st, zj hd, zp (a0 + 73), zj nm, zp (a0 + 74), zp (a0 + 75), zp (a0 + 76), zj ar, zj hn, zp (a0 + 77), zj pk, zp p_1, zj tl])) ov w' c_3 s_4
  refine Zr_st (q := (66, [zp a0, zj x1, zj x2, zj x3, zp p_1], [zp a0, zp a0])) rfl rfl rfl ?_
  show Zr sc 132 66 [zp a0, zj x1, zj x2, zj x3, zp p_1] [zp a0, zp a0] ((((((w ++ [za (List.replicate (((de.length : Int) + 3) : Int).toNat (0 : Int))]).set p_1 (za (zicp de (List.replicate (((de.length : Int) + 3) : Int).toNat (0 : Int)) 0 0 (de.length : Int)))).set p_1 (za (zsi (zicp de (List.replicate (((de.length : Int) + 3) : Int).toNat (0 : Int)) 0 0 (de.length : Int)) (de.length : Int) x1))).set p_1 (za (zsi (zsi (zicp de (List.replicate (((de.length : Int) + 3) : Int).toNat (0 : Int)) 0 0 (de.length : Int)) (de.length : Int) x1) ((de.length : Int) + 1) x2))).set p_1 (za (zsi (zsi (zsi (zicp de (List.replicate (((de.length : Int) + 3) : Int).toNat (0 : Int)) 0 0 (de.length : Int)) (de.length : Int) x1) ((de.length : Int) + 1) x2) ((de.length : Int) + 2) x3))).set a0 (zob 7 [zp (a0 + 1), .ref 0, zj dr, zj wy, zj st, zj hd, zp (a0 + 73), zj nm, zp (a0 + 74), zp (a0 + 75), zp (a0 + 76), zj ar, zj hn, zp (a0 + 77), zj pk, zp p_1, zj tl])) ov w' c_3 s_4
  refine rl_gf rfl (zw_s (zw_o hn_8 (zw_o hn_8 (zw_o hn_8 (zw_o hn_8 (zw_a L0)))))) rfl rfl ?_
  show Zr sc 132 69 [zp a0, zj x1, zj x2, zj x3, zp p_1] [zj pk, zp a0] ((((((w ++ [za (List.replicate (((de.length : Int) + 3) : Int).toNat (0 : Int))]).set p_1 (za (zicp de (List.replicate (((de.length : Int) + 3) : Int).toNat (0 : Int)) 0 0 (de.length : Int)))).set p_1 (za (zsi (zicp de (List.replicate (((de.length : Int) + 3) : Int).toNat (0 : Int)) 0 0 (de.length : Int)) (de.length : Int) x1))).set p_1 (za (zsi (zsi (zicp de (List.replicate (((de.length : Int) + 3) : Int).toNat (0 : Int)) 0 0 (de.length : Int)) (de.length : Int) x1) ((de.length : Int) + 1) x2))).set p_1 (za (zsi (zsi (zsi (zicp de (List.replicate (((de.length : Int) + 3) : Int).toNat (0 : Int)) 0 0 (de.length : Int)) (de.length : Int) x1) ((de.length : Int) + 1) x2) ((de.length : Int) + 2) x3))).set a0 (zob 7 [zp (a0 + 1), .ref 0, zj dr, zj wy, zj st, zj hd, zp (a0 + 73), zj nm, zp (a0 + 74), zp (a0 + 75), zp (a0 + 76), zj ar, zj hn, zp (a0 + 77), zj pk, zp p_1, zj tl])) ov w' c_3 s_4
  refine Zr_st (q := (70, [zp a0, zj x1, zj x2, zj x3, zp p_1], [zp a0, zj pk, zp a0])) rfl rfl rfl ?_
  show Zr sc 132 70 [zp a0, zj x1, zj x2, zj x3, zp p_1] [zp a0, zj pk, zp a0] ((((((w ++ [za (List.replicate (((de.length : Int) + 3) : Int).toNat (0 : Int))]).set p_1 (za (zicp de (List.replicate (((de.length : Int) + 3) : Int).toNat (0 : Int)) 0 0 (de.length : Int)))).set p_1 (za (zsi (zicp de (List.replicate (((de.length : Int) + 3) : Int).toNat (0 : Int)) 0 0 (de.length : Int)) (de.length : Int) x1))).set p_1 (za (zsi (zsi (zicp de (List.replicate (((de.length : Int) + 3) : Int).toNat (0 : Int)) 0 0 (de.length : Int)) (de.length : Int) x1) ((de.length : Int) + 1) x2))).set p_1 (za (zsi (zsi (zsi (zicp de (List.replicate (((de.length : Int) + 3) : Int).toNat (0 : Int)) 0 0 (de.length : Int)) (de.length : Int) x1) ((de.length : Int) + 1) x2) ((de.length : Int) + 2) x3))).set a0 (zob 7 [zp (a0 + 1), .ref 0, zj dr, zj wy, zj st, zj hd, zp (a0 + 73), zj nm, zp (a0 + 74), zp (a0 + 75), zp (a0 + 76), zj ar, zj hn, zp (a0 + 77), zj pk, zp p_1, zj tl])) ov w' c_3 s_4
  obtain ⟨r_15, hk_9, h⟩ := h
  refine rn_cal0 (ins := .invokevirtual 120) (rest := [zj pk, zp a0]) rfl rfl rfl rfl (zinv_v (fs := _) (zw_s (zw_o hn_8 (zw_o hn_8 (zw_o hn_8 (zw_o hn_8 (zw_a L0)))))) rfl rfl rfl rfl) rfl rfl hk_9 ?_
  show Zr sc 132 73 [zp a0, zj x1, zj x2, zj x3, zp p_1] [zj r_15, zj pk, zp a0] ((((((w ++ [za (List.replicate (((de.length : Int) + 3) : Int).toNat (0 : Int))]).set p_1 (za (zicp de (List.replicate (((de.length : Int) + 3) : Int).toNat (0 : Int)) 0 0 (de.length : Int)))).set p_1 (za (zsi (zicp de (List.replicate (((de.length : Int) + 3) : Int).toNat (0 : Int)) 0 0 (de.length : Int)) (de.length : Int) x1))).set p_1 (za (zsi (zsi (zicp de (List.replicate (((de.length : Int) + 3) : Int).toNat (0 : Int)) 0 0 (de.length : Int)) (de.length : Int) x1) ((de.length : Int) + 1) x2))).set p_1 (za (zsi (zsi (zsi (zicp de (List.replicate (((de.length : Int) + 3) : Int).toNat (0 : Int)) 0 0 (de.length : Int)) (de.length : Int) x1) ((de.length : Int) + 1) x2) ((de.length : Int) + 2) x3))).set a0 (zob 7 [zp (a0 + 1), .ref 0, zj dr, zj wy, zj st, zj hd, zp (a0 + 73), zj nm, zp (a0 + 74), zp (a0 + 75), zp (a0 + 76), zj ar, zj hn, zp (a0 + 77), zj pk, zp p_1, zj tl])) ov w' c_3 s_4
  obtain ⟨hm_16, h⟩ := h
  refine Zr_mx (b := true) (ins := .invokestatic 86) (rest := [zp a0]) rfl rfl rfl rfl (zinv_t2 (rest := [zp a0]) rfl rfl rfl rfl rfl) rfl (zmx_j hm_16.1 hm_16.2) ?_
  show Zr sc 132 76 [zp a0, zj x1, zj x2, zj x3, zp p_1] [zj (max pk r_15), zp a0] ((((((w ++ [za (List.replicate (((de.length : Int) + 3) : Int).toNat (0 : Int))]).set p_1 (za (zicp de (List.replicate (((de.length : Int) + 3) : Int).toNat (0 : Int)) 0 0 (de.length : Int)))).set p_1 (za (zsi (zicp de (List.replicate (((de.length : Int) + 3) : Int).toNat (0 : Int)) 0 0 (de.length : Int)) (de.length : Int) x1))).set p_1 (za (zsi (zsi (zicp de (List.replicate (((de.length : Int) + 3) : Int).toNat (0 : Int)) 0 0 (de.length : Int)) (de.length : Int) x1) ((de.length : Int) + 1) x2))).set p_1 (za (zsi (zsi (zsi (zicp de (List.replicate (((de.length : Int) + 3) : Int).toNat (0 : Int)) 0 0 (de.length : Int)) (de.length : Int) x1) ((de.length : Int) + 1) x2) ((de.length : Int) + 2) x3))).set a0 (zob 7 [zp (a0 + 1), .ref 0, zj dr, zj wy, zj st, zj hd, zp (a0 + 73), zj nm, zp (a0 + 74), zp (a0 + 75), zp (a0 + 76), zj ar, zj hn, zp (a0 + 77), zj pk, zp p_1, zj tl])) ov w' c_3 s_4
  refine rl_pf rfl (zw_s (zw_o hn_8 (zw_o hn_8 (zw_o hn_8 (zw_o hn_8 (zw_a L0)))))) rfl rfl rfl ?_
  show Zr sc 132 79 [zp a0, zj x1, zj x2, zj x3, zp p_1] [] (((((((w ++ [za (List.replicate (((de.length : Int) + 3) : Int).toNat (0 : Int))]).set p_1 (za (zicp de (List.replicate (((de.length : Int) + 3) : Int).toNat (0 : Int)) 0 0 (de.length : Int)))).set p_1 (za (zsi (zicp de (List.replicate (((de.length : Int) + 3) : Int).toNat (0 : Int)) 0 0 (de.length : Int)) (de.length : Int) x1))).set p_1 (za (zsi (zsi (zicp de (List.replicate (((de.length : Int) + 3) : Int).toNat (0 : Int)) 0 0 (de.length : Int)) (de.length : Int) x1) ((de.length : Int) + 1) x2))).set p_1 (za (zsi (zsi (zsi (zicp de (List.replicate (((de.length : Int) + 3) : Int).toNat (0 : Int)) 0 0 (de.length : Int)) (de.length : Int) x1) ((de.length : Int) + 1) x2) ((de.length : Int) + 2) x3))).set a0 (zob 7 [zp (a0 + 1), .ref 0, zj dr, zj wy, zj st, zj hd, zp (a0 + 73), zj nm, zp (a0 + 74), zp (a0 + 75), zp (a0 + 76), zj ar, zj hn, zp (a0 + 77), zj pk, zp p_1, zj tl])).set a0 (zob 7 [zp (a0 + 1), .ref 0, zj dr, zj wy, zj st, zj hd, zp (a0 + 73), zj nm, zp (a0 + 74), zp (a0 + 75), zp (a0 + 76), zj ar, zj hn, zp (a0 + 77), zj (max pk r_15), zp p_1, zj tl])) ov w' c_3 s_4
  obtain ⟨h1, h2, h3, h4⟩ := h
  subst h1; subst h2; subst h3; subst h4
  exact Zr_ret (ins := .return_) rfl rfl

-- HeapwrightLabLaw$Pool.used()I
set_option maxRecDepth 100000 in
theorem V133_0 {sc : List Value} {w w' : List zE} {ov : Option Value} {c s : Nat} {a0 : Nat} {dr : Int} {wy : Int} {st : Int} {hd : Int} {nm : Int} {ar : Int} {hn : Int} {pk : Int} {D : Nat} {tl : Int} {ow : List Int} (L0 : w[a0]? = some (zob 7 [zp (a0 + 1), .ref 0, zj dr, zj wy, zj st, zj hd, zp (a0 + 73), zj nm, zp (a0 + 74), zp (a0 + 75), zp (a0 + 76), zj ar, zj hn, zp (a0 + 77), zj pk, zp D, zj tl])) (L73 : w[(a0 + 73)]? = some (za ow)) (h : Zr sc 133 13 [zp a0, zj 0, zp (a0 + 73), zj (ow.length : Int), zj 0, zmk] [] w ov w' c s) : Zr sc 133 0 [zp a0, zmk, zmk, zmk, zmk, zmk] [] w ov w' c s := by
  refine rl_ic rfl ?_
  show Zr sc 133 1 [zp a0, zmk, zmk, zmk, zmk, zmk] [zj 0] w ov w' c s
  refine Zr_st (q := (2, [zp a0, zj 0, zmk, zmk, zmk, zmk], [])) rfl rfl rfl ?_
  show Zr sc 133 2 [zp a0, zj 0, zmk, zmk, zmk, zmk] [] w ov w' c s
  refine Zr_st (q := (3, [zp a0, zj 0, zmk, zmk, zmk, zmk], [zp a0])) rfl rfl rfl ?_
  show Zr sc 133 3 [zp a0, zj 0, zmk, zmk, zmk, zmk] [zp a0] w ov w' c s
  refine rl_gf rfl L0 rfl rfl ?_
  show Zr sc 133 6 [zp a0, zj 0, zmk, zmk, zmk, zmk] [zp (a0 + 73)] w ov w' c s
  refine Zr_st (q := (7, [zp a0, zj 0, zp (a0 + 73), zmk, zmk, zmk], [])) rfl rfl rfl ?_
  show Zr sc 133 7 [zp a0, zj 0, zp (a0 + 73), zmk, zmk, zmk] [] w ov w' c s
  refine Zr_st (q := (8, [zp a0, zj 0, zp (a0 + 73), zmk, zmk, zmk], [zp (a0 + 73)])) rfl rfl rfl ?_
  show Zr sc 133 8 [zp a0, zj 0, zp (a0 + 73), zmk, zmk, zmk] [zp (a0 + 73)] w ov w' c s
  refine rl_al rfl L73 ?_
  show Zr sc 133 9 [zp a0, zj 0, zp (a0 + 73), zmk, zmk, zmk] [zj (ow.length : Int)] w ov w' c s
  refine Zr_st (q := (10, [zp a0, zj 0, zp (a0 + 73), zj (ow.length : Int), zmk, zmk], [])) rfl rfl rfl ?_
  show Zr sc 133 10 [zp a0, zj 0, zp (a0 + 73), zj (ow.length : Int), zmk, zmk] [] w ov w' c s
  refine rl_ic rfl ?_
  show Zr sc 133 11 [zp a0, zj 0, zp (a0 + 73), zj (ow.length : Int), zmk, zmk] [zj 0] w ov w' c s
  refine Zr_st (q := (13, [zp a0, zj 0, zp (a0 + 73), zj (ow.length : Int), zj 0, zmk], [])) rfl rfl rfl ?_
  show Zr sc 133 13 [zp a0, zj 0, zp (a0 + 73), zj (ow.length : Int), zj 0, zmk] [] w ov w' c s
  exact h
set_option maxRecDepth 100000 in
theorem V133_13 {sc : List Value} {w w' : List zE} {ov : Option Value} {c s : Nat} {a0 : Nat} {x1 : Int} {a2 : Nat} {x3 : Int} {x4 : Int} {v5 : Value} (h : ((zrg x4 ∧ zrg x3) ∧ ((x3 ≤ x4 → (ov = some (zj x1) ∧ w' = w ∧ c = 0 ∧ s = 0)) ∧ (¬ (x3 ≤ x4) → (∃ l_4 : List Int, w[a2]? = some (za l_4) ∧ (((0 : Int) ≤ x4 ∧ x4 < (l_4.length : Int) ∧ x4 ≤ (2147483647 : Int)) ∧ ((zrg (zgi l_4 x4)) ∧ (((zgi l_4 x4) < 0 → Zr sc 133 13 [zp a0, zj (x1 + 0), zp a2, zj x3, zj (x4 + 1), zj (zgi l_4 x4)] [] w ov w' c s) ∧ (¬ ((zgi l_4 x4) < 0) → Zr sc 133 13 [zp a0, zj (x1 + 1), zp a2, zj x3, zj (x4 + 1), zj (zgi l_4 x4)] [] w ov w' c s))))))))) : Zr sc 133 13 [zp a0, zj x1, zp a2, zj x3, zj x4, v5] [] w ov w' c s := by
  refine Zr_st (q := (15, [zp a0, zj x1, zp a2, zj x3, zj x4, v5], [zj x4])) rfl rfl rfl ?_
  show Zr sc 133 15 [zp a0, zj x1, zp a2, zj x3, zj x4, v5] [zj x4] w ov w' c s
  refine Zr_st (q := (16, [zp a0, zj x1, zp a2, zj x3, zj x4, v5], [zj x3, zj x4])) rfl rfl rfl ?_
  show Zr sc 133 16 [zp a0, zj x1, zp a2, zj x3, zj x4, v5] [zj x3, zj x4] w ov w' c s
  obtain ⟨hr_1, h⟩ := h
  refine Zr_br (p := x3 ≤ x4) rfl rfl (zcmp_j (cnd := .ge) hr_1.1 hr_1.2) (fun hp => ?_) (fun hp => ?_)
  · replace h := h.1 hp
    show Zr sc 133 44 [zp a0, zj x1, zp a2, zj x3, zj x4, v5] [] w ov w' c s
    refine Zr_st (q := (45, [zp a0, zj x1, zp a2, zj x3, zj x4, v5], [zj x1])) rfl rfl rfl ?_
    show Zr sc 133 45 [zp a0, zj x1, zp a2, zj x3, zj x4, v5] [zj x1] w ov w' c s
    obtain ⟨h1, h2, h3, h4⟩ := h
    subst h1; subst h2; subst h3; subst h4
    exact Zr_ret (ins := .ireturn) rfl rfl
  · replace h := h.2 hp
    show Zr sc 133 19 [zp a0, zj x1, zp a2, zj x3, zj x4, v5] [] w ov w' c s
    refine Zr_st (q := (20, [zp a0, zj x1, zp a2, zj x3, zj x4, v5], [zp a2])) rfl rfl rfl ?_
    show Zr sc 133 20 [zp a0, zj x1, zp a2, zj x3, zj x4, v5] [zp a2] w ov w' c s
    refine Zr_st (q := (22, [zp a0, zj x1, zp a2, zj x3, zj x4, v5], [zj x4, zp a2])) rfl rfl rfl ?_
    show Zr sc 133 22 [zp a0, zj x1, zp a2, zj x3, zj x4, v5] [zj x4, zp a2] w ov w' c s
    obtain ⟨l_4, hw_3, h⟩ := h
    obtain ⟨hi_2, h⟩ := h
    refine rl_ia rfl hw_3 hi_2.1 hi_2.2.1 hi_2.2.2 ?_
    show Zr sc 133 23 [zp a0, zj x1, zp a2, zj x3, zj x4, v5] [zj (zgi l_4 x4)] w ov w' c s
    refine Zr_st (q := (25, [zp a0, zj x1, zp a2, zj x3, zj x4, zj (zgi l_4 x4)], [])) rfl rfl rfl ?_
    show Zr sc 133 25 [zp a0, zj x1, zp a2, zj x3, zj x4, zj (zgi l_4 x4)] [] w ov w' c s
    refine Zr_st (q := (26, [zp a0, zj x1, zp a2, zj x3, zj x4, zj (zgi l_4 x4)], [zj x1])) rfl rfl rfl ?_
    show Zr sc 133 26 [zp a0, zj x1, zp a2, zj x3, zj x4, zj (zgi l_4 x4)] [zj x1] w ov w' c s
    refine Zr_st (q := (28, [zp a0, zj x1, zp a2, zj x3, zj x4, zj (zgi l_4 x4)], [zj (zgi l_4 x4), zj x1])) rfl rfl rfl ?_
    show Zr sc 133 28 [zp a0, zj x1, zp a2, zj x3, zj x4, zj (zgi l_4 x4)] [zj (zgi l_4 x4), zj x1] w ov w' c s
    obtain ⟨hr_5, h⟩ := h
    refine Zr_b0 (p := (zgi l_4 x4) < 0) rfl rfl (zcmp_0 (cnd := .lt) hr_5) (fun hp => ?_) (fun hp => ?_)
    · replace h := h.1 hp
      show Zr sc 133 35 [zp a0, zj x1, zp a2, zj x3, zj x4, zj (zgi l_4 x4)] [zj x1] w ov w' c s
      refine rl_ic rfl ?_
      show Zr sc 133 36 [zp a0, zj x1, zp a2, zj x3, zj x4, zj (zgi l_4 x4)] [zj 0, zj x1] w ov w' c s
      refine rl_add rfl ?_
      show Zr sc 133 37 [zp a0, zj x1, zp a2, zj x3, zj x4, zj (zgi l_4 x4)] [zj (x1 + 0)] w ov w' c s
      refine Zr_st (q := (38, [zp a0, zj (x1 + 0), zp a2, zj x3, zj x4, zj (zgi l_4 x4)], [])) rfl rfl rfl ?_
      show Zr sc 133 38 [zp a0, zj (x1 + 0), zp a2, zj x3, zj x4, zj (zgi l_4 x4)] [] w ov w' c s
      refine rl_inc rfl rfl rfl rfl ?_
      show Zr sc 133 41 [zp a0, zj (x1 + 0), zp a2, zj x3, zj (x4 + 1), zj (zgi l_4 x4)] [] w ov w' c s
      refine Zr_st (q := (13, [zp a0, zj (x1 + 0), zp a2, zj x3, zj (x4 + 1), zj (zgi l_4 x4)], [])) rfl rfl rfl ?_
      show Zr sc 133 13 [zp a0, zj (x1 + 0), zp a2, zj x3, zj (x4 + 1), zj (zgi l_4 x4)] [] w ov w' c s
      exact h
    · replace h := h.2 hp
      show Zr sc 133 31 [zp a0, zj x1, zp a2, zj x3, zj x4, zj (zgi l_4 x4)] [zj x1] w ov w' c s
      refine rl_ic rfl ?_
      show Zr sc 133 32 [zp a0, zj x1, zp a2, zj x3, zj x4, zj (zgi l_4 x4)] [zj 1, zj x1] w ov w' c s
      refine Zr_st (q := (36, [zp a0, zj x1, zp a2, zj x3, zj x4, zj (zgi l_4 x4)], [zj 1, zj x1])) rfl rfl rfl ?_
      show Zr sc 133 36 [zp a0, zj x1, zp a2, zj x3, zj x4, zj (zgi l_4 x4)] [zj 1, zj x1] w ov w' c s
      refine rl_add rfl ?_
      show Zr sc 133 37 [zp a0, zj x1, zp a2, zj x3, zj x4, zj (zgi l_4 x4)] [zj (x1 + 1)] w ov w' c s
      refine Zr_st (q := (38, [zp a0, zj (x1 + 1), zp a2, zj x3, zj x4, zj (zgi l_4 x4)], [])) rfl rfl rfl ?_
      show Zr sc 133 38 [zp a0, zj (x1 + 1), zp a2, zj x3, zj x4, zj (zgi l_4 x4)] [] w ov w' c s
      refine rl_inc rfl rfl rfl rfl ?_
      show Zr sc 133 41 [zp a0, zj (x1 + 1), zp a2, zj x3, zj (x4 + 1), zj (zgi l_4 x4)] [] w ov w' c s
      refine Zr_st (q := (13, [zp a0, zj (x1 + 1), zp a2, zj x3, zj (x4 + 1), zj (zgi l_4 x4)], [])) rfl rfl rfl ?_
      show Zr sc 133 13 [zp a0, zj (x1 + 1), zp a2, zj x3, zj (x4 + 1), zj (zgi l_4 x4)] [] w ov w' c s
      exact h

-- HeapwrightLab.ask(I)I
set_option maxRecDepth 100000 in
theorem V134_0 {sc : List Value} {w w' : List zE} {ov : Option Value} {c s : Nat} {a0 : Nat} {x1 : Int} {wy : Int} (L0 : w[a0]? = some (zob 6 [zp (a0 + 1), zp (a0 + 5), zp (a0 + 16), zp (a0 + 27), zp (a0 + 38), zp (a0 + 49), zp (a0 + 60), zj wy])) (h : ((Zc sc 37 [zj x1] w none w 0 0) ∧ (∃ p_5 : Nat, Zc sc 1 [zp a0] w (some (zp p_5)) w 0 0 ∧ (∃ cn_6 : Nat, ∃ fs_7 : List Value, w[p_5]? = some (zob cn_6 fs_7) ∧ (cn_6 = 1 ∨ cn_6 = 2 ∨ cn_6 = 4) ∧ (∃ r_14 : Int, Zc sc 3 [zp p_5] w (some (zj r_14)) w 0 0 ∧ ((zrg r_14 ∧ zrg 80) ∧ ((r_14 < 80 → ((Zc sc 135 [zp a0] w none w 0 0) ∧ (∃ p_20 : Nat, Zc sc 1 [zp a0] w (some (zp p_20)) w 0 0 ∧ (∃ fs_22 : List Value, w[(a0 + 1)]? = some (zob 5 fs_22) ∧ (∃ p_25 : Nat, ∃ w_23 : List zE, Zc sc 136 [zp (a0 + 1), zj 0, zj 0, zj x1] w (some (zp p_25)) w_23 0 0 ∧ (∃ cn_26 : Nat, ∃ fs_27 : List Value, w_23[p_20]? = some (zob cn_26 fs_27) ∧ (cn_26 = 1 ∨ cn_26 = 2 ∨ cn_26 = 4) ∧ (∃ p_34 : Nat, ∃ w_32 : List zE, Zc sc 57 [zp p_20, zp p_25] w_23 (some (zp p_34)) w_32 0 0 ∧ (∃ cn_35 : Nat, ∃ fs_36 : List Value, w_32[p_34]? = some (zob cn_35 fs_36) ∧ (cn_35 = 1 ∨ cn_35 = 2 ∨ cn_35 = 4) ∧ (∃ r_43 : Int, Zc sc 3 [zp p_34] w_32 (some (zj r_43)) w_32 0 0 ∧ (ov = some (zj (r_43 - 1)) ∧ w' = w_32 ∧ c = 0 ∧ s = 0)))))))))) ∧ (¬ (r_14 < 80) → False)))))))) : Zr sc 134 0 [zp a0, zj x1] [] w ov w' c s := by
  refine Zr_st (q := (1, [zp a0, zj x1], [zj x1])) rfl rfl rfl ?_
  show Zr sc 134 1 [zp a0, zj x1] [zj x1] w ov w' c s
  obtain ⟨hk_9, h⟩ := h
  refine rn_cal0 (ins := .invokestatic 80) (rest := []) rfl rfl rfl rfl (zinv_t rfl rfl rfl rfl) rfl rfl hk_9 ?_
  show Zr sc 134 4 [zp a0, zj x1] [] w ov w' c s
  refine Zr_st (q := (5, [zp a0, zj x1], [zp a0])) rfl rfl rfl ?_
  show Zr sc 134 5 [zp a0, zj x1] [zp a0] w ov w' c s
  obtain ⟨p_5, hk_9, h⟩ := h
  refine rn_cal0 (ins := .invokevirtual 83) (rest := []) rfl rfl rfl rfl (zinv_v (fs := _) L0 rfl rfl rfl rfl) rfl rfl hk_9 ?_
  show Zr sc 134 8 [zp a0, zj x1] [zp p_5] w ov w' c s
  obtain ⟨cn_6, fs_7, hw_8, hcn_9, h⟩ := h
  have hz_10 : ∃ kd, zinv 134 (.invokevirtual 87) [zp p_5] (false, w) = some (kd, 3, [zp p_5], []) ∧ decide (kd < 6) = true := by rcases hcn_9 with rfl | rfl | rfl <;> exact zinv_u hw_8 rfl rfl rfl rfl rfl rfl rfl
  obtain ⟨kd_11, hz_10⟩ := hz_10
  obtain ⟨r_14, hk_9, h⟩ := h
  refine rn_cal0 (ins := .invokevirtual 87) (rest := []) rfl rfl rfl rfl hz_10.1 rfl hz_10.2 hk_9 ?_
  show Zr sc 134 11 [zp a0, zj x1] [zj r_14] w ov w' c s
  refine rl_bi rfl (by decide) ?_
  show Zr sc 134 13 [zp a0, zj x1] [zj 80, zj r_14] w ov w' c s
  obtain ⟨hr_15, h⟩ := h
  refine Zr_br (p := r_14 < 80) rfl rfl (zcmp_j (cnd := .lt) hr_15.1 hr_15.2) (fun hp => ?_) (fun hp => ?_)
  · replace h := h.1 hp
    show Zr sc 134 26 [zp a0, zj x1] [] w ov w' c s
    refine Zr_st (q := (27, [zp a0, zj x1], [zp a0])) rfl rfl rfl ?_
    show Zr sc 134 27 [zp a0, zj x1] [zp a0] w ov w' c s
    obtain ⟨hk_9, h⟩ := h
    refine rn_cal0 (ins := .invokevirtual 96) (rest := []) rfl rfl rfl rfl (zinv_v (fs := _) L0 rfl rfl rfl rfl) rfl rfl hk_9 ?_
    show Zr sc 134 30 [zp a0, zj x1] [] w ov w' c s
    refine Zr_st (q := (31, [zp a0, zj x1], [zp a0])) rfl rfl rfl ?_
    show Zr sc 134 31 [zp a0, zj x1] [zp a0] w ov w' c s
    obtain ⟨p_20, hk_9, h⟩ := h
    refine rn_cal0 (ins := .invokevirtual 83) (rest := []) rfl rfl rfl rfl (zinv_v (fs := _) L0 rfl rfl rfl rfl) rfl rfl hk_9 ?_
    show Zr sc 134 34 [zp a0, zj x1] [zp p_20] w ov w' c s
    refine Zr_st (q := (35, [zp a0, zj x1], [zp a0, zp p_20])) rfl rfl rfl ?_
    show Zr sc 134 35 [zp a0, zj x1] [zp a0, zp p_20] w ov w' c s
    refine rl_gf rfl L0 rfl rfl ?_
    show Zr sc 134 38 [zp a0, zj x1] [zp (a0 + 1), zp p_20] w ov w' c s
    refine rl_ic rfl ?_
    show Zr sc 134 39 [zp a0, zj x1] [zj 0, zp (a0 + 1), zp p_20] w ov w' c s
    refine rl_ic rfl ?_
    show Zr sc 134 40 [zp a0, zj x1] [zj 0, zj 0, zp (a0 + 1), zp p_20] w ov w' c s
    refine Zr_st (q := (41, [zp a0, zj x1], [zj x1, zj 0, zj 0, zp (a0 + 1), zp p_20])) rfl rfl rfl ?_
    show Zr sc 134 41 [zp a0, zj x1] [zj x1, zj 0, zj 0, zp (a0 + 1), zp p_20] w ov w' c s
    obtain ⟨fs_22, hl_21, h⟩ := h
    obtain ⟨p_25, w_23, hk_24, h⟩ := h
    refine rn_cal0 (ins := .invokevirtual 99) (rest := [zp p_20]) rfl rfl rfl rfl (zinv_v (fs := _) hl_21 rfl rfl rfl rfl) rfl rfl hk_24 ?_
    show Zr sc 134 44 [zp a0, zj x1] [zp p_25, zp p_20] w_23 ov w' c s
    obtain ⟨cn_26, fs_27, hw_28, hcn_29, h⟩ := h
    have hz_30 : ∃ kd, zinv 134 (.invokevirtual 103) [zp p_25, zp p_20] (false, w_23) = some (kd, 57, [zp p_20, zp p_25], []) ∧ decide (kd < 6) = true := by rcases hcn_29 with rfl | rfl | rfl <;> exact zinv_u hw_28 rfl rfl rfl rfl rfl rfl rfl
    obtain ⟨kd_31, hz_30⟩ := hz_30
    obtain ⟨p_34, w_32, hk_33, h⟩ := h
    refine rn_cal0 (ins := .invokevirtual 103) (rest := []) rfl rfl rfl rfl hz_30.1 rfl hz_30.2 hk_33 ?_
    show Zr sc 134 47 [zp a0, zj x1] [zp p_34] w_32 ov w' c s
    obtain ⟨cn_35, fs_36, hw_37, hcn_38, h⟩ := h
    have hz_39 : ∃ kd, zinv 134 (.invokevirtual 87) [zp p_34] (false, w_32) = some (kd, 3, [zp p_34], []) ∧ decide (kd < 6) = true := by rcases hcn_38 with rfl | rfl | rfl <;> exact zinv_u hw_37 rfl rfl rfl rfl rfl rfl rfl
    obtain ⟨kd_40, hz_39⟩ := hz_39
    obtain ⟨r_43, hk_9, h⟩ := h
    refine rn_cal0 (ins := .invokevirtual 87) (rest := []) rfl rfl rfl rfl hz_39.1 rfl hz_39.2 hk_9 ?_
    show Zr sc 134 50 [zp a0, zj x1] [zj r_43] w_32 ov w' c s
    refine rl_ic rfl ?_
    show Zr sc 134 51 [zp a0, zj x1] [zj 1, zj r_43] w_32 ov w' c s
    refine rl_sub rfl ?_
    show Zr sc 134 52 [zp a0, zj x1] [zj (r_43 - 1)] w_32 ov w' c s
    obtain ⟨h1, h2, h3, h4⟩ := h
    subst h1; subst h2; subst h3; subst h4
    exact Zr_ret (ins := .ireturn) rfl rfl
  · replace h := h.2 hp
    show Zr sc 134 16 [zp a0, zj x1] [] w ov w' c s
    exact h.elim

-- HeapwrightLab.requireFreeDeed()V
set_option maxRecDepth 100000 in
theorem V135_0 {sc : List Value} {w w' : List zE} {ov : Option Value} {c s : Nat} {a0 : Nat} {wy : Int} (L0 : w[a0]? = some (zob 6 [zp (a0 + 1), zp (a0 + 5), zp (a0 + 16), zp (a0 + 27), zp (a0 + 38), zp (a0 + 49), zp (a0 + 60), zj wy])) (h : (∃ fs_2 : List Value, w[(a0 + 1)]? = some (zob 5 fs_2) ∧ (∃ r_5 : Int, Zc sc 58 [zp (a0 + 1)] w (some (zj r_5)) w 0 0 ∧ ((zrg r_5 ∧ zrg 150) ∧ ((r_5 < 150 → (ov = none ∧ w' = w ∧ c = 0 ∧ s = 0)) ∧ (¬ (r_5 < 150) → False)))))) : Zr sc 135 0 [zp a0] [] w ov w' c s := by
  refine Zr_st (q := (1, [zp a0], [zp a0])) rfl rfl rfl ?_
  show Zr sc 135 1 [zp a0] [zp a0] w ov w' c s
  refine rl_gf rfl L0 rfl rfl ?_
  show Zr sc 135 4 [zp a0] [zp (a0 + 1)] w ov w' c s
  obtain ⟨fs_2, hl_1, h⟩ := h
  obtain ⟨r_5, hk_9, h⟩ := h
  refine rn_cal0 (ins := .invokevirtual 141) (rest := []) rfl rfl rfl rfl (zinv_v (fs := _) hl_1 rfl rfl rfl rfl) rfl rfl hk_9 ?_
  show Zr sc 135 7 [zp a0] [zj r_5] w ov w' c s
  refine rl_si rfl (by decide) ?_
  show Zr sc 135 10 [zp a0] [zj 150, zj r_5] w ov w' c s
  obtain ⟨hr_6, h⟩ := h
  refine Zr_br (p := r_5 < 150) rfl rfl (zcmp_j (cnd := .lt) hr_6.1 hr_6.2) (fun hp => ?_) (fun hp => ?_)
  · replace h := h.1 hp
    show Zr sc 135 23 [zp a0] [] w ov w' c s
    obtain ⟨h1, h2, h3, h4⟩ := h
    subst h1; subst h2; subst h3; subst h4
    exact Zr_ret (ins := .return_) rfl rfl
  · replace h := h.2 hp
    show Zr sc 135 13 [zp a0] [] w ov w' c s
    exact h.elim

