/-! ===== regions: the class ===== -/
-- HeapwrightLab.names()I
set_option maxRecDepth 100000 in
theorem V0_0 {sc : List Value} {w w' : List zE} {ov : Option Value} {c s : Nat} {a0 : Nat} {wy : Int} (L0 : w[a0]? = some (zob 6 [zp (a0 + 1), zp (a0 + 5), zp (a0 + 16), zp (a0 + 27), zp (a0 + 38), zp (a0 + 49), zp (a0 + 60), zj wy])) (h : (∃ p_3 : Nat, Zc sc 1 [zp a0] w (some (zp p_3)) w 0 0 ∧ (∃ cn_4 : Nat, ∃ fs_5 : List Value, w[p_3]? = some (zob cn_4 fs_5) ∧ (cn_4 = 1 ∨ cn_4 = 2 ∨ cn_4 = 4) ∧ (∃ r_12 : Int, Zc sc 3 [zp p_3] w (some (zj r_12)) w 0 0 ∧ (ov = some (zj r_12) ∧ w' = w ∧ c = 0 ∧ s = 0))))) : Zr sc 0 0 [zp a0] [] w ov w' c s := by
  refine Zr_st (q := (1, [zp a0], [zp a0])) rfl rfl rfl ?_
  show Zr sc 0 1 [zp a0] [zp a0] w ov w' c s
  obtain ⟨p_3, hk_9, h⟩ := h
  refine rn_cal0 (ins := .invokevirtual 83) (rest := []) rfl rfl rfl rfl (zinv_v (fs := _) L0 rfl rfl rfl rfl) rfl rfl hk_9 ?_
  show Zr sc 0 4 [zp a0] [zp p_3] w ov w' c s
  obtain ⟨cn_4, fs_5, hw_6, hcn_7, h⟩ := h
  have hz_8 : ∃ kd, zinv 0 (.invokevirtual 87) [zp p_3] (false, w) = some (kd, 3, [zp p_3], []) ∧ decide (kd < 6) = true := by rcases hcn_7 with rfl | rfl | rfl <;> exact zinv_u hw_6 rfl rfl rfl rfl rfl rfl rfl
  obtain ⟨kd_9, hz_8⟩ := hz_8
  obtain ⟨r_12, hk_9, h⟩ := h
  refine rn_cal0 (ins := .invokevirtual 87) (rest := []) rfl rfl rfl rfl hz_8.1 rfl hz_8.2 hk_9 ?_
  show Zr sc 0 7 [zp a0] [zj r_12] w ov w' c s
  obtain ⟨h1, h2, h3, h4⟩ := h
  subst h1; subst h2; subst h3; subst h4
  exact Zr_ret (ins := .ireturn) rfl rfl

-- HeapwrightLab.present()LHeapwrightLab$Memory;
set_option maxRecDepth 100000 in
theorem V1_0 {sc : List Value} {w w' : List zE} {ov : Option Value} {c s : Nat} {a0 : Nat} {wy : Int} (L0 : w[a0]? = some (zob 6 [zp (a0 + 1), zp (a0 + 5), zp (a0 + 16), zp (a0 + 27), zp (a0 + 38), zp (a0 + 49), zp (a0 + 60), zj wy])) (h : (∃ p_3 : Nat, Zc sc 2 [zp a0, zj wy] w (some (zp p_3)) w 0 0 ∧ (ov = some (zp p_3) ∧ w' = w ∧ c = 0 ∧ s = 0))) : Zr sc 1 0 [zp a0] [] w ov w' c s := by
  refine Zr_st (q := (1, [zp a0], [zp a0])) rfl rfl rfl ?_
  show Zr sc 1 1 [zp a0] [zp a0] w ov w' c s
  refine Zr_st (q := (2, [zp a0], [zp a0, zp a0])) rfl rfl rfl ?_
  show Zr sc 1 2 [zp a0] [zp a0, zp a0] w ov w' c s
  refine rl_gf rfl L0 rfl rfl ?_
  show Zr sc 1 5 [zp a0] [zj wy, zp a0] w ov w' c s
  obtain ⟨p_3, hk_9, h⟩ := h
  refine rn_cal0 (ins := .invokevirtual 70) (rest := []) rfl rfl rfl rfl (zinv_v (fs := _) L0 rfl rfl rfl rfl) rfl rfl hk_9 ?_
  show Zr sc 1 8 [zp a0] [zp p_3] w ov w' c s
  obtain ⟨h1, h2, h3, h4⟩ := h
  subst h1; subst h2; subst h3; subst h4
  exact Zr_ret (ins := .areturn) rfl rfl

-- HeapwrightLab.memoryOf(I)LHeapwrightLab$Memory;
set_option maxRecDepth 100000 in
theorem V2_0 {sc : List Value} {w w' : List zE} {ov : Option Value} {c s : Nat} {a0 : Nat} {x1 : Int} {wy : Int} (L0 : w[a0]? = some (zob 6 [zp (a0 + 1), zp (a0 + 5), zp (a0 + 16), zp (a0 + 27), zp (a0 + 38), zp (a0 + 49), zp (a0 + 60), zj wy])) (h : ((zrg x1) ∧ (((x1 < 0 ∨ 4 < x1) → (ov = some (zp (a0 + 60)) ∧ w' = w ∧ c = 0 ∧ s = 0)) ∧ (x1 = 0 → (ov = some (zp (a0 + 5)) ∧ w' = w ∧ c = 0 ∧ s = 0)) ∧ (x1 = 1 → (ov = some (zp (a0 + 16)) ∧ w' = w ∧ c = 0 ∧ s = 0)) ∧ (x1 = 2 → (ov = some (zp (a0 + 27)) ∧ w' = w ∧ c = 0 ∧ s = 0)) ∧ (x1 = 3 → (ov = some (zp (a0 + 38)) ∧ w' = w ∧ c = 0 ∧ s = 0)) ∧ (x1 = 4 → (ov = some (zp (a0 + 49)) ∧ w' = w ∧ c = 0 ∧ s = 0))))) : Zr sc 2 0 [zp a0, zj x1] [] w ov w' c s := by
  refine Zr_st (q := (1, [zp a0, zj x1], [zj x1])) rfl rfl rfl ?_
  show Zr sc 2 1 [zp a0, zj x1] [zj x1] w ov w' c s
  obtain ⟨hr_1, h⟩ := h
  have hsw : (x1 < 0 ∨ 4 < x1) ∨ x1 = 0 ∨ x1 = 1 ∨ x1 = 2 ∨ x1 = 3 ∨ x1 = 4 := by omega
  rcases hsw with hp | hp | hp | hp | hp | hp
  · replace h := h.1 hp
    refine rl_sw (t := 61) rfl hr_1 (zsw_d hp rfl) ?_
    show Zr sc 2 61 [zp a0, zj x1] [] w ov w' c s
    refine Zr_st (q := (62, [zp a0, zj x1], [zp a0])) rfl rfl rfl ?_
    show Zr sc 2 62 [zp a0, zj x1] [zp a0] w ov w' c s
    refine rl_gf rfl L0 rfl rfl ?_
    show Zr sc 2 65 [zp a0, zj x1] [zp (a0 + 60)] w ov w' c s
    obtain ⟨h1, h2, h3, h4⟩ := h
    subst h1; subst h2; subst h3; subst h4
    exact Zr_ret (ins := .areturn) rfl rfl
  · replace h := h.2.1 hp
    refine rl_sw (t := 36) rfl hr_1 (by rw [hp]; rfl) ?_
    show Zr sc 2 36 [zp a0, zj x1] [] w ov w' c s
    refine Zr_st (q := (37, [zp a0, zj x1], [zp a0])) rfl rfl rfl ?_
    show Zr sc 2 37 [zp a0, zj x1] [zp a0] w ov w' c s
    refine rl_gf rfl L0 rfl rfl ?_
    show Zr sc 2 40 [zp a0, zj x1] [zp (a0 + 5)] w ov w' c s
    obtain ⟨h1, h2, h3, h4⟩ := h
    subst h1; subst h2; subst h3; subst h4
    exact Zr_ret (ins := .areturn) rfl rfl
  · replace h := h.2.2.1 hp
    refine rl_sw (t := 41) rfl hr_1 (by rw [hp]; rfl) ?_
    show Zr sc 2 41 [zp a0, zj x1] [] w ov w' c s
    refine Zr_st (q := (42, [zp a0, zj x1], [zp a0])) rfl rfl rfl ?_
    show Zr sc 2 42 [zp a0, zj x1] [zp a0] w ov w' c s
    refine rl_gf rfl L0 rfl rfl ?_
    show Zr sc 2 45 [zp a0, zj x1] [zp (a0 + 16)] w ov w' c s
    obtain ⟨h1, h2, h3, h4⟩ := h
    subst h1; subst h2; subst h3; subst h4
    exact Zr_ret (ins := .areturn) rfl rfl
  · replace h := h.2.2.2.1 hp
    refine rl_sw (t := 46) rfl hr_1 (by rw [hp]; rfl) ?_
    show Zr sc 2 46 [zp a0, zj x1] [] w ov w' c s
    refine Zr_st (q := (47, [zp a0, zj x1], [zp a0])) rfl rfl rfl ?_
    show Zr sc 2 47 [zp a0, zj x1] [zp a0] w ov w' c s
    refine rl_gf rfl L0 rfl rfl ?_
    show Zr sc 2 50 [zp a0, zj x1] [zp (a0 + 27)] w ov w' c s
    obtain ⟨h1, h2, h3, h4⟩ := h
    subst h1; subst h2; subst h3; subst h4
    exact Zr_ret (ins := .areturn) rfl rfl
  · replace h := h.2.2.2.2.1 hp
    refine rl_sw (t := 51) rfl hr_1 (by rw [hp]; rfl) ?_
    show Zr sc 2 51 [zp a0, zj x1] [] w ov w' c s
    refine Zr_st (q := (52, [zp a0, zj x1], [zp a0])) rfl rfl rfl ?_
    show Zr sc 2 52 [zp a0, zj x1] [zp a0] w ov w' c s
    refine rl_gf rfl L0 rfl rfl ?_
    show Zr sc 2 55 [zp a0, zj x1] [zp (a0 + 38)] w ov w' c s
    obtain ⟨h1, h2, h3, h4⟩ := h
    subst h1; subst h2; subst h3; subst h4
    exact Zr_ret (ins := .areturn) rfl rfl
  · replace h := h.2.2.2.2.2 hp
    refine rl_sw (t := 56) rfl hr_1 (by rw [hp]; rfl) ?_
    show Zr sc 2 56 [zp a0, zj x1] [] w ov w' c s
    refine Zr_st (q := (57, [zp a0, zj x1], [zp a0])) rfl rfl rfl ?_
    show Zr sc 2 57 [zp a0, zj x1] [zp a0] w ov w' c s
    refine rl_gf rfl L0 rfl rfl ?_
    show Zr sc 2 60 [zp a0, zj x1] [zp (a0 + 49)] w ov w' c s
    obtain ⟨h1, h2, h3, h4⟩ := h
    subst h1; subst h2; subst h3; subst h4
    exact Zr_ret (ins := .areturn) rfl rfl

-- HeapwrightLab$Memory.namesGiven()I
set_option maxRecDepth 100000 in
theorem V3_0_1 {sc : List Value} {w w' : List zE} {ov : Option Value} {c s : Nat} {a0 : Nat} {wy : Int} {st : Int} {hd : Int} {hn : Int} {sn : Int} {nm : Int} {ar : Int} {pk : Int} {dn : Int} (L0 : w[a0]? = some (zob 1 [zp (a0 + 1), zp (a0 + 6), zj wy, zj st, zj hd, zj hn, zj sn, zp (a0 + 9), zp (a0 + 10), zj nm, zj ar, zj pk, zj dn])) (h : (ov = some (zj nm) ∧ w' = w ∧ c = 0 ∧ s = 0)) : Zr sc 3 0 [zp a0] [] w ov w' c s := by
  refine Zr_st (q := (1, [zp a0], [zp a0])) rfl rfl rfl ?_
  show Zr sc 3 1 [zp a0] [zp a0] w ov w' c s
  refine rl_gf rfl L0 rfl rfl ?_
  show Zr sc 3 4 [zp a0] [zj nm] w ov w' c s
  obtain ⟨h1, h2, h3, h4⟩ := h
  subst h1; subst h2; subst h3; subst h4
  exact Zr_ret (ins := .ireturn) rfl rfl

-- HeapwrightLab$Memory.namesGiven()I
set_option maxRecDepth 100000 in
theorem V3_0_2 {sc : List Value} {w w' : List zE} {ov : Option Value} {c s : Nat} {a0 : Nat} {wy : Int} {st : Int} {hd : Int} {hn : Int} {sn : Int} {nm : Int} {ar : Int} {pk : Int} {dn : Int} (L0 : w[a0]? = some (zob 2 [zp (a0 + 1), zp (a0 + 6), zj wy, zj st, zj hd, zj hn, zj sn, zp (a0 + 9), zp (a0 + 10), zj nm, zj ar, zj pk, zj dn])) (h : (ov = some (zj nm) ∧ w' = w ∧ c = 0 ∧ s = 0)) : Zr sc 3 0 [zp a0] [] w ov w' c s := by
  refine Zr_st (q := (1, [zp a0], [zp a0])) rfl rfl rfl ?_
  show Zr sc 3 1 [zp a0] [zp a0] w ov w' c s
  refine rl_gf rfl L0 rfl rfl ?_
  show Zr sc 3 4 [zp a0] [zj nm] w ov w' c s
  obtain ⟨h1, h2, h3, h4⟩ := h
  subst h1; subst h2; subst h3; subst h4
  exact Zr_ret (ins := .ireturn) rfl rfl

-- HeapwrightLab$Memory.namesGiven()I
set_option maxRecDepth 100000 in
theorem V3_0_4 {sc : List Value} {w w' : List zE} {ov : Option Value} {c s : Nat} {a0 : Nat} {wy : Int} {st : Int} {hd : Int} {hn : Int} {sn : Int} {nm : Int} {ar : Int} {pk : Int} {dn : Int} (L0 : w[a0]? = some (zob 4 [zp (a0 + 1), zp (a0 + 6), zj wy, zj st, zj hd, zj hn, zj sn, zp (a0 + 9), zp (a0 + 10), zj nm, zj ar, zj pk, zj dn, zp (a0 + 11)])) (h : (ov = some (zj nm) ∧ w' = w ∧ c = 0 ∧ s = 0)) : Zr sc 3 0 [zp a0] [] w ov w' c s := by
  refine Zr_st (q := (1, [zp a0], [zp a0])) rfl rfl rfl ?_
  show Zr sc 3 1 [zp a0] [zp a0] w ov w' c s
  refine rl_gf rfl L0 rfl rfl ?_
  show Zr sc 3 4 [zp a0] [zj nm] w ov w' c s
  obtain ⟨h1, h2, h3, h4⟩ := h
  subst h1; subst h2; subst h3; subst h4
  exact Zr_ret (ins := .ireturn) rfl rfl

-- HeapwrightLab.isThere(I)Z
set_option maxRecDepth 100000 in
theorem V4_0 {sc : List Value} {w w' : List zE} {ov : Option Value} {c s : Nat} {a0 : Nat} {x1 : Int} {wy : Int} (L0 : w[a0]? = some (zob 6 [zp (a0 + 1), zp (a0 + 5), zp (a0 + 16), zp (a0 + 27), zp (a0 + 38), zp (a0 + 49), zp (a0 + 60), zj wy])) (h : ((Zc sc 5 [zp a0, zj x1] w none w 0 0) ∧ (∃ p_5 : Nat, Zc sc 1 [zp a0] w (some (zp p_5)) w 0 0 ∧ (∃ cn_6 : Nat, ∃ fs_7 : List Value, w[p_5]? = some (zob cn_6 fs_7) ∧ (cn_6 = 1 ∨ cn_6 = 2 ∨ cn_6 = 4) ∧ (∃ p_14 : Nat, Zc sc 6 [zp p_5] w (some (zp p_14)) w 0 0 ∧ (∃ fs_16 : List Value, w[p_14]? = some (zob 0 fs_16) ∧ (∃ r_19 : Int, Zc sc 7 [zp p_14, zj x1] w (some (zj r_19)) w 0 0 ∧ ((r_19 = 0 ∨ r_19 = 1) ∧ (ov = some (zj r_19) ∧ w' = w ∧ c = 0 ∧ s = 0))))))))) : Zr sc 4 0 [zp a0, zj x1] [] w ov w' c s := by
  refine Zr_st (q := (1, [zp a0, zj x1], [zp a0])) rfl rfl rfl ?_
  show Zr sc 4 1 [zp a0, zj x1] [zp a0] w ov w' c s
  refine Zr_st (q := (2, [zp a0, zj x1], [zj x1, zp a0])) rfl rfl rfl ?_
  show Zr sc 4 2 [zp a0, zj x1] [zj x1, zp a0] w ov w' c s
  obtain ⟨hk_9, h⟩ := h
  refine rn_cal0 (ins := .invokevirtual 107) (rest := []) rfl rfl rfl rfl (zinv_v (fs := _) L0 rfl rfl rfl rfl) rfl rfl hk_9 ?_
  show Zr sc 4 5 [zp a0, zj x1] [] w ov w' c s
  refine Zr_st (q := (6, [zp a0, zj x1], [zp a0])) rfl rfl rfl ?_
  show Zr sc 4 6 [zp a0, zj x1] [zp a0] w ov w' c s
  obtain ⟨p_5, hk_9, h⟩ := h
  refine rn_cal0 (ins := .invokevirtual 83) (rest := []) rfl rfl rfl rfl (zinv_v (fs := _) L0 rfl rfl rfl rfl) rfl rfl hk_9 ?_
  show Zr sc 4 9 [zp a0, zj x1] [zp p_5] w ov w' c s
  obtain ⟨cn_6, fs_7, hw_8, hcn_9, h⟩ := h
  have hz_10 : ∃ kd, zinv 4 (.invokevirtual 113) [zp p_5] (false, w) = some (kd, 6, [zp p_5], []) ∧ decide (kd < 6) = true := by rcases hcn_9 with rfl | rfl | rfl <;> exact zinv_u hw_8 rfl rfl rfl rfl rfl rfl rfl
  obtain ⟨kd_11, hz_10⟩ := hz_10
  obtain ⟨p_14, hk_9, h⟩ := h
  refine rn_cal0 (ins := .invokevirtual 113) (rest := []) rfl rfl rfl rfl hz_10.1 rfl hz_10.2 hk_9 ?_
  show Zr sc 4 12 [zp a0, zj x1] [zp p_14] w ov w' c s
  refine Zr_st (q := (13, [zp a0, zj x1], [zj x1, zp p_14])) rfl rfl rfl ?_
  show Zr sc 4 13 [zp a0, zj x1] [zj x1, zp p_14] w ov w' c s
  obtain ⟨fs_16, hl_15, h⟩ := h
  obtain ⟨r_19, hk_9, h⟩ := h
  refine rn_cal0 (ins := .invokevirtual 144) (rest := []) rfl rfl rfl rfl (zinv_v (fs := _) hl_15 rfl rfl rfl rfl) rfl rfl hk_9 ?_
  show Zr sc 4 16 [zp a0, zj x1] [zj r_19] w ov w' c s
  obtain ⟨hb_20, h⟩ := h
  obtain ⟨h1, h2, h3, h4⟩ := h
  subst h1; subst h2; subst h3; subst h4
  exact Zr_retb rfl rfl hb_20

-- HeapwrightLab.requireName(I)V
set_option maxRecDepth 100000 in
theorem V5_0 {sc : List Value} {w w' : List zE} {ov : Option Value} {c s : Nat} {a0 : Nat} {x1 : Int} {wy : Int} (L0 : w[a0]? = some (zob 6 [zp (a0 + 1), zp (a0 + 5), zp (a0 + 16), zp (a0 + 27), zp (a0 + 38), zp (a0 + 49), zp (a0 + 60), zj wy])) (h : ((zrg x1) ∧ ((x1 < 0 → False) ∧ (¬ (x1 < 0) → (∃ p_4 : Nat, Zc sc 1 [zp a0] w (some (zp p_4)) w 0 0 ∧ (∃ cn_5 : Nat, ∃ fs_6 : List Value, w[p_4]? = some (zob cn_5 fs_6) ∧ (cn_5 = 1 ∨ cn_5 = 2 ∨ cn_5 = 4) ∧ (∃ r_13 : Int, Zc sc 3 [zp p_4] w (some (zj r_13)) w 0 0 ∧ ((zrg x1 ∧ zrg r_13) ∧ ((x1 < r_13 → (ov = none ∧ w' = w ∧ c = 0 ∧ s = 0)) ∧ (¬ (x1 < r_13) → False)))))))))) : Zr sc 5 0 [zp a0, zj x1] [] w ov w' c s := by
  refine Zr_st (q := (1, [zp a0, zj x1], [zj x1])) rfl rfl rfl ?_
  show Zr sc 5 1 [zp a0, zj x1] [zj x1] w ov w' c s
  obtain ⟨hr_1, h⟩ := h
  refine Zr_b0 (p := x1 < 0) rfl rfl (zcmp_0 (cnd := .lt) hr_1) (fun hp => ?_) (fun hp => ?_)
  · replace h := h.1 hp
    show Zr sc 5 15 [zp a0, zj x1] [] w ov w' c s
    exact h.elim
  · replace h := h.2 hp
    show Zr sc 5 4 [zp a0, zj x1] [] w ov w' c s
    refine Zr_st (q := (5, [zp a0, zj x1], [zj x1])) rfl rfl rfl ?_
    show Zr sc 5 5 [zp a0, zj x1] [zj x1] w ov w' c s
    refine Zr_st (q := (6, [zp a0, zj x1], [zp a0, zj x1])) rfl rfl rfl ?_
    show Zr sc 5 6 [zp a0, zj x1] [zp a0, zj x1] w ov w' c s
    obtain ⟨p_4, hk_9, h⟩ := h
    refine rn_cal0 (ins := .invokevirtual 83) (rest := [zj x1]) rfl rfl rfl rfl (zinv_v (fs := _) L0 rfl rfl rfl rfl) rfl rfl hk_9 ?_
    show Zr sc 5 9 [zp a0, zj x1] [zp p_4, zj x1] w ov w' c s
    obtain ⟨cn_5, fs_6, hw_7, hcn_8, h⟩ := h
    have hz_9 : ∃ kd, zinv 5 (.invokevirtual 87) [zp p_4, zj x1] (false, w) = some (kd, 3, [zp p_4], [zj x1]) ∧ decide (kd < 6) = true := by rcases hcn_8 with rfl | rfl | rfl <;> exact zinv_u hw_7 rfl rfl rfl rfl rfl rfl rfl
    obtain ⟨kd_10, hz_9⟩ := hz_9
    obtain ⟨r_13, hk_9, h⟩ := h
    refine rn_cal0 (ins := .invokevirtual 87) (rest := [zj x1]) rfl rfl rfl rfl hz_9.1 rfl hz_9.2 hk_9 ?_
    show Zr sc 5 12 [zp a0, zj x1] [zj r_13, zj x1] w ov w' c s
    obtain ⟨hr_14, h⟩ := h
    refine Zr_br (p := x1 < r_13) rfl rfl (zcmp_j (cnd := .lt) hr_14.1 hr_14.2) (fun hp => ?_) (fun hp => ?_)
    · replace h := h.1 hp
      show Zr sc 5 25 [zp a0, zj x1] [] w ov w' c s
      obtain ⟨h1, h2, h3, h4⟩ := h
      subst h1; subst h2; subst h3; subst h4
      exact Zr_ret (ins := .return_) rfl rfl
    · replace h := h.2 hp
      show Zr sc 5 15 [zp a0, zj x1] [] w ov w' c s
      exact h.elim

-- HeapwrightLab$Memory.standing()LHeapwrightLab$Blocks;
set_option maxRecDepth 100000 in
theorem V6_0_1 {sc : List Value} {w w' : List zE} {ov : Option Value} {c s : Nat} {a0 : Nat} {wy : Int} {st : Int} {hd : Int} {hn : Int} {sn : Int} {nm : Int} {ar : Int} {pk : Int} {dn : Int} (L0 : w[a0]? = some (zob 1 [zp (a0 + 1), zp (a0 + 6), zj wy, zj st, zj hd, zj hn, zj sn, zp (a0 + 9), zp (a0 + 10), zj nm, zj ar, zj pk, zj dn])) (h : (ov = some (zp (a0 + 1)) ∧ w' = w ∧ c = 0 ∧ s = 0)) : Zr sc 6 0 [zp a0] [] w ov w' c s := by
  refine Zr_st (q := (1, [zp a0], [zp a0])) rfl rfl rfl ?_
  show Zr sc 6 1 [zp a0] [zp a0] w ov w' c s
  refine rl_gf rfl L0 rfl rfl ?_
  show Zr sc 6 4 [zp a0] [zp (a0 + 1)] w ov w' c s
  obtain ⟨h1, h2, h3, h4⟩ := h
  subst h1; subst h2; subst h3; subst h4
  exact Zr_ret (ins := .areturn) rfl rfl

-- HeapwrightLab$Memory.standing()LHeapwrightLab$Blocks;
set_option maxRecDepth 100000 in
theorem V6_0_2 {sc : List Value} {w w' : List zE} {ov : Option Value} {c s : Nat} {a0 : Nat} {wy : Int} {st : Int} {hd : Int} {hn : Int} {sn : Int} {nm : Int} {ar : Int} {pk : Int} {dn : Int} (L0 : w[a0]? = some (zob 2 [zp (a0 + 1), zp (a0 + 6), zj wy, zj st, zj hd, zj hn, zj sn, zp (a0 + 9), zp (a0 + 10), zj nm, zj ar, zj pk, zj dn])) (h : (ov = some (zp (a0 + 1)) ∧ w' = w ∧ c = 0 ∧ s = 0)) : Zr sc 6 0 [zp a0] [] w ov w' c s := by
  refine Zr_st (q := (1, [zp a0], [zp a0])) rfl rfl rfl ?_
  show Zr sc 6 1 [zp a0] [zp a0] w ov w' c s
  refine rl_gf rfl L0 rfl rfl ?_
  show Zr sc 6 4 [zp a0] [zp (a0 + 1)] w ov w' c s
  obtain ⟨h1, h2, h3, h4⟩ := h
  subst h1; subst h2; subst h3; subst h4
  exact Zr_ret (ins := .areturn) rfl rfl

-- HeapwrightLab$Memory.standing()LHeapwrightLab$Blocks;
set_option maxRecDepth 100000 in
theorem V6_0_4 {sc : List Value} {w w' : List zE} {ov : Option Value} {c s : Nat} {a0 : Nat} {wy : Int} {st : Int} {hd : Int} {hn : Int} {sn : Int} {nm : Int} {ar : Int} {pk : Int} {dn : Int} (L0 : w[a0]? = some (zob 4 [zp (a0 + 1), zp (a0 + 6), zj wy, zj st, zj hd, zj hn, zj sn, zp (a0 + 9), zp (a0 + 10), zj nm, zj ar, zj pk, zj dn, zp (a0 + 11)])) (h : (ov = some (zp (a0 + 1)) ∧ w' = w ∧ c = 0 ∧ s = 0)) : Zr sc 6 0 [zp a0] [] w ov w' c s := by
  refine Zr_st (q := (1, [zp a0], [zp a0])) rfl rfl rfl ?_
  show Zr sc 6 1 [zp a0] [zp a0] w ov w' c s
  refine rl_gf rfl L0 rfl rfl ?_
  show Zr sc 6 4 [zp a0] [zp (a0 + 1)] w ov w' c s
  obtain ⟨h1, h2, h3, h4⟩ := h
  subst h1; subst h2; subst h3; subst h4
  exact Zr_ret (ins := .areturn) rfl rfl

-- HeapwrightLab$Blocks.has(I)Z
set_option maxRecDepth 100000 in
theorem V7_0 {sc : List Value} {w w' : List zE} {ov : Option Value} {c s : Nat} {a0 : Nat} {x1 : Int} {ct : Int} {rt : Int} {rm : List Int} (L0 : w[a0]? = some (zob 0 [zp (a0 + 1), zp (a0 + 2), zp (a0 + 3), zp (a0 + 4), zj ct, zj rt])) (L3 : w[(a0 + 3)]? = some (za rm)) (h : ((zrg x1) ∧ ((x1 < 0 → (ov = some (zj 0) ∧ w' = w ∧ c = 0 ∧ s = 0)) ∧ (¬ (x1 < 0) → ((zrg x1 ∧ zrg (rm.length : Int)) ∧ (((rm.length : Int) ≤ x1 → (ov = some (zj 0) ∧ w' = w ∧ c = 0 ∧ s = 0)) ∧ (¬ ((rm.length : Int) ≤ x1) → (((0 : Int) ≤ x1 ∧ x1 < (rm.length : Int) ∧ x1 ≤ (2147483647 : Int)) ∧ ((zrg (zgi rm x1)) ∧ (((zgi rm x1) ≤ 0 → (ov = some (zj 0) ∧ w' = w ∧ c = 0 ∧ s = 0)) ∧ (¬ ((zgi rm x1) ≤ 0) → (ov = some (zj 1) ∧ w' = w ∧ c = 0 ∧ s = 0)))))))))))) : Zr sc 7 0 [zp a0, zj x1] [] w ov w' c s := by
  refine Zr_st (q := (1, [zp a0, zj x1], [zj x1])) rfl rfl rfl ?_
  show Zr sc 7 1 [zp a0, zj x1] [zj x1] w ov w' c s
  obtain ⟨hr_1, h⟩ := h
  refine Zr_b0 (p := x1 < 0) rfl rfl (zcmp_0 (cnd := .lt) hr_1) (fun hp => ?_) (fun hp => ?_)
  · replace h := h.1 hp
    show Zr sc 7 26 [zp a0, zj x1] [] w ov w' c s
    refine rl_ic rfl ?_
    show Zr sc 7 27 [zp a0, zj x1] [zj 0] w ov w' c s
    obtain ⟨h1, h2, h3, h4⟩ := h
    subst h1; subst h2; subst h3; subst h4
    exact Zr_ret (ins := .ireturn) rfl rfl
  · replace h := h.2 hp
    show Zr sc 7 4 [zp a0, zj x1] [] w ov w' c s
    refine Zr_st (q := (5, [zp a0, zj x1], [zj x1])) rfl rfl rfl ?_
    show Zr sc 7 5 [zp a0, zj x1] [zj x1] w ov w' c s
    refine Zr_st (q := (6, [zp a0, zj x1], [zp a0, zj x1])) rfl rfl rfl ?_
    show Zr sc 7 6 [zp a0, zj x1] [zp a0, zj x1] w ov w' c s
    refine rl_gf rfl L0 rfl rfl ?_
    show Zr sc 7 9 [zp a0, zj x1] [zp (a0 + 3), zj x1] w ov w' c s
    refine rl_al rfl L3 ?_
    show Zr sc 7 10 [zp a0, zj x1] [zj (rm.length : Int), zj x1] w ov w' c s
    obtain ⟨hr_2, h⟩ := h
    refine Zr_br (p := (rm.length : Int) ≤ x1) rfl rfl (zcmp_j (cnd := .ge) hr_2.1 hr_2.2) (fun hp => ?_) (fun hp => ?_)
    · replace h := h.1 hp
      show Zr sc 7 26 [zp a0, zj x1] [] w ov w' c s
      refine rl_ic rfl ?_
      show Zr sc 7 27 [zp a0, zj x1] [zj 0] w ov w' c s
      obtain ⟨h1, h2, h3, h4⟩ := h
      subst h1; subst h2; subst h3; subst h4
      exact Zr_ret (ins := .ireturn) rfl rfl
    · replace h := h.2 hp
      show Zr sc 7 13 [zp a0, zj x1] [] w ov w' c s
      refine Zr_st (q := (14, [zp a0, zj x1], [zp a0])) rfl rfl rfl ?_
      show Zr sc 7 14 [zp a0, zj x1] [zp a0] w ov w' c s
      refine rl_gf rfl L0 rfl rfl ?_
      show Zr sc 7 17 [zp a0, zj x1] [zp (a0 + 3)] w ov w' c s
      refine Zr_st (q := (18, [zp a0, zj x1], [zj x1, zp (a0 + 3)])) rfl rfl rfl ?_
      show Zr sc 7 18 [zp a0, zj x1] [zj x1, zp (a0 + 3)] w ov w' c s
      obtain ⟨hi_3, h⟩ := h
      refine rl_ia rfl L3 hi_3.1 hi_3.2.1 hi_3.2.2 ?_
      show Zr sc 7 19 [zp a0, zj x1] [zj (zgi rm x1)] w ov w' c s
      obtain ⟨hr_4, h⟩ := h
      refine Zr_b0 (p := (zgi rm x1) ≤ 0) rfl rfl (zcmp_0 (cnd := .le) hr_4) (fun hp => ?_) (fun hp => ?_)
      · replace h := h.1 hp
        show Zr sc 7 26 [zp a0, zj x1] [] w ov w' c s
        refine rl_ic rfl ?_
        show Zr sc 7 27 [zp a0, zj x1] [zj 0] w ov w' c s
        obtain ⟨h1, h2, h3, h4⟩ := h
        subst h1; subst h2; subst h3; subst h4
        exact Zr_ret (ins := .ireturn) rfl rfl
      · replace h := h.2 hp
        show Zr sc 7 22 [zp a0, zj x1] [] w ov w' c s
        refine rl_ic rfl ?_
        show Zr sc 7 23 [zp a0, zj x1] [zj 1] w ov w' c s
        refine Zr_st (q := (27, [zp a0, zj x1], [zj 1])) rfl rfl rfl ?_
        show Zr sc 7 27 [zp a0, zj x1] [zj 1] w ov w' c s
        obtain ⟨h1, h2, h3, h4⟩ := h
        subst h1; subst h2; subst h3; subst h4
        exact Zr_ret (ins := .ireturn) rfl rfl

-- HeapwrightLab.place(I)I
set_option maxRecDepth 100000 in
theorem V8_0 {sc : List Value} {w w' : List zE} {ov : Option Value} {c s : Nat} {a0 : Nat} {x1 : Int} {wy : Int} (L0 : w[a0]? = some (zob 6 [zp (a0 + 1), zp (a0 + 5), zp (a0 + 16), zp (a0 + 27), zp (a0 + 38), zp (a0 + 49), zp (a0 + 60), zj wy])) (h : ((Zc sc 5 [zp a0, zj x1] w none w 0 0) ∧ (∃ p_5 : Nat, Zc sc 1 [zp a0] w (some (zp p_5)) w 0 0 ∧ (∃ cn_6 : Nat, ∃ fs_7 : List Value, w[p_5]? = some (zob cn_6 fs_7) ∧ (cn_6 = 1 ∨ cn_6 = 2 ∨ cn_6 = 4) ∧ (∃ p_14 : Nat, Zc sc 6 [zp p_5] w (some (zp p_14)) w 0 0 ∧ (∃ fs_16 : List Value, w[p_14]? = some (zob 0 fs_16) ∧ (∃ r_19 : Int, Zc sc 9 [zp p_14, zj x1] w (some (zj r_19)) w 0 0 ∧ (ov = some (zj r_19) ∧ w' = w ∧ c = 0 ∧ s = 0)))))))) : Zr sc 8 0 [zp a0, zj x1] [] w ov w' c s := by
  refine Zr_st (q := (1, [zp a0, zj x1], [zp a0])) rfl rfl rfl ?_
  show Zr sc 8 1 [zp a0, zj x1] [zp a0] w ov w' c s
  refine Zr_st (q := (2, [zp a0, zj x1], [zj x1, zp a0])) rfl rfl rfl ?_
  show Zr sc 8 2 [zp a0, zj x1] [zj x1, zp a0] w ov w' c s
  obtain ⟨hk_9, h⟩ := h
  refine rn_cal0 (ins := .invokevirtual 107) (rest := []) rfl rfl rfl rfl (zinv_v (fs := _) L0 rfl rfl rfl rfl) rfl rfl hk_9 ?_
  show Zr sc 8 5 [zp a0, zj x1] [] w ov w' c s
  refine Zr_st (q := (6, [zp a0, zj x1], [zp a0])) rfl rfl rfl ?_
  show Zr sc 8 6 [zp a0, zj x1] [zp a0] w ov w' c s
  obtain ⟨p_5, hk_9, h⟩ := h
  refine rn_cal0 (ins := .invokevirtual 83) (rest := []) rfl rfl rfl rfl (zinv_v (fs := _) L0 rfl rfl rfl rfl) rfl rfl hk_9 ?_
  show Zr sc 8 9 [zp a0, zj x1] [zp p_5] w ov w' c s
  obtain ⟨cn_6, fs_7, hw_8, hcn_9, h⟩ := h
  have hz_10 : ∃ kd, zinv 8 (.invokevirtual 113) [zp p_5] (false, w) = some (kd, 6, [zp p_5], []) ∧ decide (kd < 6) = true := by rcases hcn_9 with rfl | rfl | rfl <;> exact zinv_u hw_8 rfl rfl rfl rfl rfl rfl rfl
  obtain ⟨kd_11, hz_10⟩ := hz_10
  obtain ⟨p_14, hk_9, h⟩ := h
  refine rn_cal0 (ins := .invokevirtual 113) (rest := []) rfl rfl rfl rfl hz_10.1 rfl hz_10.2 hk_9 ?_
  show Zr sc 8 12 [zp a0, zj x1] [zp p_14] w ov w' c s
  refine Zr_st (q := (13, [zp a0, zj x1], [zj x1, zp p_14])) rfl rfl rfl ?_
  show Zr sc 8 13 [zp a0, zj x1] [zj x1, zp p_14] w ov w' c s
  obtain ⟨fs_16, hl_15, h⟩ := h
  obtain ⟨r_19, hk_9, h⟩ := h
  refine rn_cal0 (ins := .invokevirtual 123) (rest := []) rfl rfl rfl rfl (zinv_v (fs := _) hl_15 rfl rfl rfl rfl) rfl rfl hk_9 ?_
  show Zr sc 8 16 [zp a0, zj x1] [zj r_19] w ov w' c s
  obtain ⟨h1, h2, h3, h4⟩ := h
  subst h1; subst h2; subst h3; subst h4
  exact Zr_ret (ins := .ireturn) rfl rfl

-- HeapwrightLab$Blocks.placeOf(I)I
set_option maxRecDepth 100000 in
theorem V9_0 {sc : List Value} {w w' : List zE} {ov : Option Value} {c s : Nat} {a0 : Nat} {x1 : Int} {ct : Int} {rt : Int} {pl : List Int} (L0 : w[a0]? = some (zob 0 [zp (a0 + 1), zp (a0 + 2), zp (a0 + 3), zp (a0 + 4), zj ct, zj rt])) (L1 : w[(a0 + 1)]? = some (za pl)) (h : (∃ r_3 : Int, Zc sc 7 [zp a0, zj x1] w (some (zj r_3)) w 0 0 ∧ ((zrg r_3) ∧ ((r_3 = 0 → (ov = some (zj (-1)) ∧ w' = w ∧ c = 0 ∧ s = 0)) ∧ (¬ (r_3 = 0) → (((0 : Int) ≤ x1 ∧ x1 < (pl.length : Int) ∧ x1 ≤ (2147483647 : Int)) ∧ (ov = some (zj (zgi pl x1)) ∧ w' = w ∧ c = 0 ∧ s = 0))))))) : Zr sc 9 0 [zp a0, zj x1] [] w ov w' c s := by
  refine Zr_st (q := (1, [zp a0, zj x1], [zp a0])) rfl rfl rfl ?_
  show Zr sc 9 1 [zp a0, zj x1] [zp a0] w ov w' c s
  refine Zr_st (q := (2, [zp a0, zj x1], [zj x1, zp a0])) rfl rfl rfl ?_
  show Zr sc 9 2 [zp a0, zj x1] [zj x1, zp a0] w ov w' c s
  obtain ⟨r_3, hk_9, h⟩ := h
  refine rn_cal0 (ins := .invokevirtual 37) (rest := []) rfl rfl rfl rfl (zinv_v (fs := _) L0 rfl rfl rfl rfl) rfl rfl hk_9 ?_
  show Zr sc 9 5 [zp a0, zj x1] [zj r_3] w ov w' c s
  obtain ⟨hr_4, h⟩ := h
  refine Zr_b0 (p := r_3 = 0) rfl rfl (zcmp_0 (cnd := .eq) hr_4) (fun hp => ?_) (fun hp => ?_)
  · replace h := h.1 hp
    show Zr sc 9 17 [zp a0, zj x1] [] w ov w' c s
    refine rl_ic rfl ?_
    show Zr sc 9 18 [zp a0, zj x1] [zj (-1)] w ov w' c s
    obtain ⟨h1, h2, h3, h4⟩ := h
    subst h1; subst h2; subst h3; subst h4
    exact Zr_ret (ins := .ireturn) rfl rfl
  · replace h := h.2 hp
    show Zr sc 9 8 [zp a0, zj x1] [] w ov w' c s
    refine Zr_st (q := (9, [zp a0, zj x1], [zp a0])) rfl rfl rfl ?_
    show Zr sc 9 9 [zp a0, zj x1] [zp a0] w ov w' c s
    refine rl_gf rfl L0 rfl rfl ?_
    show Zr sc 9 12 [zp a0, zj x1] [zp (a0 + 1)] w ov w' c s
    refine Zr_st (q := (13, [zp a0, zj x1], [zj x1, zp (a0 + 1)])) rfl rfl rfl ?_
    show Zr sc 9 13 [zp a0, zj x1] [zj x1, zp (a0 + 1)] w ov w' c s
    obtain ⟨hi_5, h⟩ := h
    refine rl_ia rfl L1 hi_5.1 hi_5.2.1 hi_5.2.2 ?_
    show Zr sc 9 14 [zp a0, zj x1] [zj (zgi pl x1)] w ov w' c s
    refine Zr_st (q := (18, [zp a0, zj x1], [zj (zgi pl x1)])) rfl rfl rfl ?_
    show Zr sc 9 18 [zp a0, zj x1] [zj (zgi pl x1)] w ov w' c s
    obtain ⟨h1, h2, h3, h4⟩ := h
    subst h1; subst h2; subst h3; subst h4
    exact Zr_ret (ins := .ireturn) rfl rfl

-- HeapwrightLab.size(I)I
set_option maxRecDepth 100000 in
theorem V10_0 {sc : List Value} {w w' : List zE} {ov : Option Value} {c s : Nat} {a0 : Nat} {x1 : Int} {wy : Int} (L0 : w[a0]? = some (zob 6 [zp (a0 + 1), zp (a0 + 5), zp (a0 + 16), zp (a0 + 27), zp (a0 + 38), zp (a0 + 49), zp (a0 + 60), zj wy])) (h : ((Zc sc 5 [zp a0, zj x1] w none w 0 0) ∧ (∃ p_5 : Nat, Zc sc 1 [zp a0] w (some (zp p_5)) w 0 0 ∧ (∃ cn_6 : Nat, ∃ fs_7 : List Value, w[p_5]? = some (zob cn_6 fs_7) ∧ (cn_6 = 1 ∨ cn_6 = 2 ∨ cn_6 = 4) ∧ (∃ p_14 : Nat, Zc sc 6 [zp p_5] w (some (zp p_14)) w 0 0 ∧ (∃ fs_16 : List Value, w[p_14]? = some (zob 0 fs_16) ∧ (∃ r_19 : Int, Zc sc 11 [zp p_14, zj x1] w (some (zj r_19)) w 0 0 ∧ (ov = some (zj r_19) ∧ w' = w ∧ c = 0 ∧ s = 0)))))))) : Zr sc 10 0 [zp a0, zj x1] [] w ov w' c s := by
  refine Zr_st (q := (1, [zp a0, zj x1], [zp a0])) rfl rfl rfl ?_
  show Zr sc 10 1 [zp a0, zj x1] [zp a0] w ov w' c s
  refine Zr_st (q := (2, [zp a0, zj x1], [zj x1, zp a0])) rfl rfl rfl ?_
  show Zr sc 10 2 [zp a0, zj x1] [zj x1, zp a0] w ov w' c s
  obtain ⟨hk_9, h⟩ := h
  refine rn_cal0 (ins := .invokevirtual 107) (rest := []) rfl rfl rfl rfl (zinv_v (fs := _) L0 rfl rfl rfl rfl) rfl rfl hk_9 ?_
  show Zr sc 10 5 [zp a0, zj x1] [] w ov w' c s
  refine Zr_st (q := (6, [zp a0, zj x1], [zp a0])) rfl rfl rfl ?_
  show Zr sc 10 6 [zp a0, zj x1] [zp a0] w ov w' c s
  obtain ⟨p_5, hk_9, h⟩ := h
  refine rn_cal0 (ins := .invokevirtual 83) (rest := []) rfl rfl rfl rfl (zinv_v (fs := _) L0 rfl rfl rfl rfl) rfl rfl hk_9 ?_
  show Zr sc 10 9 [zp a0, zj x1] [zp p_5] w ov w' c s
  obtain ⟨cn_6, fs_7, hw_8, hcn_9, h⟩ := h
  have hz_10 : ∃ kd, zinv 10 (.invokevirtual 113) [zp p_5] (false, w) = some (kd, 6, [zp p_5], []) ∧ decide (kd < 6) = true := by rcases hcn_9 with rfl | rfl | rfl <;> exact zinv_u hw_8 rfl rfl rfl rfl rfl rfl rfl
  obtain ⟨kd_11, hz_10⟩ := hz_10
  obtain ⟨p_14, hk_9, h⟩ := h
  refine rn_cal0 (ins := .invokevirtual 113) (rest := []) rfl rfl rfl rfl hz_10.1 rfl hz_10.2 hk_9 ?_
  show Zr sc 10 12 [zp a0, zj x1] [zp p_14] w ov w' c s
  refine Zr_st (q := (13, [zp a0, zj x1], [zj x1, zp p_14])) rfl rfl rfl ?_
  show Zr sc 10 13 [zp a0, zj x1] [zj x1, zp p_14] w ov w' c s
  obtain ⟨fs_16, hl_15, h⟩ := h
  obtain ⟨r_19, hk_9, h⟩ := h
  refine rn_cal0 (ins := .invokevirtual 147) (rest := []) rfl rfl rfl rfl (zinv_v (fs := _) hl_15 rfl rfl rfl rfl) rfl rfl hk_9 ?_
  show Zr sc 10 16 [zp a0, zj x1] [zj r_19] w ov w' c s
  obtain ⟨h1, h2, h3, h4⟩ := h
  subst h1; subst h2; subst h3; subst h4
  exact Zr_ret (ins := .ireturn) rfl rfl

-- HeapwrightLab$Blocks.sizeOf(I)I
set_option maxRecDepth 100000 in
theorem V11_0 {sc : List Value} {w w' : List zE} {ov : Option Value} {c s : Nat} {a0 : Nat} {x1 : Int} {ct : Int} {rt : Int} {sz : List Int} (L0 : w[a0]? = some (zob 0 [zp (a0 + 1), zp (a0 + 2), zp (a0 + 3), zp (a0 + 4), zj ct, zj rt])) (L2 : w[(a0 + 2)]? = some (za sz)) (h : (∃ r_3 : Int, Zc sc 7 [zp a0, zj x1] w (some (zj r_3)) w 0 0 ∧ ((zrg r_3) ∧ ((r_3 = 0 → (ov = some (zj (-1)) ∧ w' = w ∧ c = 0 ∧ s = 0)) ∧ (¬ (r_3 = 0) → (((0 : Int) ≤ x1 ∧ x1 < (sz.length : Int) ∧ x1 ≤ (2147483647 : Int)) ∧ (ov = some (zj (zgi sz x1)) ∧ w' = w ∧ c = 0 ∧ s = 0))))))) : Zr sc 11 0 [zp a0, zj x1] [] w ov w' c s := by
  refine Zr_st (q := (1, [zp a0, zj x1], [zp a0])) rfl rfl rfl ?_
  show Zr sc 11 1 [zp a0, zj x1] [zp a0] w ov w' c s
  refine Zr_st (q := (2, [zp a0, zj x1], [zj x1, zp a0])) rfl rfl rfl ?_
  show Zr sc 11 2 [zp a0, zj x1] [zj x1, zp a0] w ov w' c s
  obtain ⟨r_3, hk_9, h⟩ := h
  refine rn_cal0 (ins := .invokevirtual 37) (rest := []) rfl rfl rfl rfl (zinv_v (fs := _) L0 rfl rfl rfl rfl) rfl rfl hk_9 ?_
  show Zr sc 11 5 [zp a0, zj x1] [zj r_3] w ov w' c s
  obtain ⟨hr_4, h⟩ := h
  refine Zr_b0 (p := r_3 = 0) rfl rfl (zcmp_0 (cnd := .eq) hr_4) (fun hp => ?_) (fun hp => ?_)
  · replace h := h.1 hp
    show Zr sc 11 17 [zp a0, zj x1] [] w ov w' c s
    refine rl_ic rfl ?_
    show Zr sc 11 18 [zp a0, zj x1] [zj (-1)] w ov w' c s
    obtain ⟨h1, h2, h3, h4⟩ := h
    subst h1; subst h2; subst h3; subst h4
    exact Zr_ret (ins := .ireturn) rfl rfl
  · replace h := h.2 hp
    show Zr sc 11 8 [zp a0, zj x1] [] w ov w' c s
    refine Zr_st (q := (9, [zp a0, zj x1], [zp a0])) rfl rfl rfl ?_
    show Zr sc 11 9 [zp a0, zj x1] [zp a0] w ov w' c s
    refine rl_gf rfl L0 rfl rfl ?_
    show Zr sc 11 12 [zp a0, zj x1] [zp (a0 + 2)] w ov w' c s
    refine Zr_st (q := (13, [zp a0, zj x1], [zj x1, zp (a0 + 2)])) rfl rfl rfl ?_
    show Zr sc 11 13 [zp a0, zj x1] [zj x1, zp (a0 + 2)] w ov w' c s
    obtain ⟨hi_5, h⟩ := h
    refine rl_ia rfl L2 hi_5.1 hi_5.2.1 hi_5.2.2 ?_
    show Zr sc 11 14 [zp a0, zj x1] [zj (zgi sz x1)] w ov w' c s
    refine Zr_st (q := (18, [zp a0, zj x1], [zj (zgi sz x1)])) rfl rfl rfl ?_
    show Zr sc 11 18 [zp a0, zj x1] [zj (zgi sz x1)] w ov w' c s
    obtain ⟨h1, h2, h3, h4⟩ := h
    subst h1; subst h2; subst h3; subst h4
    exact Zr_ret (ins := .ireturn) rfl rfl

-- HeapwrightLab.room(I)I
set_option maxRecDepth 100000 in
theorem V12_0 {sc : List Value} {w w' : List zE} {ov : Option Value} {c s : Nat} {a0 : Nat} {x1 : Int} {wy : Int} (L0 : w[a0]? = some (zob 6 [zp (a0 + 1), zp (a0 + 5), zp (a0 + 16), zp (a0 + 27), zp (a0 + 38), zp (a0 + 49), zp (a0 + 60), zj wy])) (h : ((Zc sc 5 [zp a0, zj x1] w none w 0 0) ∧ (∃ p_5 : Nat, Zc sc 1 [zp a0] w (some (zp p_5)) w 0 0 ∧ (∃ cn_6 : Nat, ∃ fs_7 : List Value, w[p_5]? = some (zob cn_6 fs_7) ∧ (cn_6 = 1 ∨ cn_6 = 2 ∨ cn_6 = 4) ∧ (∃ p_14 : Nat, Zc sc 6 [zp p_5] w (some (zp p_14)) w 0 0 ∧ (∃ fs_16 : List Value, w[p_14]? = some (zob 0 fs_16) ∧ (∃ r_19 : Int, Zc sc 13 [zp p_14, zj x1] w (some (zj r_19)) w 0 0 ∧ (ov = some (zj r_19) ∧ w' = w ∧ c = 0 ∧ s = 0)))))))) : Zr sc 12 0 [zp a0, zj x1] [] w ov w' c s := by
  refine Zr_st (q := (1, [zp a0, zj x1], [zp a0])) rfl rfl rfl ?_
  show Zr sc 12 1 [zp a0, zj x1] [zp a0] w ov w' c s
  refine Zr_st (q := (2, [zp a0, zj x1], [zj x1, zp a0])) rfl rfl rfl ?_
  show Zr sc 12 2 [zp a0, zj x1] [zj x1, zp a0] w ov w' c s
  obtain ⟨hk_9, h⟩ := h
  refine rn_cal0 (ins := .invokevirtual 107) (rest := []) rfl rfl rfl rfl (zinv_v (fs := _) L0 rfl rfl rfl rfl) rfl rfl hk_9 ?_
  show Zr sc 12 5 [zp a0, zj x1] [] w ov w' c s
  refine Zr_st (q := (6, [zp a0, zj x1], [zp a0])) rfl rfl rfl ?_
  show Zr sc 12 6 [zp a0, zj x1] [zp a0] w ov w' c s
  obtain ⟨p_5, hk_9, h⟩ := h
  refine rn_cal0 (ins := .invokevirtual 83) (rest := []) rfl rfl rfl rfl (zinv_v (fs := _) L0 rfl rfl rfl rfl) rfl rfl hk_9 ?_
  show Zr sc 12 9 [zp a0, zj x1] [zp p_5] w ov w' c s
  obtain ⟨cn_6, fs_7, hw_8, hcn_9, h⟩ := h
  have hz_10 : ∃ kd, zinv 12 (.invokevirtual 113) [zp p_5] (false, w) = some (kd, 6, [zp p_5], []) ∧ decide (kd < 6) = true := by rcases hcn_9 with rfl | rfl | rfl <;> exact zinv_u hw_8 rfl rfl rfl rfl rfl rfl rfl
  obtain ⟨kd_11, hz_10⟩ := hz_10
  obtain ⟨p_14, hk_9, h⟩ := h
  refine rn_cal0 (ins := .invokevirtual 113) (rest := []) rfl rfl rfl rfl hz_10.1 rfl hz_10.2 hk_9 ?_
  show Zr sc 12 12 [zp a0, zj x1] [zp p_14] w ov w' c s
  refine Zr_st (q := (13, [zp a0, zj x1], [zj x1, zp p_14])) rfl rfl rfl ?_
  show Zr sc 12 13 [zp a0, zj x1] [zj x1, zp p_14] w ov w' c s
  obtain ⟨fs_16, hl_15, h⟩ := h
  obtain ⟨r_19, hk_9, h⟩ := h
  refine rn_cal0 (ins := .invokevirtual 117) (rest := []) rfl rfl rfl rfl (zinv_v (fs := _) hl_15 rfl rfl rfl rfl) rfl rfl hk_9 ?_
  show Zr sc 12 16 [zp a0, zj x1] [zj r_19] w ov w' c s
  obtain ⟨h1, h2, h3, h4⟩ := h
  subst h1; subst h2; subst h3; subst h4
  exact Zr_ret (ins := .ireturn) rfl rfl

-- HeapwrightLab$Blocks.roomOf(I)I
set_option maxRecDepth 100000 in
theorem V13_0 {sc : List Value} {w w' : List zE} {ov : Option Value} {c s : Nat} {a0 : Nat} {x1 : Int} {ct : Int} {rt : Int} {rm : List Int} (L0 : w[a0]? = some (zob 0 [zp (a0 + 1), zp (a0 + 2), zp (a0 + 3), zp (a0 + 4), zj ct, zj rt])) (L3 : w[(a0 + 3)]? = some (za rm)) (h : (∃ r_3 : Int, Zc sc 7 [zp a0, zj x1] w (some (zj r_3)) w 0 0 ∧ ((zrg r_3) ∧ ((r_3 = 0 → (ov = some (zj (-1)) ∧ w' = w ∧ c = 0 ∧ s = 0)) ∧ (¬ (r_3 = 0) → (((0 : Int) ≤ x1 ∧ x1 < (rm.length : Int) ∧ x1 ≤ (2147483647 : Int)) ∧ (ov = some (zj (zgi rm x1)) ∧ w' = w ∧ c = 0 ∧ s = 0))))))) : Zr sc 13 0 [zp a0, zj x1] [] w ov w' c s := by
  refine Zr_st (q := (1, [zp a0, zj x1], [zp a0])) rfl rfl rfl ?_
  show Zr sc 13 1 [zp a0, zj x1] [zp a0] w ov w' c s
  refine Zr_st (q := (2, [zp a0, zj x1], [zj x1, zp a0])) rfl rfl rfl ?_
  show Zr sc 13 2 [zp a0, zj x1] [zj x1, zp a0] w ov w' c s
  obtain ⟨r_3, hk_9, h⟩ := h
  refine rn_cal0 (ins := .invokevirtual 37) (rest := []) rfl rfl rfl rfl (zinv_v (fs := _) L0 rfl rfl rfl rfl) rfl rfl hk_9 ?_
  show Zr sc 13 5 [zp a0, zj x1] [zj r_3] w ov w' c s
  obtain ⟨hr_4, h⟩ := h
  refine Zr_b0 (p := r_3 = 0) rfl rfl (zcmp_0 (cnd := .eq) hr_4) (fun hp => ?_) (fun hp => ?_)
  · replace h := h.1 hp
    show Zr sc 13 17 [zp a0, zj x1] [] w ov w' c s
    refine rl_ic rfl ?_
    show Zr sc 13 18 [zp a0, zj x1] [zj (-1)] w ov w' c s
    obtain ⟨h1, h2, h3, h4⟩ := h
    subst h1; subst h2; subst h3; subst h4
    exact Zr_ret (ins := .ireturn) rfl rfl
  · replace h := h.2 hp
    show Zr sc 13 8 [zp a0, zj x1] [] w ov w' c s
    refine Zr_st (q := (9, [zp a0, zj x1], [zp a0])) rfl rfl rfl ?_
    show Zr sc 13 9 [zp a0, zj x1] [zp a0] w ov w' c s
    refine rl_gf rfl L0 rfl rfl ?_
    show Zr sc 13 12 [zp a0, zj x1] [zp (a0 + 3)] w ov w' c s
    refine Zr_st (q := (13, [zp a0, zj x1], [zj x1, zp (a0 + 3)])) rfl rfl rfl ?_
    show Zr sc 13 13 [zp a0, zj x1] [zj x1, zp (a0 + 3)] w ov w' c s
    obtain ⟨hi_5, h⟩ := h
    refine rl_ia rfl L3 hi_5.1 hi_5.2.1 hi_5.2.2 ?_
    show Zr sc 13 14 [zp a0, zj x1] [zj (zgi rm x1)] w ov w' c s
    refine Zr_st (q := (18, [zp a0, zj x1], [zj (zgi rm x1)])) rfl rfl rfl ?_
    show Zr sc 13 18 [zp a0, zj x1] [zj (zgi rm x1)] w ov w' c s
    obtain ⟨h1, h2, h3, h4⟩ := h
    subst h1; subst h2; subst h3; subst h4
    exact Zr_ret (ins := .ireturn) rfl rfl

-- HeapwrightLab.at(I)I
set_option maxRecDepth 100000 in
theorem V14_0 {sc : List Value} {w w' : List zE} {ov : Option Value} {c s : Nat} {a0 : Nat} {x1 : Int} {wy : Int} (L0 : w[a0]? = some (zob 6 [zp (a0 + 1), zp (a0 + 5), zp (a0 + 16), zp (a0 + 27), zp (a0 + 38), zp (a0 + 49), zp (a0 + 60), zj wy])) (h : ((zrg x1) ∧ ((x1 < 0 → False) ∧ (¬ (x1 < 0) → ((zrg x1 ∧ zrg 1024) ∧ ((x1 < 1024 → (∃ p_5 : Nat, Zc sc 1 [zp a0] w (some (zp p_5)) w 0 0 ∧ (∃ cn_6 : Nat, ∃ fs_7 : List Value, w[p_5]? = some (zob cn_6 fs_7) ∧ (cn_6 = 1 ∨ cn_6 = 2 ∨ cn_6 = 4) ∧ (∃ p_14 : Nat, Zc sc 6 [zp p_5] w (some (zp p_14)) w 0 0 ∧ (∃ fs_16 : List Value, w[p_14]? = some (zob 0 fs_16) ∧ (∃ r_19 : Int, Zc sc 15 [zp p_14, zj x1] w (some (zj r_19)) w 0 0 ∧ (ov = some (zj r_19) ∧ w' = w ∧ c = 0 ∧ s = 0))))))) ∧ (¬ (x1 < 1024) → False))))))) : Zr sc 14 0 [zp a0, zj x1] [] w ov w' c s := by
  refine Zr_st (q := (1, [zp a0, zj x1], [zj x1])) rfl rfl rfl ?_
  show Zr sc 14 1 [zp a0, zj x1] [zj x1] w ov w' c s
  obtain ⟨hr_1, h⟩ := h
  refine Zr_b0 (p := x1 < 0) rfl rfl (zcmp_0 (cnd := .lt) hr_1) (fun hp => ?_) (fun hp => ?_)
  · replace h := h.1 hp
    show Zr sc 14 11 [zp a0, zj x1] [] w ov w' c s
    exact h.elim
  · replace h := h.2 hp
    show Zr sc 14 4 [zp a0, zj x1] [] w ov w' c s
    refine Zr_st (q := (5, [zp a0, zj x1], [zj x1])) rfl rfl rfl ?_
    show Zr sc 14 5 [zp a0, zj x1] [zj x1] w ov w' c s
    refine rl_si rfl (by decide) ?_
    show Zr sc 14 8 [zp a0, zj x1] [zj 1024, zj x1] w ov w' c s
    obtain ⟨hr_2, h⟩ := h
    refine Zr_br (p := x1 < 1024) rfl rfl (zcmp_j (cnd := .lt) hr_2.1 hr_2.2) (fun hp => ?_) (fun hp => ?_)
    · replace h := h.1 hp
      show Zr sc 14 21 [zp a0, zj x1] [] w ov w' c s
      refine Zr_st (q := (22, [zp a0, zj x1], [zp a0])) rfl rfl rfl ?_
      show Zr sc 14 22 [zp a0, zj x1] [zp a0] w ov w' c s
      obtain ⟨p_5, hk_9, h⟩ := h
      refine rn_cal0 (ins := .invokevirtual 83) (rest := []) rfl rfl rfl rfl (zinv_v (fs := _) L0 rfl rfl rfl rfl) rfl rfl hk_9 ?_
      show Zr sc 14 25 [zp a0, zj x1] [zp p_5] w ov w' c s
      obtain ⟨cn_6, fs_7, hw_8, hcn_9, h⟩ := h
      have hz_10 : ∃ kd, zinv 14 (.invokevirtual 113) [zp p_5] (false, w) = some (kd, 6, [zp p_5], []) ∧ decide (kd < 6) = true := by rcases hcn_9 with rfl | rfl | rfl <;> exact zinv_u hw_8 rfl rfl rfl rfl rfl rfl rfl
      obtain ⟨kd_11, hz_10⟩ := hz_10
      obtain ⟨p_14, hk_9, h⟩ := h
      refine rn_cal0 (ins := .invokevirtual 113) (rest := []) rfl rfl rfl rfl hz_10.1 rfl hz_10.2 hk_9 ?_
      show Zr sc 14 28 [zp a0, zj x1] [zp p_14] w ov w' c s
      refine Zr_st (q := (29, [zp a0, zj x1], [zj x1, zp p_14])) rfl rfl rfl ?_
      show Zr sc 14 29 [zp a0, zj x1] [zj x1, zp p_14] w ov w' c s
      obtain ⟨fs_16, hl_15, h⟩ := h
      obtain ⟨r_19, hk_9, h⟩ := h
      refine rn_cal0 (ins := .invokevirtual 155) (rest := []) rfl rfl rfl rfl (zinv_v (fs := _) hl_15 rfl rfl rfl rfl) rfl rfl hk_9 ?_
      show Zr sc 14 32 [zp a0, zj x1] [zj r_19] w ov w' c s
      obtain ⟨h1, h2, h3, h4⟩ := h
      subst h1; subst h2; subst h3; subst h4
      exact Zr_ret (ins := .ireturn) rfl rfl
    · replace h := h.2 hp
      show Zr sc 14 11 [zp a0, zj x1] [] w ov w' c s
      exact h.elim

-- HeapwrightLab$Blocks.nameOver(I)I
set_option maxRecDepth 100000 in
theorem V15_0 {sc : List Value} {w w' : List zE} {ov : Option Value} {c s : Nat} {a0 : Nat} {x1 : Int} (h : Zr sc 15 2 [zp a0, zj x1, zj 0, zmk] [] w ov w' c s) : Zr sc 15 0 [zp a0, zj x1, zmk, zmk] [] w ov w' c s := by
  refine rl_ic rfl ?_
  show Zr sc 15 1 [zp a0, zj x1, zmk, zmk] [zj 0] w ov w' c s
  refine Zr_st (q := (2, [zp a0, zj x1, zj 0, zmk], [])) rfl rfl rfl ?_
  show Zr sc 15 2 [zp a0, zj x1, zj 0, zmk] [] w ov w' c s
  exact h
set_option maxRecDepth 100000 in
theorem V15_2 {sc : List Value} {w w' : List zE} {ov : Option Value} {c s : Nat} {a0 : Nat} {x1 : Int} {x2 : Int} {v3 : Value} {ct : Int} {rt : Int} {bp : List Int} (L0 : w[a0]? = some (zob 0 [zp (a0 + 1), zp (a0 + 2), zp (a0 + 3), zp (a0 + 4), zj ct, zj rt])) (L4 : w[(a0 + 4)]? = some (za bp)) (h : ((zrg x2 ∧ zrg ct) ∧ ((ct ≤ x2 → (ov = some (zj (-1)) ∧ w' = w ∧ c = 0 ∧ s = 0)) ∧ (¬ (ct ≤ x2) → (((0 : Int) ≤ x2 ∧ x2 < (bp.length : Int) ∧ x2 ≤ (2147483647 : Int)) ∧ (∃ r_5 : Int, Zc sc 9 [zp a0, zj (zgi bp x2)] w (some (zj r_5)) w 0 0 ∧ ((zrg r_5 ∧ zrg x1) ∧ ((x1 < r_5 → Zr sc 15 2 [zp a0, zj x1, zj (x2 + 1), zj (zgi bp x2)] [] w ov w' c s) ∧ (¬ (x1 < r_5) → (∃ r_9 : Int, Zc sc 16 [zp a0, zj (zgi bp x2)] w (some (zj r_9)) w 0 0 ∧ ((zrg x1 ∧ zrg r_9) ∧ ((r_9 ≤ x1 → Zr sc 15 2 [zp a0, zj x1, zj (x2 + 1), zj (zgi bp x2)] [] w ov w' c s) ∧ (¬ (r_9 ≤ x1) → (ov = some (zj (zgi bp x2)) ∧ w' = w ∧ c = 0 ∧ s = 0)))))))))))))) : Zr sc 15 2 [zp a0, zj x1, zj x2, v3] [] w ov w' c s := by
  refine Zr_st (q := (3, [zp a0, zj x1, zj x2, v3], [zj x2])) rfl rfl rfl ?_
  show Zr sc 15 3 [zp a0, zj x1, zj x2, v3] [zj x2] w ov w' c s
  refine Zr_st (q := (4, [zp a0, zj x1, zj x2, v3], [zp a0, zj x2])) rfl rfl rfl ?_
  show Zr sc 15 4 [zp a0, zj x1, zj x2, v3] [zp a0, zj x2] w ov w' c s
  refine rl_gf rfl L0 rfl rfl ?_
  show Zr sc 15 7 [zp a0, zj x1, zj x2, v3] [zj ct, zj x2] w ov w' c s
  obtain ⟨hr_1, h⟩ := h
  refine Zr_br (p := ct ≤ x2) rfl rfl (zcmp_j (cnd := .ge) hr_1.1 hr_1.2) (fun hp => ?_) (fun hp => ?_)
  · replace h := h.1 hp
    show Zr sc 15 43 [zp a0, zj x1, zj x2, v3] [] w ov w' c s
    refine rl_ic rfl ?_
    show Zr sc 15 44 [zp a0, zj x1, zj x2, v3] [zj (-1)] w ov w' c s
    obtain ⟨h1, h2, h3, h4⟩ := h
    subst h1; subst h2; subst h3; subst h4
    exact Zr_ret (ins := .ireturn) rfl rfl
  · replace h := h.2 hp
    show Zr sc 15 10 [zp a0, zj x1, zj x2, v3] [] w ov w' c s
    refine Zr_st (q := (11, [zp a0, zj x1, zj x2, v3], [zp a0])) rfl rfl rfl ?_
    show Zr sc 15 11 [zp a0, zj x1, zj x2, v3] [zp a0] w ov w' c s
    refine rl_gf rfl L0 rfl rfl ?_
    show Zr sc 15 14 [zp a0, zj x1, zj x2, v3] [zp (a0 + 4)] w ov w' c s
    refine Zr_st (q := (15, [zp a0, zj x1, zj x2, v3], [zj x2, zp (a0 + 4)])) rfl rfl rfl ?_
    show Zr sc 15 15 [zp a0, zj x1, zj x2, v3] [zj x2, zp (a0 + 4)] w ov w' c s
    obtain ⟨hi_2, h⟩ := h
    refine rl_ia rfl L4 hi_2.1 hi_2.2.1 hi_2.2.2 ?_
    show Zr sc 15 16 [zp a0, zj x1, zj x2, v3] [zj (zgi bp x2)] w ov w' c s
    refine Zr_st (q := (17, [zp a0, zj x1, zj x2, zj (zgi bp x2)], [])) rfl rfl rfl ?_
    show Zr sc 15 17 [zp a0, zj x1, zj x2, zj (zgi bp x2)] [] w ov w' c s
    refine Zr_st (q := (18, [zp a0, zj x1, zj x2, zj (zgi bp x2)], [zp a0])) rfl rfl rfl ?_
    show Zr sc 15 18 [zp a0, zj x1, zj x2, zj (zgi bp x2)] [zp a0] w ov w' c s
    refine Zr_st (q := (19, [zp a0, zj x1, zj x2, zj (zgi bp x2)], [zj (zgi bp x2), zp a0])) rfl rfl rfl ?_
    show Zr sc 15 19 [zp a0, zj x1, zj x2, zj (zgi bp x2)] [zj (zgi bp x2), zp a0] w ov w' c s
    obtain ⟨r_5, hk_9, h⟩ := h
    refine rn_cal0 (ins := .invokevirtual 45) (rest := []) rfl rfl rfl rfl (zinv_v (fs := _) L0 rfl rfl rfl rfl) rfl rfl hk_9 ?_
    show Zr sc 15 22 [zp a0, zj x1, zj x2, zj (zgi bp x2)] [zj r_5] w ov w' c s
    refine Zr_st (q := (23, [zp a0, zj x1, zj x2, zj (zgi bp x2)], [zj x1, zj r_5])) rfl rfl rfl ?_
    show Zr sc 15 23 [zp a0, zj x1, zj x2, zj (zgi bp x2)] [zj x1, zj r_5] w ov w' c s
    obtain ⟨hr_6, h⟩ := h
    refine Zr_br (p := x1 < r_5) rfl rfl (zcmp_j (cnd := .gt) hr_6.1 hr_6.2) (fun hp => ?_) (fun hp => ?_)
    · replace h := h.1 hp
      show Zr sc 15 37 [zp a0, zj x1, zj x2, zj (zgi bp x2)] [] w ov w' c s
      refine rl_inc rfl rfl rfl rfl ?_
      show Zr sc 15 40 [zp a0, zj x1, zj (x2 + 1), zj (zgi bp x2)] [] w ov w' c s
      refine Zr_st (q := (2, [zp a0, zj x1, zj (x2 + 1), zj (zgi bp x2)], [])) rfl rfl rfl ?_
      show Zr sc 15 2 [zp a0, zj x1, zj (x2 + 1), zj (zgi bp x2)] [] w ov w' c s
      exact h
    · replace h := h.2 hp
      show Zr sc 15 26 [zp a0, zj x1, zj x2, zj (zgi bp x2)] [] w ov w' c s
      refine Zr_st (q := (27, [zp a0, zj x1, zj x2, zj (zgi bp x2)], [zj x1])) rfl rfl rfl ?_
      show Zr sc 15 27 [zp a0, zj x1, zj x2, zj (zgi bp x2)] [zj x1] w ov w' c s
      refine Zr_st (q := (28, [zp a0, zj x1, zj x2, zj (zgi bp x2)], [zp a0, zj x1])) rfl rfl rfl ?_
      show Zr sc 15 28 [zp a0, zj x1, zj x2, zj (zgi bp x2)] [zp a0, zj x1] w ov w' c s
      refine Zr_st (q := (29, [zp a0, zj x1, zj x2, zj (zgi bp x2)], [zj (zgi bp x2), zp a0, zj x1])) rfl rfl rfl ?_
      show Zr sc 15 29 [zp a0, zj x1, zj x2, zj (zgi bp x2)] [zj (zgi bp x2), zp a0, zj x1] w ov w' c s
      obtain ⟨r_9, hk_9, h⟩ := h
      refine rn_cal0 (ins := .invokevirtual 48) (rest := [zj x1]) rfl rfl rfl rfl (zinv_v (fs := _) L0 rfl rfl rfl rfl) rfl rfl hk_9 ?_
      show Zr sc 15 32 [zp a0, zj x1, zj x2, zj (zgi bp x2)] [zj r_9, zj x1] w ov w' c s
      obtain ⟨hr_10, h⟩ := h
      refine Zr_br (p := r_9 ≤ x1) rfl rfl (zcmp_j (cnd := .ge) hr_10.1 hr_10.2) (fun hp => ?_) (fun hp => ?_)
      · replace h := h.1 hp
        show Zr sc 15 37 [zp a0, zj x1, zj x2, zj (zgi bp x2)] [] w ov w' c s
        refine rl_inc rfl rfl rfl rfl ?_
        show Zr sc 15 40 [zp a0, zj x1, zj (x2 + 1), zj (zgi bp x2)] [] w ov w' c s
        refine Zr_st (q := (2, [zp a0, zj x1, zj (x2 + 1), zj (zgi bp x2)], [])) rfl rfl rfl ?_
        show Zr sc 15 2 [zp a0, zj x1, zj (x2 + 1), zj (zgi bp x2)] [] w ov w' c s
        exact h
      · replace h := h.2 hp
        show Zr sc 15 35 [zp a0, zj x1, zj x2, zj (zgi bp x2)] [] w ov w' c s
        refine Zr_st (q := (36, [zp a0, zj x1, zj x2, zj (zgi bp x2)], [zj (zgi bp x2)])) rfl rfl rfl ?_
        show Zr sc 15 36 [zp a0, zj x1, zj x2, zj (zgi bp x2)] [zj (zgi bp x2)] w ov w' c s
        obtain ⟨h1, h2, h3, h4⟩ := h
        subst h1; subst h2; subst h3; subst h4
        exact Zr_ret (ins := .ireturn) rfl rfl

-- HeapwrightLab$Blocks.endOf(I)I
set_option maxRecDepth 100000 in
theorem V16_0 {sc : List Value} {w w' : List zE} {ov : Option Value} {c s : Nat} {a0 : Nat} {x1 : Int} {ct : Int} {rt : Int} {pl : List Int} {rm : List Int} (L0 : w[a0]? = some (zob 0 [zp (a0 + 1), zp (a0 + 2), zp (a0 + 3), zp (a0 + 4), zj ct, zj rt])) (L1 : w[(a0 + 1)]? = some (za pl)) (L3 : w[(a0 + 3)]? = some (za rm)) (h : (∃ r_3 : Int, Zc sc 7 [zp a0, zj x1] w (some (zj r_3)) w 0 0 ∧ ((zrg r_3) ∧ ((r_3 = 0 → (ov = some (zj (-1)) ∧ w' = w ∧ c = 0 ∧ s = 0)) ∧ (¬ (r_3 = 0) → (((0 : Int) ≤ x1 ∧ x1 < (pl.length : Int) ∧ x1 ≤ (2147483647 : Int)) ∧ (((0 : Int) ≤ x1 ∧ x1 < (rm.length : Int) ∧ x1 ≤ (2147483647 : Int)) ∧ (ov = some (zj ((zgi pl x1) + (zgi rm x1))) ∧ w' = w ∧ c = 0 ∧ s = 0)))))))) : Zr sc 16 0 [zp a0, zj x1] [] w ov w' c s := by
  refine Zr_st (q := (1, [zp a0, zj x1], [zp a0])) rfl rfl rfl ?_
  show Zr sc 16 1 [zp a0, zj x1] [zp a0] w ov w' c s
  refine Zr_st (q := (2, [zp a0, zj x1], [zj x1, zp a0])) rfl rfl rfl ?_
  show Zr sc 16 2 [zp a0, zj x1] [zj x1, zp a0] w ov w' c s
  obtain ⟨r_3, hk_9, h⟩ := h
  refine rn_cal0 (ins := .invokevirtual 37) (rest := []) rfl rfl rfl rfl (zinv_v (fs := _) L0 rfl rfl rfl rfl) rfl rfl hk_9 ?_
  show Zr sc 16 5 [zp a0, zj x1] [zj r_3] w ov w' c s
  obtain ⟨hr_4, h⟩ := h
  refine Zr_b0 (p := r_3 = 0) rfl rfl (zcmp_0 (cnd := .eq) hr_4) (fun hp => ?_) (fun hp => ?_)
  · replace h := h.1 hp
    show Zr sc 16 24 [zp a0, zj x1] [] w ov w' c s
    refine rl_ic rfl ?_
    show Zr sc 16 25 [zp a0, zj x1] [zj (-1)] w ov w' c s
    obtain ⟨h1, h2, h3, h4⟩ := h
    subst h1; subst h2; subst h3; subst h4
    exact Zr_ret (ins := .ireturn) rfl rfl
  · replace h := h.2 hp
    show Zr sc 16 8 [zp a0, zj x1] [] w ov w' c s
    refine Zr_st (q := (9, [zp a0, zj x1], [zp a0])) rfl rfl rfl ?_
    show Zr sc 16 9 [zp a0, zj x1] [zp a0] w ov w' c s
    refine rl_gf rfl L0 rfl rfl ?_
    show Zr sc 16 12 [zp a0, zj x1] [zp (a0 + 1)] w ov w' c s
    refine Zr_st (q := (13, [zp a0, zj x1], [zj x1, zp (a0 + 1)])) rfl rfl rfl ?_
    show Zr sc 16 13 [zp a0, zj x1] [zj x1, zp (a0 + 1)] w ov w' c s
    obtain ⟨hi_5, h⟩ := h
    refine rl_ia rfl L1 hi_5.1 hi_5.2.1 hi_5.2.2 ?_
    show Zr sc 16 14 [zp a0, zj x1] [zj (zgi pl x1)] w ov w' c s
    refine Zr_st (q := (15, [zp a0, zj x1], [zp a0, zj (zgi pl x1)])) rfl rfl rfl ?_
    show Zr sc 16 15 [zp a0, zj x1] [zp a0, zj (zgi pl x1)] w ov w' c s
    refine rl_gf rfl L0 rfl rfl ?_
    show Zr sc 16 18 [zp a0, zj x1] [zp (a0 + 3), zj (zgi pl x1)] w ov w' c s
    refine Zr_st (q := (19, [zp a0, zj x1], [zj x1, zp (a0 + 3), zj (zgi pl x1)])) rfl rfl rfl ?_
    show Zr sc 16 19 [zp a0, zj x1] [zj x1, zp (a0 + 3), zj (zgi pl x1)] w ov w' c s
    obtain ⟨hi_6, h⟩ := h
    refine rl_ia rfl L3 hi_6.1 hi_6.2.1 hi_6.2.2 ?_
    show Zr sc 16 20 [zp a0, zj x1] [zj (zgi rm x1), zj (zgi pl x1)] w ov w' c s
    refine rl_add rfl ?_
    show Zr sc 16 21 [zp a0, zj x1] [zj ((zgi pl x1) + (zgi rm x1))] w ov w' c s
    refine Zr_st (q := (25, [zp a0, zj x1], [zj ((zgi pl x1) + (zgi rm x1))])) rfl rfl rfl ?_
    show Zr sc 16 25 [zp a0, zj x1] [zj ((zgi pl x1) + (zgi rm x1))] w ov w' c s
    obtain ⟨h1, h2, h3, h4⟩ := h
    subst h1; subst h2; subst h3; subst h4
    exact Zr_ret (ins := .ireturn) rfl rfl

-- HeapwrightLab.blocks()I
set_option maxRecDepth 100000 in
theorem V17_0 {sc : List Value} {w w' : List zE} {ov : Option Value} {c s : Nat} {a0 : Nat} {wy : Int} (L0 : w[a0]? = some (zob 6 [zp (a0 + 1), zp (a0 + 5), zp (a0 + 16), zp (a0 + 27), zp (a0 + 38), zp (a0 + 49), zp (a0 + 60), zj wy])) (h : (∃ p_3 : Nat, Zc sc 1 [zp a0] w (some (zp p_3)) w 0 0 ∧ (∃ cn_4 : Nat, ∃ fs_5 : List Value, w[p_3]? = some (zob cn_4 fs_5) ∧ (cn_4 = 1 ∨ cn_4 = 2 ∨ cn_4 = 4) ∧ (∃ p_12 : Nat, Zc sc 6 [zp p_3] w (some (zp p_12)) w 0 0 ∧ (∃ fs_14 : List Value, w[p_12]? = some (zob 0 fs_14) ∧ (∃ r_17 : Int, Zc sc 18 [zp p_12] w (some (zj r_17)) w 0 0 ∧ (ov = some (zj r_17) ∧ w' = w ∧ c = 0 ∧ s = 0))))))) : Zr sc 17 0 [zp a0] [] w ov w' c s := by
  refine Zr_st (q := (1, [zp a0], [zp a0])) rfl rfl rfl ?_
  show Zr sc 17 1 [zp a0] [zp a0] w ov w' c s
  obtain ⟨p_3, hk_9, h⟩ := h
  refine rn_cal0 (ins := .invokevirtual 83) (rest := []) rfl rfl rfl rfl (zinv_v (fs := _) L0 rfl rfl rfl rfl) rfl rfl hk_9 ?_
  show Zr sc 17 4 [zp a0] [zp p_3] w ov w' c s
  obtain ⟨cn_4, fs_5, hw_6, hcn_7, h⟩ := h
  have hz_8 : ∃ kd, zinv 17 (.invokevirtual 113) [zp p_3] (false, w) = some (kd, 6, [zp p_3], []) ∧ decide (kd < 6) = true := by rcases hcn_7 with rfl | rfl | rfl <;> exact zinv_u hw_6 rfl rfl rfl rfl rfl rfl rfl
  obtain ⟨kd_9, hz_8⟩ := hz_8
  obtain ⟨p_12, hk_9, h⟩ := h
  refine rn_cal0 (ins := .invokevirtual 113) (rest := []) rfl rfl rfl rfl hz_8.1 rfl hz_8.2 hk_9 ?_
  show Zr sc 17 7 [zp a0] [zp p_12] w ov w' c s
  obtain ⟨fs_14, hl_13, h⟩ := h
  obtain ⟨r_17, hk_9, h⟩ := h
  refine rn_cal0 (ins := .invokevirtual 138) (rest := []) rfl rfl rfl rfl (zinv_v (fs := _) hl_13 rfl rfl rfl rfl) rfl rfl hk_9 ?_
  show Zr sc 17 10 [zp a0] [zj r_17] w ov w' c s
  obtain ⟨h1, h2, h3, h4⟩ := h
  subst h1; subst h2; subst h3; subst h4
  exact Zr_ret (ins := .ireturn) rfl rfl

-- HeapwrightLab$Blocks.howMany()I
set_option maxRecDepth 100000 in
theorem V18_0 {sc : List Value} {w w' : List zE} {ov : Option Value} {c s : Nat} {a0 : Nat} {ct : Int} {rt : Int} (L0 : w[a0]? = some (zob 0 [zp (a0 + 1), zp (a0 + 2), zp (a0 + 3), zp (a0 + 4), zj ct, zj rt])) (h : (ov = some (zj ct) ∧ w' = w ∧ c = 0 ∧ s = 0)) : Zr sc 18 0 [zp a0] [] w ov w' c s := by
  refine Zr_st (q := (1, [zp a0], [zp a0])) rfl rfl rfl ?_
  show Zr sc 18 1 [zp a0] [zp a0] w ov w' c s
  refine rl_gf rfl L0 rfl rfl ?_
  show Zr sc 18 4 [zp a0] [zj ct] w ov w' c s
  obtain ⟨h1, h2, h3, h4⟩ := h
  subst h1; subst h2; subst h3; subst h4
  exact Zr_ret (ins := .ireturn) rfl rfl

-- HeapwrightLab.holes()I
set_option maxRecDepth 100000 in
theorem V19_0 {sc : List Value} {w w' : List zE} {ov : Option Value} {c s : Nat} {a0 : Nat} {wy : Int} (L0 : w[a0]? = some (zob 6 [zp (a0 + 1), zp (a0 + 5), zp (a0 + 16), zp (a0 + 27), zp (a0 + 38), zp (a0 + 49), zp (a0 + 60), zj wy])) (h : (∃ p_3 : Nat, Zc sc 1 [zp a0] w (some (zp p_3)) w 0 0 ∧ (∃ cn_4 : Nat, ∃ fs_5 : List Value, w[p_3]? = some (zob cn_4 fs_5) ∧ (cn_4 = 1 ∨ cn_4 = 2 ∨ cn_4 = 4) ∧ (∃ p_12 : Nat, Zc sc 20 [zp p_3] w (some (zp p_12)) w 0 0 ∧ (∃ fs_14 : List Value, w[p_12]? = some (zob 3 fs_14) ∧ (∃ r_17 : Int, Zc sc 21 [zp p_12] w (some (zj r_17)) w 0 0 ∧ (ov = some (zj r_17) ∧ w' = w ∧ c = 0 ∧ s = 0))))))) : Zr sc 19 0 [zp a0] [] w ov w' c s := by
  refine Zr_st (q := (1, [zp a0], [zp a0])) rfl rfl rfl ?_
  show Zr sc 19 1 [zp a0] [zp a0] w ov w' c s
  obtain ⟨p_3, hk_9, h⟩ := h
  refine rn_cal0 (ins := .invokevirtual 83) (rest := []) rfl rfl rfl rfl (zinv_v (fs := _) L0 rfl rfl rfl rfl) rfl rfl hk_9 ?_
  show Zr sc 19 4 [zp a0] [zp p_3] w ov w' c s
  obtain ⟨cn_4, fs_5, hw_6, hcn_7, h⟩ := h
  have hz_8 : ∃ kd, zinv 19 (.invokevirtual 158) [zp p_3] (false, w) = some (kd, 20, [zp p_3], []) ∧ decide (kd < 6) = true := by rcases hcn_7 with rfl | rfl | rfl <;> exact zinv_u hw_6 rfl rfl rfl rfl rfl rfl rfl
  obtain ⟨kd_9, hz_8⟩ := hz_8
  obtain ⟨p_12, hk_9, h⟩ := h
  refine rn_cal0 (ins := .invokevirtual 158) (rest := []) rfl rfl rfl rfl hz_8.1 rfl hz_8.2 hk_9 ?_
  show Zr sc 19 7 [zp a0] [zp p_12] w ov w' c s
  obtain ⟨fs_14, hl_13, h⟩ := h
  obtain ⟨r_17, hk_9, h⟩ := h
  refine rn_cal0 (ins := .invokevirtual 162) (rest := []) rfl rfl rfl rfl (zinv_v (fs := _) hl_13 rfl rfl rfl rfl) rfl rfl hk_9 ?_
  show Zr sc 19 10 [zp a0] [zj r_17] w ov w' c s
  obtain ⟨h1, h2, h3, h4⟩ := h
  subst h1; subst h2; subst h3; subst h4
  exact Zr_ret (ins := .ireturn) rfl rfl

-- HeapwrightLab$Memory.gaps()LHeapwrightLab$Holes;
set_option maxRecDepth 100000 in
theorem V20_0_1 {sc : List Value} {w w' : List zE} {ov : Option Value} {c s : Nat} {a0 : Nat} {wy : Int} {st : Int} {hd : Int} {hn : Int} {sn : Int} {nm : Int} {ar : Int} {pk : Int} {dn : Int} (L0 : w[a0]? = some (zob 1 [zp (a0 + 1), zp (a0 + 6), zj wy, zj st, zj hd, zj hn, zj sn, zp (a0 + 9), zp (a0 + 10), zj nm, zj ar, zj pk, zj dn])) (h : (ov = some (zp (a0 + 6)) ∧ w' = w ∧ c = 0 ∧ s = 0)) : Zr sc 20 0 [zp a0] [] w ov w' c s := by
  refine Zr_st (q := (1, [zp a0], [zp a0])) rfl rfl rfl ?_
  show Zr sc 20 1 [zp a0] [zp a0] w ov w' c s
  refine rl_gf rfl L0 rfl rfl ?_
  show Zr sc 20 4 [zp a0] [zp (a0 + 6)] w ov w' c s
  obtain ⟨h1, h2, h3, h4⟩ := h
  subst h1; subst h2; subst h3; subst h4
  exact Zr_ret (ins := .areturn) rfl rfl

-- HeapwrightLab$Memory.gaps()LHeapwrightLab$Holes;
set_option maxRecDepth 100000 in
theorem V20_0_2 {sc : List Value} {w w' : List zE} {ov : Option Value} {c s : Nat} {a0 : Nat} {wy : Int} {st : Int} {hd : Int} {hn : Int} {sn : Int} {nm : Int} {ar : Int} {pk : Int} {dn : Int} (L0 : w[a0]? = some (zob 2 [zp (a0 + 1), zp (a0 + 6), zj wy, zj st, zj hd, zj hn, zj sn, zp (a0 + 9), zp (a0 + 10), zj nm, zj ar, zj pk, zj dn])) (h : (ov = some (zp (a0 + 6)) ∧ w' = w ∧ c = 0 ∧ s = 0)) : Zr sc 20 0 [zp a0] [] w ov w' c s := by
  refine Zr_st (q := (1, [zp a0], [zp a0])) rfl rfl rfl ?_
  show Zr sc 20 1 [zp a0] [zp a0] w ov w' c s
  refine rl_gf rfl L0 rfl rfl ?_
  show Zr sc 20 4 [zp a0] [zp (a0 + 6)] w ov w' c s
  obtain ⟨h1, h2, h3, h4⟩ := h
  subst h1; subst h2; subst h3; subst h4
  exact Zr_ret (ins := .areturn) rfl rfl

-- HeapwrightLab$Memory.gaps()LHeapwrightLab$Holes;
set_option maxRecDepth 100000 in
theorem V20_0_4 {sc : List Value} {w w' : List zE} {ov : Option Value} {c s : Nat} {a0 : Nat} {wy : Int} {st : Int} {hd : Int} {hn : Int} {sn : Int} {nm : Int} {ar : Int} {pk : Int} {dn : Int} (L0 : w[a0]? = some (zob 4 [zp (a0 + 1), zp (a0 + 6), zj wy, zj st, zj hd, zj hn, zj sn, zp (a0 + 9), zp (a0 + 10), zj nm, zj ar, zj pk, zj dn, zp (a0 + 11)])) (h : (ov = some (zp (a0 + 6)) ∧ w' = w ∧ c = 0 ∧ s = 0)) : Zr sc 20 0 [zp a0] [] w ov w' c s := by
  refine Zr_st (q := (1, [zp a0], [zp a0])) rfl rfl rfl ?_
  show Zr sc 20 1 [zp a0] [zp a0] w ov w' c s
  refine rl_gf rfl L0 rfl rfl ?_
  show Zr sc 20 4 [zp a0] [zp (a0 + 6)] w ov w' c s
  obtain ⟨h1, h2, h3, h4⟩ := h
  subst h1; subst h2; subst h3; subst h4
  exact Zr_ret (ins := .areturn) rfl rfl

-- HeapwrightLab$Holes.howMany()I
set_option maxRecDepth 100000 in
theorem V21_0 {sc : List Value} {w w' : List zE} {ov : Option Value} {c s : Nat} {a0 : Nat} {ct : Int} (L0 : w[a0]? = some (zob 3 [zp (a0 + 1), zp (a0 + 2), zj ct])) (h : (ov = some (zj ct) ∧ w' = w ∧ c = 0 ∧ s = 0)) : Zr sc 21 0 [zp a0] [] w ov w' c s := by
  refine Zr_st (q := (1, [zp a0], [zp a0])) rfl rfl rfl ?_
  show Zr sc 21 1 [zp a0] [zp a0] w ov w' c s
  refine rl_gf rfl L0 rfl rfl ?_
  show Zr sc 21 4 [zp a0] [zj ct] w ov w' c s
  obtain ⟨h1, h2, h3, h4⟩ := h
  subst h1; subst h2; subst h3; subst h4
  exact Zr_ret (ins := .ireturn) rfl rfl

-- HeapwrightLab.holePlace(I)I
set_option maxRecDepth 100000 in
theorem V22_0 {sc : List Value} {w w' : List zE} {ov : Option Value} {c s : Nat} {a0 : Nat} {x1 : Int} {wy : Int} (L0 : w[a0]? = some (zob 6 [zp (a0 + 1), zp (a0 + 5), zp (a0 + 16), zp (a0 + 27), zp (a0 + 38), zp (a0 + 49), zp (a0 + 60), zj wy])) (h : ((Zc sc 23 [zp a0, zj x1] w none w 0 0) ∧ (∃ p_5 : Nat, Zc sc 1 [zp a0] w (some (zp p_5)) w 0 0 ∧ (∃ cn_6 : Nat, ∃ fs_7 : List Value, w[p_5]? = some (zob cn_6 fs_7) ∧ (cn_6 = 1 ∨ cn_6 = 2 ∨ cn_6 = 4) ∧ (∃ p_14 : Nat, Zc sc 20 [zp p_5] w (some (zp p_14)) w 0 0 ∧ (∃ fs_16 : List Value, w[p_14]? = some (zob 3 fs_16) ∧ (∃ r_19 : Int, Zc sc 24 [zp p_14, zj x1] w (some (zj r_19)) w 0 0 ∧ (ov = some (zj r_19) ∧ w' = w ∧ c = 0 ∧ s = 0)))))))) : Zr sc 22 0 [zp a0, zj x1] [] w ov w' c s := by
  refine Zr_st (q := (1, [zp a0, zj x1], [zp a0])) rfl rfl rfl ?_
  show Zr sc 22 1 [zp a0, zj x1] [zp a0] w ov w' c s
  refine Zr_st (q := (2, [zp a0, zj x1], [zj x1, zp a0])) rfl rfl rfl ?_
  show Zr sc 22 2 [zp a0, zj x1] [zj x1, zp a0] w ov w' c s
  obtain ⟨hk_9, h⟩ := h
  refine rn_cal0 (ins := .invokevirtual 165) (rest := []) rfl rfl rfl rfl (zinv_v (fs := _) L0 rfl rfl rfl rfl) rfl rfl hk_9 ?_
  show Zr sc 22 5 [zp a0, zj x1] [] w ov w' c s
  refine Zr_st (q := (6, [zp a0, zj x1], [zp a0])) rfl rfl rfl ?_
  show Zr sc 22 6 [zp a0, zj x1] [zp a0] w ov w' c s
  obtain ⟨p_5, hk_9, h⟩ := h
  refine rn_cal0 (ins := .invokevirtual 83) (rest := []) rfl rfl rfl rfl (zinv_v (fs := _) L0 rfl rfl rfl rfl) rfl rfl hk_9 ?_
  show Zr sc 22 9 [zp a0, zj x1] [zp p_5] w ov w' c s
  obtain ⟨cn_6, fs_7, hw_8, hcn_9, h⟩ := h
  have hz_10 : ∃ kd, zinv 22 (.invokevirtual 158) [zp p_5] (false, w) = some (kd, 20, [zp p_5], []) ∧ decide (kd < 6) = true := by rcases hcn_9 with rfl | rfl | rfl <;> exact zinv_u hw_8 rfl rfl rfl rfl rfl rfl rfl
  obtain ⟨kd_11, hz_10⟩ := hz_10
  obtain ⟨p_14, hk_9, h⟩ := h
  refine rn_cal0 (ins := .invokevirtual 158) (rest := []) rfl rfl rfl rfl hz_10.1 rfl hz_10.2 hk_9 ?_
  show Zr sc 22 12 [zp a0, zj x1] [zp p_14] w ov w' c s
  refine Zr_st (q := (13, [zp a0, zj x1], [zj x1, zp p_14])) rfl rfl rfl ?_
  show Zr sc 22 13 [zp a0, zj x1] [zj x1, zp p_14] w ov w' c s
  obtain ⟨fs_16, hl_15, h⟩ := h
  obtain ⟨r_19, hk_9, h⟩ := h
  refine rn_cal0 (ins := .invokevirtual 168) (rest := []) rfl rfl rfl rfl (zinv_v (fs := _) hl_15 rfl rfl rfl rfl) rfl rfl hk_9 ?_
  show Zr sc 22 16 [zp a0, zj x1] [zj r_19] w ov w' c s
  obtain ⟨h1, h2, h3, h4⟩ := h
  subst h1; subst h2; subst h3; subst h4
  exact Zr_ret (ins := .ireturn) rfl rfl

-- HeapwrightLab.requireHole(I)V
set_option maxRecDepth 100000 in
theorem V23_0 {sc : List Value} {w w' : List zE} {ov : Option Value} {c s : Nat} {a0 : Nat} {x1 : Int} {wy : Int} (L0 : w[a0]? = some (zob 6 [zp (a0 + 1), zp (a0 + 5), zp (a0 + 16), zp (a0 + 27), zp (a0 + 38), zp (a0 + 49), zp (a0 + 60), zj wy])) (h : ((zrg x1) ∧ ((x1 < 0 → False) ∧ (¬ (x1 < 0) → (∃ p_4 : Nat, Zc sc 1 [zp a0] w (some (zp p_4)) w 0 0 ∧ (∃ cn_5 : Nat, ∃ fs_6 : List Value, w[p_4]? = some (zob cn_5 fs_6) ∧ (cn_5 = 1 ∨ cn_5 = 2 ∨ cn_5 = 4) ∧ (∃ p_13 : Nat, Zc sc 20 [zp p_4] w (some (zp p_13)) w 0 0 ∧ (∃ fs_15 : List Value, w[p_13]? = some (zob 3 fs_15) ∧ (∃ r_18 : Int, Zc sc 21 [zp p_13] w (some (zj r_18)) w 0 0 ∧ ((zrg x1 ∧ zrg r_18) ∧ ((x1 < r_18 → (ov = none ∧ w' = w ∧ c = 0 ∧ s = 0)) ∧ (¬ (x1 < r_18) → False)))))))))))) : Zr sc 23 0 [zp a0, zj x1] [] w ov w' c s := by
  refine Zr_st (q := (1, [zp a0, zj x1], [zj x1])) rfl rfl rfl ?_
  show Zr sc 23 1 [zp a0, zj x1] [zj x1] w ov w' c s
  obtain ⟨hr_1, h⟩ := h
  refine Zr_b0 (p := x1 < 0) rfl rfl (zcmp_0 (cnd := .lt) hr_1) (fun hp => ?_) (fun hp => ?_)
  · replace h := h.1 hp
    show Zr sc 23 18 [zp a0, zj x1] [] w ov w' c s
    exact h.elim
  · replace h := h.2 hp
    show Zr sc 23 4 [zp a0, zj x1] [] w ov w' c s
    refine Zr_st (q := (5, [zp a0, zj x1], [zj x1])) rfl rfl rfl ?_
    show Zr sc 23 5 [zp a0, zj x1] [zj x1] w ov w' c s
    refine Zr_st (q := (6, [zp a0, zj x1], [zp a0, zj x1])) rfl rfl rfl ?_
    show Zr sc 23 6 [zp a0, zj x1] [zp a0, zj x1] w ov w' c s
    obtain ⟨p_4, hk_9, h⟩ := h
    refine rn_cal0 (ins := .invokevirtual 83) (rest := [zj x1]) rfl rfl rfl rfl (zinv_v (fs := _) L0 rfl rfl rfl rfl) rfl rfl hk_9 ?_
    show Zr sc 23 9 [zp a0, zj x1] [zp p_4, zj x1] w ov w' c s
    obtain ⟨cn_5, fs_6, hw_7, hcn_8, h⟩ := h
    have hz_9 : ∃ kd, zinv 23 (.invokevirtual 158) [zp p_4, zj x1] (false, w) = some (kd, 20, [zp p_4], [zj x1]) ∧ decide (kd < 6) = true := by rcases hcn_8 with rfl | rfl | rfl <;> exact zinv_u hw_7 rfl rfl rfl rfl rfl rfl rfl
    obtain ⟨kd_10, hz_9⟩ := hz_9
    obtain ⟨p_13, hk_9, h⟩ := h
    refine rn_cal0 (ins := .invokevirtual 158) (rest := [zj x1]) rfl rfl rfl rfl hz_9.1 rfl hz_9.2 hk_9 ?_
    show Zr sc 23 12 [zp a0, zj x1] [zp p_13, zj x1] w ov w' c s
    obtain ⟨fs_15, hl_14, h⟩ := h
    obtain ⟨r_18, hk_9, h⟩ := h
    refine rn_cal0 (ins := .invokevirtual 162) (rest := [zj x1]) rfl rfl rfl rfl (zinv_v (fs := _) hl_14 rfl rfl rfl rfl) rfl rfl hk_9 ?_
    show Zr sc 23 15 [zp a0, zj x1] [zj r_18, zj x1] w ov w' c s
    obtain ⟨hr_19, h⟩ := h
    refine Zr_br (p := x1 < r_18) rfl rfl (zcmp_j (cnd := .lt) hr_19.1 hr_19.2) (fun hp => ?_) (fun hp => ?_)
    · replace h := h.1 hp
      show Zr sc 23 28 [zp a0, zj x1] [] w ov w' c s
      obtain ⟨h1, h2, h3, h4⟩ := h
      subst h1; subst h2; subst h3; subst h4
      exact Zr_ret (ins := .return_) rfl rfl
    · replace h := h.2 hp
      show Zr sc 23 18 [zp a0, zj x1] [] w ov w' c s
      exact h.elim

-- HeapwrightLab$Holes.placeOf(I)I
set_option maxRecDepth 100000 in
theorem V24_0 {sc : List Value} {w w' : List zE} {ov : Option Value} {c s : Nat} {a0 : Nat} {x1 : Int} {ct : Int} {op : List Int} (L0 : w[a0]? = some (zob 3 [zp (a0 + 1), zp (a0 + 2), zj ct])) (L1 : w[(a0 + 1)]? = some (za op)) (h : ((zrg x1) ∧ ((x1 < 0 → (ov = some (zj (-1)) ∧ w' = w ∧ c = 0 ∧ s = 0)) ∧ (¬ (x1 < 0) → ((zrg x1 ∧ zrg ct) ∧ ((ct ≤ x1 → (ov = some (zj (-1)) ∧ w' = w ∧ c = 0 ∧ s = 0)) ∧ (¬ (ct ≤ x1) → (((0 : Int) ≤ x1 ∧ x1 < (op.length : Int) ∧ x1 ≤ (2147483647 : Int)) ∧ (ov = some (zj (zgi op x1)) ∧ w' = w ∧ c = 0 ∧ s = 0))))))))) : Zr sc 24 0 [zp a0, zj x1] [] w ov w' c s := by
  refine Zr_st (q := (1, [zp a0, zj x1], [zj x1])) rfl rfl rfl ?_
  show Zr sc 24 1 [zp a0, zj x1] [zj x1] w ov w' c s
  obtain ⟨hr_1, h⟩ := h
  refine Zr_b0 (p := x1 < 0) rfl rfl (zcmp_0 (cnd := .lt) hr_1) (fun hp => ?_) (fun hp => ?_)
  · replace h := h.1 hp
    show Zr sc 24 21 [zp a0, zj x1] [] w ov w' c s
    refine rl_ic rfl ?_
    show Zr sc 24 22 [zp a0, zj x1] [zj (-1)] w ov w' c s
    obtain ⟨h1, h2, h3, h4⟩ := h
    subst h1; subst h2; subst h3; subst h4
    exact Zr_ret (ins := .ireturn) rfl rfl
  · replace h := h.2 hp
    show Zr sc 24 4 [zp a0, zj x1] [] w ov w' c s
    refine Zr_st (q := (5, [zp a0, zj x1], [zj x1])) rfl rfl rfl ?_
    show Zr sc 24 5 [zp a0, zj x1] [zj x1] w ov w' c s
    refine Zr_st (q := (6, [zp a0, zj x1], [zp a0, zj x1])) rfl rfl rfl ?_
    show Zr sc 24 6 [zp a0, zj x1] [zp a0, zj x1] w ov w' c s
    refine rl_gf rfl L0 rfl rfl ?_
    show Zr sc 24 9 [zp a0, zj x1] [zj ct, zj x1] w ov w' c s
    obtain ⟨hr_2, h⟩ := h
    refine Zr_br (p := ct ≤ x1) rfl rfl (zcmp_j (cnd := .ge) hr_2.1 hr_2.2) (fun hp => ?_) (fun hp => ?_)
    · replace h := h.1 hp
      show Zr sc 24 21 [zp a0, zj x1] [] w ov w' c s
      refine rl_ic rfl ?_
      show Zr sc 24 22 [zp a0, zj x1] [zj (-1)] w ov w' c s
      obtain ⟨h1, h2, h3, h4⟩ := h
      subst h1; subst h2; subst h3; subst h4
      exact Zr_ret (ins := .ireturn) rfl rfl
    · replace h := h.2 hp
      show Zr sc 24 12 [zp a0, zj x1] [] w ov w' c s
      refine Zr_st (q := (13, [zp a0, zj x1], [zp a0])) rfl rfl rfl ?_
      show Zr sc 24 13 [zp a0, zj x1] [zp a0] w ov w' c s
      refine rl_gf rfl L0 rfl rfl ?_
      show Zr sc 24 16 [zp a0, zj x1] [zp (a0 + 1)] w ov w' c s
      refine Zr_st (q := (17, [zp a0, zj x1], [zj x1, zp (a0 + 1)])) rfl rfl rfl ?_
      show Zr sc 24 17 [zp a0, zj x1] [zj x1, zp (a0 + 1)] w ov w' c s
      obtain ⟨hi_3, h⟩ := h
      refine rl_ia rfl L1 hi_3.1 hi_3.2.1 hi_3.2.2 ?_
      show Zr sc 24 18 [zp a0, zj x1] [zj (zgi op x1)] w ov w' c s
      refine Zr_st (q := (22, [zp a0, zj x1], [zj (zgi op x1)])) rfl rfl rfl ?_
      show Zr sc 24 22 [zp a0, zj x1] [zj (zgi op x1)] w ov w' c s
      obtain ⟨h1, h2, h3, h4⟩ := h
      subst h1; subst h2; subst h3; subst h4
      exact Zr_ret (ins := .ireturn) rfl rfl

-- HeapwrightLab.holeSize(I)I
set_option maxRecDepth 100000 in
theorem V25_0 {sc : List Value} {w w' : List zE} {ov : Option Value} {c s : Nat} {a0 : Nat} {x1 : Int} {wy : Int} (L0 : w[a0]? = some (zob 6 [zp (a0 + 1), zp (a0 + 5), zp (a0 + 16), zp (a0 + 27), zp (a0 + 38), zp (a0 + 49), zp (a0 + 60), zj wy])) (h : ((Zc sc 23 [zp a0, zj x1] w none w 0 0) ∧ (∃ p_5 : Nat, Zc sc 1 [zp a0] w (some (zp p_5)) w 0 0 ∧ (∃ cn_6 : Nat, ∃ fs_7 : List Value, w[p_5]? = some (zob cn_6 fs_7) ∧ (cn_6 = 1 ∨ cn_6 = 2 ∨ cn_6 = 4) ∧ (∃ p_14 : Nat, Zc sc 20 [zp p_5] w (some (zp p_14)) w 0 0 ∧ (∃ fs_16 : List Value, w[p_14]? = some (zob 3 fs_16) ∧ (∃ r_19 : Int, Zc sc 26 [zp p_14, zj x1] w (some (zj r_19)) w 0 0 ∧ (ov = some (zj r_19) ∧ w' = w ∧ c = 0 ∧ s = 0)))))))) : Zr sc 25 0 [zp a0, zj x1] [] w ov w' c s := by
  refine Zr_st (q := (1, [zp a0, zj x1], [zp a0])) rfl rfl rfl ?_
  show Zr sc 25 1 [zp a0, zj x1] [zp a0] w ov w' c s
  refine Zr_st (q := (2, [zp a0, zj x1], [zj x1, zp a0])) rfl rfl rfl ?_
  show Zr sc 25 2 [zp a0, zj x1] [zj x1, zp a0] w ov w' c s
  obtain ⟨hk_9, h⟩ := h
  refine rn_cal0 (ins := .invokevirtual 165) (rest := []) rfl rfl rfl rfl (zinv_v (fs := _) L0 rfl rfl rfl rfl) rfl rfl hk_9 ?_
  show Zr sc 25 5 [zp a0, zj x1] [] w ov w' c s
  refine Zr_st (q := (6, [zp a0, zj x1], [zp a0])) rfl rfl rfl ?_
  show Zr sc 25 6 [zp a0, zj x1] [zp a0] w ov w' c s
  obtain ⟨p_5, hk_9, h⟩ := h
  refine rn_cal0 (ins := .invokevirtual 83) (rest := []) rfl rfl rfl rfl (zinv_v (fs := _) L0 rfl rfl rfl rfl) rfl rfl hk_9 ?_
  show Zr sc 25 9 [zp a0, zj x1] [zp p_5] w ov w' c s
  obtain ⟨cn_6, fs_7, hw_8, hcn_9, h⟩ := h
  have hz_10 : ∃ kd, zinv 25 (.invokevirtual 158) [zp p_5] (false, w) = some (kd, 20, [zp p_5], []) ∧ decide (kd < 6) = true := by rcases hcn_9 with rfl | rfl | rfl <;> exact zinv_u hw_8 rfl rfl rfl rfl rfl rfl rfl
  obtain ⟨kd_11, hz_10⟩ := hz_10
  obtain ⟨p_14, hk_9, h⟩ := h
  refine rn_cal0 (ins := .invokevirtual 158) (rest := []) rfl rfl rfl rfl hz_10.1 rfl hz_10.2 hk_9 ?_
  show Zr sc 25 12 [zp a0, zj x1] [zp p_14] w ov w' c s
  refine Zr_st (q := (13, [zp a0, zj x1], [zj x1, zp p_14])) rfl rfl rfl ?_
  show Zr sc 25 13 [zp a0, zj x1] [zj x1, zp p_14] w ov w' c s
  obtain ⟨fs_16, hl_15, h⟩ := h
  obtain ⟨r_19, hk_9, h⟩ := h
  refine rn_cal0 (ins := .invokevirtual 169) (rest := []) rfl rfl rfl rfl (zinv_v (fs := _) hl_15 rfl rfl rfl rfl) rfl rfl hk_9 ?_
  show Zr sc 25 16 [zp a0, zj x1] [zj r_19] w ov w' c s
  obtain ⟨h1, h2, h3, h4⟩ := h
  subst h1; subst h2; subst h3; subst h4
  exact Zr_ret (ins := .ireturn) rfl rfl

-- HeapwrightLab$Holes.sizeOf(I)I
set_option maxRecDepth 100000 in
theorem V26_0 {sc : List Value} {w w' : List zE} {ov : Option Value} {c s : Nat} {a0 : Nat} {x1 : Int} {ct : Int} {oz : List Int} (L0 : w[a0]? = some (zob 3 [zp (a0 + 1), zp (a0 + 2), zj ct])) (L2 : w[(a0 + 2)]? = some (za oz)) (h : ((zrg x1) ∧ ((x1 < 0 → (ov = some (zj 0) ∧ w' = w ∧ c = 0 ∧ s = 0)) ∧ (¬ (x1 < 0) → ((zrg x1 ∧ zrg ct) ∧ ((ct ≤ x1 → (ov = some (zj 0) ∧ w' = w ∧ c = 0 ∧ s = 0)) ∧ (¬ (ct ≤ x1) → (((0 : Int) ≤ x1 ∧ x1 < (oz.length : Int) ∧ x1 ≤ (2147483647 : Int)) ∧ (ov = some (zj (zgi oz x1)) ∧ w' = w ∧ c = 0 ∧ s = 0))))))))) : Zr sc 26 0 [zp a0, zj x1] [] w ov w' c s := by
  refine Zr_st (q := (1, [zp a0, zj x1], [zj x1])) rfl rfl rfl ?_
  show Zr sc 26 1 [zp a0, zj x1] [zj x1] w ov w' c s
  obtain ⟨hr_1, h⟩ := h
  refine Zr_b0 (p := x1 < 0) rfl rfl (zcmp_0 (cnd := .lt) hr_1) (fun hp => ?_) (fun hp => ?_)
  · replace h := h.1 hp
    show Zr sc 26 21 [zp a0, zj x1] [] w ov w' c s
    refine rl_ic rfl ?_
    show Zr sc 26 22 [zp a0, zj x1] [zj 0] w ov w' c s
    obtain ⟨h1, h2, h3, h4⟩ := h
    subst h1; subst h2; subst h3; subst h4
    exact Zr_ret (ins := .ireturn) rfl rfl
  · replace h := h.2 hp
    show Zr sc 26 4 [zp a0, zj x1] [] w ov w' c s
    refine Zr_st (q := (5, [zp a0, zj x1], [zj x1])) rfl rfl rfl ?_
    show Zr sc 26 5 [zp a0, zj x1] [zj x1] w ov w' c s
    refine Zr_st (q := (6, [zp a0, zj x1], [zp a0, zj x1])) rfl rfl rfl ?_
    show Zr sc 26 6 [zp a0, zj x1] [zp a0, zj x1] w ov w' c s
    refine rl_gf rfl L0 rfl rfl ?_
    show Zr sc 26 9 [zp a0, zj x1] [zj ct, zj x1] w ov w' c s
    obtain ⟨hr_2, h⟩ := h
    refine Zr_br (p := ct ≤ x1) rfl rfl (zcmp_j (cnd := .ge) hr_2.1 hr_2.2) (fun hp => ?_) (fun hp => ?_)
    · replace h := h.1 hp
      show Zr sc 26 21 [zp a0, zj x1] [] w ov w' c s
      refine rl_ic rfl ?_
      show Zr sc 26 22 [zp a0, zj x1] [zj 0] w ov w' c s
      obtain ⟨h1, h2, h3, h4⟩ := h
      subst h1; subst h2; subst h3; subst h4
      exact Zr_ret (ins := .ireturn) rfl rfl
    · replace h := h.2 hp
      show Zr sc 26 12 [zp a0, zj x1] [] w ov w' c s
      refine Zr_st (q := (13, [zp a0, zj x1], [zp a0])) rfl rfl rfl ?_
      show Zr sc 26 13 [zp a0, zj x1] [zp a0] w ov w' c s
      refine rl_gf rfl L0 rfl rfl ?_
      show Zr sc 26 16 [zp a0, zj x1] [zp (a0 + 2)] w ov w' c s
      refine Zr_st (q := (17, [zp a0, zj x1], [zj x1, zp (a0 + 2)])) rfl rfl rfl ?_
      show Zr sc 26 17 [zp a0, zj x1] [zj x1, zp (a0 + 2)] w ov w' c s
      obtain ⟨hi_3, h⟩ := h
      refine rl_ia rfl L2 hi_3.1 hi_3.2.1 hi_3.2.2 ?_
      show Zr sc 26 18 [zp a0, zj x1] [zj (zgi oz x1)] w ov w' c s
      refine Zr_st (q := (22, [zp a0, zj x1], [zj (zgi oz x1)])) rfl rfl rfl ?_
      show Zr sc 26 22 [zp a0, zj x1] [zj (zgi oz x1)] w ov w' c s
      obtain ⟨h1, h2, h3, h4⟩ := h
      subst h1; subst h2; subst h3; subst h4
      exact Zr_ret (ins := .ireturn) rfl rfl

-- HeapwrightLab.used()I
set_option maxRecDepth 100000 in
theorem V27_0 {sc : List Value} {w w' : List zE} {ov : Option Value} {c s : Nat} {a0 : Nat} {wy : Int} (L0 : w[a0]? = some (zob 6 [zp (a0 + 1), zp (a0 + 5), zp (a0 + 16), zp (a0 + 27), zp (a0 + 38), zp (a0 + 49), zp (a0 + 60), zj wy])) (h : (∃ p_3 : Nat, Zc sc 1 [zp a0] w (some (zp p_3)) w 0 0 ∧ (∃ cn_4 : Nat, ∃ fs_5 : List Value, w[p_3]? = some (zob cn_4 fs_5) ∧ (cn_4 = 1 ∨ cn_4 = 2 ∨ cn_4 = 4) ∧ (∃ p_12 : Nat, Zc sc 6 [zp p_3] w (some (zp p_12)) w 0 0 ∧ (∃ fs_14 : List Value, w[p_12]? = some (zob 0 fs_14) ∧ (∃ r_17 : Int, Zc sc 28 [zp p_12] w (some (zj r_17)) w 0 0 ∧ (ov = some (zj r_17) ∧ w' = w ∧ c = 0 ∧ s = 0))))))) : Zr sc 27 0 [zp a0] [] w ov w' c s := by
  refine Zr_st (q := (1, [zp a0], [zp a0])) rfl rfl rfl ?_
  show Zr sc 27 1 [zp a0] [zp a0] w ov w' c s
  obtain ⟨p_3, hk_9, h⟩ := h
  refine rn_cal0 (ins := .invokevirtual 83) (rest := []) rfl rfl rfl rfl (zinv_v (fs := _) L0 rfl rfl rfl rfl) rfl rfl hk_9 ?_
  show Zr sc 27 4 [zp a0] [zp p_3] w ov w' c s
  obtain ⟨cn_4, fs_5, hw_6, hcn_7, h⟩ := h
  have hz_8 : ∃ kd, zinv 27 (.invokevirtual 113) [zp p_3] (false, w) = some (kd, 6, [zp p_3], []) ∧ decide (kd < 6) = true := by rcases hcn_7 with rfl | rfl | rfl <;> exact zinv_u hw_6 rfl rfl rfl rfl rfl rfl rfl
  obtain ⟨kd_9, hz_8⟩ := hz_8
  obtain ⟨p_12, hk_9, h⟩ := h
  refine rn_cal0 (ins := .invokevirtual 113) (rest := []) rfl rfl rfl rfl hz_8.1 rfl hz_8.2 hk_9 ?_
  show Zr sc 27 7 [zp a0] [zp p_12] w ov w' c s
  obtain ⟨fs_14, hl_13, h⟩ := h
  obtain ⟨r_17, hk_9, h⟩ := h
  refine rn_cal0 (ins := .invokevirtual 178) (rest := []) rfl rfl rfl rfl (zinv_v (fs := _) hl_13 rfl rfl rfl rfl) rfl rfl hk_9 ?_
  show Zr sc 27 10 [zp a0] [zj r_17] w ov w' c s
  obtain ⟨h1, h2, h3, h4⟩ := h
  subst h1; subst h2; subst h3; subst h4
  exact Zr_ret (ins := .ireturn) rfl rfl

-- HeapwrightLab$Blocks.allRooms()I
set_option maxRecDepth 100000 in
theorem V28_0 {sc : List Value} {w w' : List zE} {ov : Option Value} {c s : Nat} {a0 : Nat} {ct : Int} {rt : Int} (L0 : w[a0]? = some (zob 0 [zp (a0 + 1), zp (a0 + 2), zp (a0 + 3), zp (a0 + 4), zj ct, zj rt])) (h : (ov = some (zj rt) ∧ w' = w ∧ c = 0 ∧ s = 0)) : Zr sc 28 0 [zp a0] [] w ov w' c s := by
  refine Zr_st (q := (1, [zp a0], [zp a0])) rfl rfl rfl ?_
  show Zr sc 28 1 [zp a0] [zp a0] w ov w' c s
  refine rl_gf rfl L0 rfl rfl ?_
  show Zr sc 28 4 [zp a0] [zj rt] w ov w' c s
  obtain ⟨h1, h2, h3, h4⟩ := h
  subst h1; subst h2; subst h3; subst h4
  exact Zr_ret (ins := .ireturn) rfl rfl

-- HeapwrightLab.wasted()I
set_option maxRecDepth 100000 in
theorem V29_0 {sc : List Value} {w w' : List zE} {ov : Option Value} {c s : Nat} {a0 : Nat} {wy : Int} (L0 : w[a0]? = some (zob 6 [zp (a0 + 1), zp (a0 + 5), zp (a0 + 16), zp (a0 + 27), zp (a0 + 38), zp (a0 + 49), zp (a0 + 60), zj wy])) (h : (∃ p_3 : Nat, Zc sc 1 [zp a0] w (some (zp p_3)) w 0 0 ∧ (∃ cn_4 : Nat, ∃ fs_5 : List Value, w[p_3]? = some (zob cn_4 fs_5) ∧ (cn_4 = 1 ∨ cn_4 = 2 ∨ cn_4 = 4) ∧ (∃ p_12 : Nat, Zc sc 6 [zp p_3] w (some (zp p_12)) w 0 0 ∧ (∃ fs_14 : List Value, w[p_12]? = some (zob 0 fs_14) ∧ (∃ r_17 : Int, Zc sc 28 [zp p_12] w (some (zj r_17)) w 0 0 ∧ (∃ p_20 : Nat, Zc sc 1 [zp a0] w (some (zp p_20)) w 0 0 ∧ (∃ cn_21 : Nat, ∃ fs_22 : List Value, w[p_20]? = some (zob cn_21 fs_22) ∧ (cn_21 = 1 ∨ cn_21 = 2 ∨ cn_21 = 4) ∧ (∃ p_29 : Nat, Zc sc 6 [zp p_20] w (some (zp p_29)) w 0 0 ∧ (∃ fs_31 : List Value, w[p_29]? = some (zob 0 fs_31) ∧ (∃ r_34 : Int, Zc sc 30 [zp p_29] w (some (zj r_34)) w 0 0 ∧ (ov = some (zj (r_17 - r_34)) ∧ w' = w ∧ c = 0 ∧ s = 0)))))))))))) : Zr sc 29 0 [zp a0] [] w ov w' c s := by
  refine Zr_st (q := (1, [zp a0], [zp a0])) rfl rfl rfl ?_
  show Zr sc 29 1 [zp a0] [zp a0] w ov w' c s
  obtain ⟨p_3, hk_9, h⟩ := h
  refine rn_cal0 (ins := .invokevirtual 83) (rest := []) rfl rfl rfl rfl (zinv_v (fs := _) L0 rfl rfl rfl rfl) rfl rfl hk_9 ?_
  show Zr sc 29 4 [zp a0] [zp p_3] w ov w' c s
  obtain ⟨cn_4, fs_5, hw_6, hcn_7, h⟩ := h
  have hz_8 : ∃ kd, zinv 29 (.invokevirtual 113) [zp p_3] (false, w) = some (kd, 6, [zp p_3], []) ∧ decide (kd < 6) = true := by rcases hcn_7 with rfl | rfl | rfl <;> exact zinv_u hw_6 rfl rfl rfl rfl rfl rfl rfl
  obtain ⟨kd_9, hz_8⟩ := hz_8
  obtain ⟨p_12, hk_9, h⟩ := h
  refine rn_cal0 (ins := .invokevirtual 113) (rest := []) rfl rfl rfl rfl hz_8.1 rfl hz_8.2 hk_9 ?_
  show Zr sc 29 7 [zp a0] [zp p_12] w ov w' c s
  obtain ⟨fs_14, hl_13, h⟩ := h
  obtain ⟨r_17, hk_9, h⟩ := h
  refine rn_cal0 (ins := .invokevirtual 178) (rest := []) rfl rfl rfl rfl (zinv_v (fs := _) hl_13 rfl rfl rfl rfl) rfl rfl hk_9 ?_
  show Zr sc 29 10 [zp a0] [zj r_17] w ov w' c s
  refine Zr_st (q := (11, [zp a0], [zp a0, zj r_17])) rfl rfl rfl ?_
  show Zr sc 29 11 [zp a0] [zp a0, zj r_17] w ov w' c s
  obtain ⟨p_20, hk_9, h⟩ := h
  refine rn_cal0 (ins := .invokevirtual 83) (rest := [zj r_17]) rfl rfl rfl rfl (zinv_v (fs := _) L0 rfl rfl rfl rfl) rfl rfl hk_9 ?_
  show Zr sc 29 14 [zp a0] [zp p_20, zj r_17] w ov w' c s
  obtain ⟨cn_21, fs_22, hw_23, hcn_24, h⟩ := h
  have hz_25 : ∃ kd, zinv 29 (.invokevirtual 113) [zp p_20, zj r_17] (false, w) = some (kd, 6, [zp p_20], [zj r_17]) ∧ decide (kd < 6) = true := by rcases hcn_24 with rfl | rfl | rfl <;> exact zinv_u hw_23 rfl rfl rfl rfl rfl rfl rfl
  obtain ⟨kd_26, hz_25⟩ := hz_25
  obtain ⟨p_29, hk_9, h⟩ := h
  refine rn_cal0 (ins := .invokevirtual 113) (rest := [zj r_17]) rfl rfl rfl rfl hz_25.1 rfl hz_25.2 hk_9 ?_
  show Zr sc 29 17 [zp a0] [zp p_29, zj r_17] w ov w' c s
  obtain ⟨fs_31, hl_30, h⟩ := h
  obtain ⟨r_34, hk_9, h⟩ := h
  refine rn_cal0 (ins := .invokevirtual 181) (rest := [zj r_17]) rfl rfl rfl rfl (zinv_v (fs := _) hl_30 rfl rfl rfl rfl) rfl rfl hk_9 ?_
  show Zr sc 29 20 [zp a0] [zj r_34, zj r_17] w ov w' c s
  refine rl_sub rfl ?_
  show Zr sc 29 21 [zp a0] [zj (r_17 - r_34)] w ov w' c s
  obtain ⟨h1, h2, h3, h4⟩ := h
  subst h1; subst h2; subst h3; subst h4
  exact Zr_ret (ins := .ireturn) rfl rfl

-- HeapwrightLab$Blocks.allSizes()I
set_option maxRecDepth 100000 in
theorem V30_0 {sc : List Value} {w w' : List zE} {ov : Option Value} {c s : Nat} {a0 : Nat} (h : Zr sc 30 4 [zp a0, zj 0, zj 0] [] w ov w' c s) : Zr sc 30 0 [zp a0, zmk, zmk] [] w ov w' c s := by
  refine rl_ic rfl ?_
  show Zr sc 30 1 [zp a0, zmk, zmk] [zj 0] w ov w' c s
  refine Zr_st (q := (2, [zp a0, zj 0, zmk], [])) rfl rfl rfl ?_
  show Zr sc 30 2 [zp a0, zj 0, zmk] [] w ov w' c s
  refine rl_ic rfl ?_
  show Zr sc 30 3 [zp a0, zj 0, zmk] [zj 0] w ov w' c s
  refine Zr_st (q := (4, [zp a0, zj 0, zj 0], [])) rfl rfl rfl ?_
  show Zr sc 30 4 [zp a0, zj 0, zj 0] [] w ov w' c s
  exact h
set_option maxRecDepth 100000 in
theorem V30_4 {sc : List Value} {w w' : List zE} {ov : Option Value} {c s : Nat} {a0 : Nat} {x1 : Int} {x2 : Int} {ct : Int} {rt : Int} {bp : List Int} (L0 : w[a0]? = some (zob 0 [zp (a0 + 1), zp (a0 + 2), zp (a0 + 3), zp (a0 + 4), zj ct, zj rt])) (L4 : w[(a0 + 4)]? = some (za bp)) (h : ((zrg x2 ∧ zrg ct) ∧ ((ct ≤ x2 → (ov = some (zj x1) ∧ w' = w ∧ c = 0 ∧ s = 0)) ∧ (¬ (ct ≤ x2) → (((0 : Int) ≤ x2 ∧ x2 < (bp.length : Int) ∧ x2 ≤ (2147483647 : Int)) ∧ (∃ r_5 : Int, Zc sc 11 [zp a0, zj (zgi bp x2)] w (some (zj r_5)) w 0 0 ∧ Zr sc 30 4 [zp a0, zj (x1 + r_5), zj (x2 + 1)] [] w ov w' c s)))))) : Zr sc 30 4 [zp a0, zj x1, zj x2] [] w ov w' c s := by
  refine Zr_st (q := (5, [zp a0, zj x1, zj x2], [zj x2])) rfl rfl rfl ?_
  show Zr sc 30 5 [zp a0, zj x1, zj x2] [zj x2] w ov w' c s
  refine Zr_st (q := (6, [zp a0, zj x1, zj x2], [zp a0, zj x2])) rfl rfl rfl ?_
  show Zr sc 30 6 [zp a0, zj x1, zj x2] [zp a0, zj x2] w ov w' c s
  refine rl_gf rfl L0 rfl rfl ?_
  show Zr sc 30 9 [zp a0, zj x1, zj x2] [zj ct, zj x2] w ov w' c s
  obtain ⟨hr_1, h⟩ := h
  refine Zr_br (p := ct ≤ x2) rfl rfl (zcmp_j (cnd := .ge) hr_1.1 hr_1.2) (fun hp => ?_) (fun hp => ?_)
  · replace h := h.1 hp
    show Zr sc 30 31 [zp a0, zj x1, zj x2] [] w ov w' c s
    refine Zr_st (q := (32, [zp a0, zj x1, zj x2], [zj x1])) rfl rfl rfl ?_
    show Zr sc 30 32 [zp a0, zj x1, zj x2] [zj x1] w ov w' c s
    obtain ⟨h1, h2, h3, h4⟩ := h
    subst h1; subst h2; subst h3; subst h4
    exact Zr_ret (ins := .ireturn) rfl rfl
  · replace h := h.2 hp
    show Zr sc 30 12 [zp a0, zj x1, zj x2] [] w ov w' c s
    refine Zr_st (q := (13, [zp a0, zj x1, zj x2], [zj x1])) rfl rfl rfl ?_
    show Zr sc 30 13 [zp a0, zj x1, zj x2] [zj x1] w ov w' c s
    refine Zr_st (q := (14, [zp a0, zj x1, zj x2], [zp a0, zj x1])) rfl rfl rfl ?_
    show Zr sc 30 14 [zp a0, zj x1, zj x2] [zp a0, zj x1] w ov w' c s
    refine Zr_st (q := (15, [zp a0, zj x1, zj x2], [zp a0, zp a0, zj x1])) rfl rfl rfl ?_
    show Zr sc 30 15 [zp a0, zj x1, zj x2] [zp a0, zp a0, zj x1] w ov w' c s
    refine rl_gf rfl L0 rfl rfl ?_
    show Zr sc 30 18 [zp a0, zj x1, zj x2] [zp (a0 + 4), zp a0, zj x1] w ov w' c s
    refine Zr_st (q := (19, [zp a0, zj x1, zj x2], [zj x2, zp (a0 + 4), zp a0, zj x1])) rfl rfl rfl ?_
    show Zr sc 30 19 [zp a0, zj x1, zj x2] [zj x2, zp (a0 + 4), zp a0, zj x1] w ov w' c s
    obtain ⟨hi_2, h⟩ := h
    refine rl_ia rfl L4 hi_2.1 hi_2.2.1 hi_2.2.2 ?_
    show Zr sc 30 20 [zp a0, zj x1, zj x2] [zj (zgi bp x2), zp a0, zj x1] w ov w' c s
    obtain ⟨r_5, hk_9, h⟩ := h
    refine rn_cal0 (ins := .invokevirtual 41) (rest := [zj x1]) rfl rfl rfl rfl (zinv_v (fs := _) L0 rfl rfl rfl rfl) rfl rfl hk_9 ?_
    show Zr sc 30 23 [zp a0, zj x1, zj x2] [zj r_5, zj x1] w ov w' c s
    refine rl_add rfl ?_
    show Zr sc 30 24 [zp a0, zj x1, zj x2] [zj (x1 + r_5)] w ov w' c s
    refine Zr_st (q := (25, [zp a0, zj (x1 + r_5), zj x2], [])) rfl rfl rfl ?_
    show Zr sc 30 25 [zp a0, zj (x1 + r_5), zj x2] [] w ov w' c s
    refine rl_inc rfl rfl rfl rfl ?_
    show Zr sc 30 28 [zp a0, zj (x1 + r_5), zj (x2 + 1)] [] w ov w' c s
    refine Zr_st (q := (4, [zp a0, zj (x1 + r_5), zj (x2 + 1)], [])) rfl rfl rfl ?_
    show Zr sc 30 4 [zp a0, zj (x1 + r_5), zj (x2 + 1)] [] w ov w' c s
    exact h

-- HeapwrightLab.largest()I
set_option maxRecDepth 100000 in
theorem V31_0 {sc : List Value} {w w' : List zE} {ov : Option Value} {c s : Nat} {a0 : Nat} {wy : Int} (L0 : w[a0]? = some (zob 6 [zp (a0 + 1), zp (a0 + 5), zp (a0 + 16), zp (a0 + 27), zp (a0 + 38), zp (a0 + 49), zp (a0 + 60), zj wy])) (h : (∃ p_3 : Nat, Zc sc 1 [zp a0] w (some (zp p_3)) w 0 0 ∧ (∃ cn_4 : Nat, ∃ fs_5 : List Value, w[p_3]? = some (zob cn_4 fs_5) ∧ (cn_4 = 1 ∨ cn_4 = 2 ∨ cn_4 = 4) ∧ (∃ p_12 : Nat, Zc sc 20 [zp p_3] w (some (zp p_12)) w 0 0 ∧ (∃ fs_14 : List Value, w[p_12]? = some (zob 3 fs_14) ∧ (∃ r_17 : Int, Zc sc 32 [zp p_12] w (some (zj r_17)) w 0 0 ∧ (ov = some (zj r_17) ∧ w' = w ∧ c = 0 ∧ s = 0))))))) : Zr sc 31 0 [zp a0] [] w ov w' c s := by
  refine Zr_st (q := (1, [zp a0], [zp a0])) rfl rfl rfl ?_
  show Zr sc 31 1 [zp a0] [zp a0] w ov w' c s
  obtain ⟨p_3, hk_9, h⟩ := h
  refine rn_cal0 (ins := .invokevirtual 83) (rest := []) rfl rfl rfl rfl (zinv_v (fs := _) L0 rfl rfl rfl rfl) rfl rfl hk_9 ?_
  show Zr sc 31 4 [zp a0] [zp p_3] w ov w' c s
  obtain ⟨cn_4, fs_5, hw_6, hcn_7, h⟩ := h
  have hz_8 : ∃ kd, zinv 31 (.invokevirtual 158) [zp p_3] (false, w) = some (kd, 20, [zp p_3], []) ∧ decide (kd < 6) = true := by rcases hcn_7 with rfl | rfl | rfl <;> exact zinv_u hw_6 rfl rfl rfl rfl rfl rfl rfl
  obtain ⟨kd_9, hz_8⟩ := hz_8
  obtain ⟨p_12, hk_9, h⟩ := h
  refine rn_cal0 (ins := .invokevirtual 158) (rest := []) rfl rfl rfl rfl hz_8.1 rfl hz_8.2 hk_9 ?_
  show Zr sc 31 7 [zp a0] [zp p_12] w ov w' c s
  obtain ⟨fs_14, hl_13, h⟩ := h
  obtain ⟨r_17, hk_9, h⟩ := h
  refine rn_cal0 (ins := .invokevirtual 184) (rest := []) rfl rfl rfl rfl (zinv_v (fs := _) hl_13 rfl rfl rfl rfl) rfl rfl hk_9 ?_
  show Zr sc 31 10 [zp a0] [zj r_17] w ov w' c s
  obtain ⟨h1, h2, h3, h4⟩ := h
  subst h1; subst h2; subst h3; subst h4
  exact Zr_ret (ins := .ireturn) rfl rfl

-- HeapwrightLab$Holes.largestSize()I
set_option maxRecDepth 100000 in
theorem V32_0 {sc : List Value} {w w' : List zE} {ov : Option Value} {c s : Nat} {a0 : Nat} (h : Zr sc 32 4 [zp a0, zj 0, zj 0] [] w ov w' c s) : Zr sc 32 0 [zp a0, zmk, zmk] [] w ov w' c s := by
  refine rl_ic rfl ?_
  show Zr sc 32 1 [zp a0, zmk, zmk] [zj 0] w ov w' c s
  refine Zr_st (q := (2, [zp a0, zj 0, zmk], [])) rfl rfl rfl ?_
  show Zr sc 32 2 [zp a0, zj 0, zmk] [] w ov w' c s
  refine rl_ic rfl ?_
  show Zr sc 32 3 [zp a0, zj 0, zmk] [zj 0] w ov w' c s
  refine Zr_st (q := (4, [zp a0, zj 0, zj 0], [])) rfl rfl rfl ?_
  show Zr sc 32 4 [zp a0, zj 0, zj 0] [] w ov w' c s
  exact h
set_option maxRecDepth 100000 in
theorem V32_4 {sc : List Value} {w w' : List zE} {ov : Option Value} {c s : Nat} {a0 : Nat} {x1 : Int} {x2 : Int} {ct : Int} {oz : List Int} (L0 : w[a0]? = some (zob 3 [zp (a0 + 1), zp (a0 + 2), zj ct])) (L2 : w[(a0 + 2)]? = some (za oz)) (h : ((zrg x2 ∧ zrg ct) ∧ ((ct ≤ x2 → (ov = some (zj x1) ∧ w' = w ∧ c = 0 ∧ s = 0)) ∧ (¬ (ct ≤ x2) → (((0 : Int) ≤ x2 ∧ x2 < (oz.length : Int) ∧ x2 ≤ (2147483647 : Int)) ∧ ((zrg x1 ∧ zrg (zgi oz x2)) ∧ Zr sc 32 4 [zp a0, zj (max x1 (zgi oz x2)), zj (x2 + 1)] [] w ov w' c s)))))) : Zr sc 32 4 [zp a0, zj x1, zj x2] [] w ov w' c s := by
  refine Zr_st (q := (5, [zp a0, zj x1, zj x2], [zj x2])) rfl rfl rfl ?_
  show Zr sc 32 5 [zp a0, zj x1, zj x2] [zj x2] w ov w' c s
  refine Zr_st (q := (6, [zp a0, zj x1, zj x2], [zp a0, zj x2])) rfl rfl rfl ?_
  show Zr sc 32 6 [zp a0, zj x1, zj x2] [zp a0, zj x2] w ov w' c s
  refine rl_gf rfl L0 rfl rfl ?_
  show Zr sc 32 9 [zp a0, zj x1, zj x2] [zj ct, zj x2] w ov w' c s
  obtain ⟨hr_1, h⟩ := h
  refine Zr_br (p := ct ≤ x2) rfl rfl (zcmp_j (cnd := .ge) hr_1.1 hr_1.2) (fun hp => ?_) (fun hp => ?_)
  · replace h := h.1 hp
    show Zr sc 32 29 [zp a0, zj x1, zj x2] [] w ov w' c s
    refine Zr_st (q := (30, [zp a0, zj x1, zj x2], [zj x1])) rfl rfl rfl ?_
    show Zr sc 32 30 [zp a0, zj x1, zj x2] [zj x1] w ov w' c s
    obtain ⟨h1, h2, h3, h4⟩ := h
    subst h1; subst h2; subst h3; subst h4
    exact Zr_ret (ins := .ireturn) rfl rfl
  · replace h := h.2 hp
    show Zr sc 32 12 [zp a0, zj x1, zj x2] [] w ov w' c s
    refine Zr_st (q := (13, [zp a0, zj x1, zj x2], [zj x1])) rfl rfl rfl ?_
    show Zr sc 32 13 [zp a0, zj x1, zj x2] [zj x1] w ov w' c s
    refine Zr_st (q := (14, [zp a0, zj x1, zj x2], [zp a0, zj x1])) rfl rfl rfl ?_
    show Zr sc 32 14 [zp a0, zj x1, zj x2] [zp a0, zj x1] w ov w' c s
    refine rl_gf rfl L0 rfl rfl ?_
    show Zr sc 32 17 [zp a0, zj x1, zj x2] [zp (a0 + 2), zj x1] w ov w' c s
    refine Zr_st (q := (18, [zp a0, zj x1, zj x2], [zj x2, zp (a0 + 2), zj x1])) rfl rfl rfl ?_
    show Zr sc 32 18 [zp a0, zj x1, zj x2] [zj x2, zp (a0 + 2), zj x1] w ov w' c s
    obtain ⟨hi_2, h⟩ := h
    refine rl_ia rfl L2 hi_2.1 hi_2.2.1 hi_2.2.2 ?_
    show Zr sc 32 19 [zp a0, zj x1, zj x2] [zj (zgi oz x2), zj x1] w ov w' c s
    obtain ⟨hm_3, h⟩ := h
    refine Zr_mx (b := true) (ins := .invokestatic 22) (rest := []) rfl rfl rfl rfl (zinv_t2 (rest := []) rfl rfl rfl rfl rfl) rfl (zmx_j hm_3.1 hm_3.2) ?_
    show Zr sc 32 22 [zp a0, zj x1, zj x2] [zj (max x1 (zgi oz x2))] w ov w' c s
    refine Zr_st (q := (23, [zp a0, zj (max x1 (zgi oz x2)), zj x2], [])) rfl rfl rfl ?_
    show Zr sc 32 23 [zp a0, zj (max x1 (zgi oz x2)), zj x2] [] w ov w' c s
    refine rl_inc rfl rfl rfl rfl ?_
    show Zr sc 32 26 [zp a0, zj (max x1 (zgi oz x2)), zj (x2 + 1)] [] w ov w' c s
    refine Zr_st (q := (4, [zp a0, zj (max x1 (zgi oz x2)), zj (x2 + 1)], [])) rfl rfl rfl ?_
    show Zr sc 32 4 [zp a0, zj (max x1 (zgi oz x2)), zj (x2 + 1)] [] w ov w' c s
    exact h

-- HeapwrightLab.counted(I)I
set_option maxRecDepth 100000 in
theorem V33_0 {sc : List Value} {w w' : List zE} {ov : Option Value} {c s : Nat} {a0 : Nat} {x1 : Int} {wy : Int} (L0 : w[a0]? = some (zob 6 [zp (a0 + 1), zp (a0 + 5), zp (a0 + 16), zp (a0 + 27), zp (a0 + 38), zp (a0 + 49), zp (a0 + 60), zj wy])) (h : ((zrg x1) ∧ ((x1 < 0 → False) ∧ (¬ (x1 < 0) → ((zrg x1 ∧ zrg 4) ∧ ((x1 ≤ 4 → (∃ p_5 : Nat, Zc sc 1 [zp a0] w (some (zp p_5)) w 0 0 ∧ (∃ cn_6 : Nat, ∃ fs_7 : List Value, w[p_5]? = some (zob cn_6 fs_7) ∧ (cn_6 = 1 ∨ cn_6 = 2 ∨ cn_6 = 4) ∧ (∃ r_14 : Int, Zc sc 34 [zp p_5, zj x1] w (some (zj r_14)) w 0 0 ∧ (ov = some (zj r_14) ∧ w' = w ∧ c = 0 ∧ s = 0))))) ∧ (¬ (x1 ≤ 4) → False))))))) : Zr sc 33 0 [zp a0, zj x1] [] w ov w' c s := by
  refine Zr_st (q := (1, [zp a0, zj x1], [zj x1])) rfl rfl rfl ?_
  show Zr sc 33 1 [zp a0, zj x1] [zj x1] w ov w' c s
  obtain ⟨hr_1, h⟩ := h
  refine Zr_b0 (p := x1 < 0) rfl rfl (zcmp_0 (cnd := .lt) hr_1) (fun hp => ?_) (fun hp => ?_)
  · replace h := h.1 hp
    show Zr sc 33 9 [zp a0, zj x1] [] w ov w' c s
    exact h.elim
  · replace h := h.2 hp
    show Zr sc 33 4 [zp a0, zj x1] [] w ov w' c s
    refine Zr_st (q := (5, [zp a0, zj x1], [zj x1])) rfl rfl rfl ?_
    show Zr sc 33 5 [zp a0, zj x1] [zj x1] w ov w' c s
    refine rl_ic rfl ?_
    show Zr sc 33 6 [zp a0, zj x1] [zj 4, zj x1] w ov w' c s
    obtain ⟨hr_2, h⟩ := h
    refine Zr_br (p := x1 ≤ 4) rfl rfl (zcmp_j (cnd := .le) hr_2.1 hr_2.2) (fun hp => ?_) (fun hp => ?_)
    · replace h := h.1 hp
      show Zr sc 33 19 [zp a0, zj x1] [] w ov w' c s
      refine Zr_st (q := (20, [zp a0, zj x1], [zp a0])) rfl rfl rfl ?_
      show Zr sc 33 20 [zp a0, zj x1] [zp a0] w ov w' c s
      obtain ⟨p_5, hk_9, h⟩ := h
      refine rn_cal0 (ins := .invokevirtual 83) (rest := []) rfl rfl rfl rfl (zinv_v (fs := _) L0 rfl rfl rfl rfl) rfl rfl hk_9 ?_
      show Zr sc 33 23 [zp a0, zj x1] [zp p_5] w ov w' c s
      refine Zr_st (q := (24, [zp a0, zj x1], [zj x1, zp p_5])) rfl rfl rfl ?_
      show Zr sc 33 24 [zp a0, zj x1] [zj x1, zp p_5] w ov w' c s
      obtain ⟨cn_6, fs_7, hw_8, hcn_9, h⟩ := h
      have hz_10 : ∃ kd, zinv 33 (.invokevirtual 128) [zj x1, zp p_5] (false, w) = some (kd, 34, [zp p_5, zj x1], []) ∧ decide (kd < 6) = true := by rcases hcn_9 with rfl | rfl | rfl <;> exact zinv_u hw_8 rfl rfl rfl rfl rfl rfl rfl
      obtain ⟨kd_11, hz_10⟩ := hz_10
      obtain ⟨r_14, hk_9, h⟩ := h
      refine rn_cal0 (ins := .invokevirtual 128) (rest := []) rfl rfl rfl rfl hz_10.1 rfl hz_10.2 hk_9 ?_
      show Zr sc 33 27 [zp a0, zj x1] [zj r_14] w ov w' c s
      obtain ⟨h1, h2, h3, h4⟩ := h
      subst h1; subst h2; subst h3; subst h4
      exact Zr_ret (ins := .ireturn) rfl rfl
    · replace h := h.2 hp
      show Zr sc 33 9 [zp a0, zj x1] [] w ov w' c s
      exact h.elim

-- HeapwrightLab$Memory.countOf(I)I
set_option maxRecDepth 100000 in
theorem V34_0_1 {sc : List Value} {w w' : List zE} {ov : Option Value} {c s : Nat} {a0 : Nat} {x1 : Int} {wy : Int} {st : Int} {hd : Int} {hn : Int} {sn : Int} {nm : Int} {ar : Int} {pk : Int} {dn : Int} {cn : List Int} (L0 : w[a0]? = some (zob 1 [zp (a0 + 1), zp (a0 + 6), zj wy, zj st, zj hd, zj hn, zj sn, zp (a0 + 9), zp (a0 + 10), zj nm, zj ar, zj pk, zj dn])) (L9 : w[(a0 + 9)]? = some (za cn)) (h : ((zrg x1) ∧ (((x1 < 5 ∨ 7 < x1) → ((zrg x1) ∧ ((x1 < 0 → (ov = some (zj 0) ∧ w' = w ∧ c = 0 ∧ s = 0)) ∧ (¬ (x1 < 0) → ((zrg x1 ∧ zrg 5) ∧ ((5 ≤ x1 → (ov = some (zj 0) ∧ w' = w ∧ c = 0 ∧ s = 0)) ∧ (¬ (5 ≤ x1) → (((0 : Int) ≤ x1 ∧ x1 < (cn.length : Int) ∧ x1 ≤ (2147483647 : Int)) ∧ (ov = some (zj (zgi cn x1)) ∧ w' = w ∧ c = 0 ∧ s = 0))))))))) ∧ (x1 = 5 → (ov = some (zj pk) ∧ w' = w ∧ c = 0 ∧ s = 0)) ∧ (x1 = 6 → (∃ fs_6 : List Value, w[(a0 + 6)]? = some (zob 3 fs_6) ∧ (∃ r_9 : Int, Zc sc 21 [zp (a0 + 6)] w (some (zj r_9)) w 0 0 ∧ (ov = some (zj r_9) ∧ w' = w ∧ c = 0 ∧ s = 0)))) ∧ (x1 = 7 → (∃ fs_11 : List Value, w[(a0 + 6)]? = some (zob 3 fs_11) ∧ (∃ r_14 : Int, Zc sc 32 [zp (a0 + 6)] w (some (zj r_14)) w 0 0 ∧ (ov = some (zj r_14) ∧ w' = w ∧ c = 0 ∧ s = 0))))))) : Zr sc 34 0 [zp a0, zj x1] [] w ov w' c s := by
  refine Zr_st (q := (1, [zp a0, zj x1], [zj x1])) rfl rfl rfl ?_
  show Zr sc 34 1 [zp a0, zj x1] [zj x1] w ov w' c s
  obtain ⟨hr_1, h⟩ := h
  have hsw : (x1 < 5 ∨ 7 < x1) ∨ x1 = 5 ∨ x1 = 6 ∨ x1 = 7 := by omega
  rcases hsw with hp | hp | hp | hp
  · replace h := h.1 hp
    refine rl_sw (t := 49) rfl hr_1 (zsw_d hp rfl) ?_
    show Zr sc 34 49 [zp a0, zj x1] [] w ov w' c s
    refine Zr_st (q := (50, [zp a0, zj x1], [zj x1])) rfl rfl rfl ?_
    show Zr sc 34 50 [zp a0, zj x1] [zj x1] w ov w' c s
    obtain ⟨hr_2, h⟩ := h
    refine Zr_b0 (p := x1 < 0) rfl rfl (zcmp_0 (cnd := .lt) hr_2) (fun hp => ?_) (fun hp => ?_)
    · replace h := h.1 hp
      show Zr sc 34 67 [zp a0, zj x1] [] w ov w' c s
      refine rl_ic rfl ?_
      show Zr sc 34 68 [zp a0, zj x1] [zj 0] w ov w' c s
      obtain ⟨h1, h2, h3, h4⟩ := h
      subst h1; subst h2; subst h3; subst h4
      exact Zr_ret (ins := .ireturn) rfl rfl
    · replace h := h.2 hp
      show Zr sc 34 53 [zp a0, zj x1] [] w ov w' c s
      refine Zr_st (q := (54, [zp a0, zj x1], [zj x1])) rfl rfl rfl ?_
      show Zr sc 34 54 [zp a0, zj x1] [zj x1] w ov w' c s
      refine rl_ic rfl ?_
      show Zr sc 34 55 [zp a0, zj x1] [zj 5, zj x1] w ov w' c s
      obtain ⟨hr_3, h⟩ := h
      refine Zr_br (p := 5 ≤ x1) rfl rfl (zcmp_j (cnd := .ge) hr_3.1 hr_3.2) (fun hp => ?_) (fun hp => ?_)
      · replace h := h.1 hp
        show Zr sc 34 67 [zp a0, zj x1] [] w ov w' c s
        refine rl_ic rfl ?_
        show Zr sc 34 68 [zp a0, zj x1] [zj 0] w ov w' c s
        obtain ⟨h1, h2, h3, h4⟩ := h
        subst h1; subst h2; subst h3; subst h4
        exact Zr_ret (ins := .ireturn) rfl rfl
      · replace h := h.2 hp
        show Zr sc 34 58 [zp a0, zj x1] [] w ov w' c s
        refine Zr_st (q := (59, [zp a0, zj x1], [zp a0])) rfl rfl rfl ?_
        show Zr sc 34 59 [zp a0, zj x1] [zp a0] w ov w' c s
        refine rl_gf rfl L0 rfl rfl ?_
        show Zr sc 34 62 [zp a0, zj x1] [zp (a0 + 9)] w ov w' c s
        refine Zr_st (q := (63, [zp a0, zj x1], [zj x1, zp (a0 + 9)])) rfl rfl rfl ?_
        show Zr sc 34 63 [zp a0, zj x1] [zj x1, zp (a0 + 9)] w ov w' c s
        obtain ⟨hi_4, h⟩ := h
        refine rl_ia rfl L9 hi_4.1 hi_4.2.1 hi_4.2.2 ?_
        show Zr sc 34 64 [zp a0, zj x1] [zj (zgi cn x1)] w ov w' c s
        refine Zr_st (q := (68, [zp a0, zj x1], [zj (zgi cn x1)])) rfl rfl rfl ?_
        show Zr sc 34 68 [zp a0, zj x1] [zj (zgi cn x1)] w ov w' c s
        obtain ⟨h1, h2, h3, h4⟩ := h
        subst h1; subst h2; subst h3; subst h4
        exact Zr_ret (ins := .ireturn) rfl rfl
  · replace h := h.2.1 hp
    refine rl_sw (t := 28) rfl hr_1 (by rw [hp]; rfl) ?_
    show Zr sc 34 28 [zp a0, zj x1] [] w ov w' c s
    refine Zr_st (q := (29, [zp a0, zj x1], [zp a0])) rfl rfl rfl ?_
    show Zr sc 34 29 [zp a0, zj x1] [zp a0] w ov w' c s
    refine rl_gf rfl L0 rfl rfl ?_
    show Zr sc 34 32 [zp a0, zj x1] [zj pk] w ov w' c s
    obtain ⟨h1, h2, h3, h4⟩ := h
    subst h1; subst h2; subst h3; subst h4
    exact Zr_ret (ins := .ireturn) rfl rfl
  · replace h := h.2.2.1 hp
    refine rl_sw (t := 33) rfl hr_1 (by rw [hp]; rfl) ?_
    show Zr sc 34 33 [zp a0, zj x1] [] w ov w' c s
    refine Zr_st (q := (34, [zp a0, zj x1], [zp a0])) rfl rfl rfl ?_
    show Zr sc 34 34 [zp a0, zj x1] [zp a0] w ov w' c s
    refine rl_gf rfl L0 rfl rfl ?_
    show Zr sc 34 37 [zp a0, zj x1] [zp (a0 + 6)] w ov w' c s
    obtain ⟨fs_6, hl_5, h⟩ := h
    obtain ⟨r_9, hk_9, h⟩ := h
    refine rn_cal0 (ins := .invokevirtual 118) (rest := []) rfl rfl rfl rfl (zinv_v (fs := _) hl_5 rfl rfl rfl rfl) rfl rfl hk_9 ?_
    show Zr sc 34 40 [zp a0, zj x1] [zj r_9] w ov w' c s
    obtain ⟨h1, h2, h3, h4⟩ := h
    subst h1; subst h2; subst h3; subst h4
    exact Zr_ret (ins := .ireturn) rfl rfl
  · replace h := h.2.2.2 hp
    refine rl_sw (t := 41) rfl hr_1 (by rw [hp]; rfl) ?_
    show Zr sc 34 41 [zp a0, zj x1] [] w ov w' c s
    refine Zr_st (q := (42, [zp a0, zj x1], [zp a0])) rfl rfl rfl ?_
    show Zr sc 34 42 [zp a0, zj x1] [zp a0] w ov w' c s
    refine rl_gf rfl L0 rfl rfl ?_
    show Zr sc 34 45 [zp a0, zj x1] [zp (a0 + 6)] w ov w' c s
    obtain ⟨fs_11, hl_10, h⟩ := h
    obtain ⟨r_14, hk_9, h⟩ := h
    refine rn_cal0 (ins := .invokevirtual 121) (rest := []) rfl rfl rfl rfl (zinv_v (fs := _) hl_10 rfl rfl rfl rfl) rfl rfl hk_9 ?_
    show Zr sc 34 48 [zp a0, zj x1] [zj r_14] w ov w' c s
    obtain ⟨h1, h2, h3, h4⟩ := h
    subst h1; subst h2; subst h3; subst h4
    exact Zr_ret (ins := .ireturn) rfl rfl

-- HeapwrightLab$Memory.countOf(I)I
set_option maxRecDepth 100000 in
theorem V34_0_2 {sc : List Value} {w w' : List zE} {ov : Option Value} {c s : Nat} {a0 : Nat} {x1 : Int} {wy : Int} {st : Int} {hd : Int} {hn : Int} {sn : Int} {nm : Int} {ar : Int} {pk : Int} {dn : Int} {cn : List Int} (L0 : w[a0]? = some (zob 2 [zp (a0 + 1), zp (a0 + 6), zj wy, zj st, zj hd, zj hn, zj sn, zp (a0 + 9), zp (a0 + 10), zj nm, zj ar, zj pk, zj dn])) (L9 : w[(a0 + 9)]? = some (za cn)) (h : ((zrg x1) ∧ (((x1 < 5 ∨ 7 < x1) → ((zrg x1) ∧ ((x1 < 0 → (ov = some (zj 0) ∧ w' = w ∧ c = 0 ∧ s = 0)) ∧ (¬ (x1 < 0) → ((zrg x1 ∧ zrg 5) ∧ ((5 ≤ x1 → (ov = some (zj 0) ∧ w' = w ∧ c = 0 ∧ s = 0)) ∧ (¬ (5 ≤ x1) → (((0 : Int) ≤ x1 ∧ x1 < (cn.length : Int) ∧ x1 ≤ (2147483647 : Int)) ∧ (ov = some (zj (zgi cn x1)) ∧ w' = w ∧ c = 0 ∧ s = 0))))))))) ∧ (x1 = 5 → (ov = some (zj pk) ∧ w' = w ∧ c = 0 ∧ s = 0)) ∧ (x1 = 6 → (∃ fs_6 : List Value, w[(a0 + 6)]? = some (zob 3 fs_6) ∧ (∃ r_9 : Int, Zc sc 21 [zp (a0 + 6)] w (some (zj r_9)) w 0 0 ∧ (ov = some (zj r_9) ∧ w' = w ∧ c = 0 ∧ s = 0)))) ∧ (x1 = 7 → (∃ fs_11 : List Value, w[(a0 + 6)]? = some (zob 3 fs_11) ∧ (∃ r_14 : Int, Zc sc 32 [zp (a0 + 6)] w (some (zj r_14)) w 0 0 ∧ (ov = some (zj r_14) ∧ w' = w ∧ c = 0 ∧ s = 0))))))) : Zr sc 34 0 [zp a0, zj x1] [] w ov w' c s := by
  refine Zr_st (q := (1, [zp a0, zj x1], [zj x1])) rfl rfl rfl ?_
  show Zr sc 34 1 [zp a0, zj x1] [zj x1] w ov w' c s
  obtain ⟨hr_1, h⟩ := h
  have hsw : (x1 < 5 ∨ 7 < x1) ∨ x1 = 5 ∨ x1 = 6 ∨ x1 = 7 := by omega
  rcases hsw with hp | hp | hp | hp
  · replace h := h.1 hp
    refine rl_sw (t := 49) rfl hr_1 (zsw_d hp rfl) ?_
    show Zr sc 34 49 [zp a0, zj x1] [] w ov w' c s
    refine Zr_st (q := (50, [zp a0, zj x1], [zj x1])) rfl rfl rfl ?_
    show Zr sc 34 50 [zp a0, zj x1] [zj x1] w ov w' c s
    obtain ⟨hr_2, h⟩ := h
    refine Zr_b0 (p := x1 < 0) rfl rfl (zcmp_0 (cnd := .lt) hr_2) (fun hp => ?_) (fun hp => ?_)
    · replace h := h.1 hp
      show Zr sc 34 67 [zp a0, zj x1] [] w ov w' c s
      refine rl_ic rfl ?_
      show Zr sc 34 68 [zp a0, zj x1] [zj 0] w ov w' c s
      obtain ⟨h1, h2, h3, h4⟩ := h
      subst h1; subst h2; subst h3; subst h4
      exact Zr_ret (ins := .ireturn) rfl rfl
    · replace h := h.2 hp
      show Zr sc 34 53 [zp a0, zj x1] [] w ov w' c s
      refine Zr_st (q := (54, [zp a0, zj x1], [zj x1])) rfl rfl rfl ?_
      show Zr sc 34 54 [zp a0, zj x1] [zj x1] w ov w' c s
      refine rl_ic rfl ?_
      show Zr sc 34 55 [zp a0, zj x1] [zj 5, zj x1] w ov w' c s
      obtain ⟨hr_3, h⟩ := h
      refine Zr_br (p := 5 ≤ x1) rfl rfl (zcmp_j (cnd := .ge) hr_3.1 hr_3.2) (fun hp => ?_) (fun hp => ?_)
      · replace h := h.1 hp
        show Zr sc 34 67 [zp a0, zj x1] [] w ov w' c s
        refine rl_ic rfl ?_
        show Zr sc 34 68 [zp a0, zj x1] [zj 0] w ov w' c s
        obtain ⟨h1, h2, h3, h4⟩ := h
        subst h1; subst h2; subst h3; subst h4
        exact Zr_ret (ins := .ireturn) rfl rfl
      · replace h := h.2 hp
        show Zr sc 34 58 [zp a0, zj x1] [] w ov w' c s
        refine Zr_st (q := (59, [zp a0, zj x1], [zp a0])) rfl rfl rfl ?_
        show Zr sc 34 59 [zp a0, zj x1] [zp a0] w ov w' c s
        refine rl_gf rfl L0 rfl rfl ?_
        show Zr sc 34 62 [zp a0, zj x1] [zp (a0 + 9)] w ov w' c s
        refine Zr_st (q := (63, [zp a0, zj x1], [zj x1, zp (a0 + 9)])) rfl rfl rfl ?_
        show Zr sc 34 63 [zp a0, zj x1] [zj x1, zp (a0 + 9)] w ov w' c s
        obtain ⟨hi_4, h⟩ := h
        refine rl_ia rfl L9 hi_4.1 hi_4.2.1 hi_4.2.2 ?_
        show Zr sc 34 64 [zp a0, zj x1] [zj (zgi cn x1)] w ov w' c s
        refine Zr_st (q := (68, [zp a0, zj x1], [zj (zgi cn x1)])) rfl rfl rfl ?_
        show Zr sc 34 68 [zp a0, zj x1] [zj (zgi cn x1)] w ov w' c s
        obtain ⟨h1, h2, h3, h4⟩ := h
        subst h1; subst h2; subst h3; subst h4
        exact Zr_ret (ins := .ireturn) rfl rfl
  · replace h := h.2.1 hp
    refine rl_sw (t := 28) rfl hr_1 (by rw [hp]; rfl) ?_
    show Zr sc 34 28 [zp a0, zj x1] [] w ov w' c s
    refine Zr_st (q := (29, [zp a0, zj x1], [zp a0])) rfl rfl rfl ?_
    show Zr sc 34 29 [zp a0, zj x1] [zp a0] w ov w' c s
    refine rl_gf rfl L0 rfl rfl ?_
    show Zr sc 34 32 [zp a0, zj x1] [zj pk] w ov w' c s
    obtain ⟨h1, h2, h3, h4⟩ := h
    subst h1; subst h2; subst h3; subst h4
    exact Zr_ret (ins := .ireturn) rfl rfl
  · replace h := h.2.2.1 hp
    refine rl_sw (t := 33) rfl hr_1 (by rw [hp]; rfl) ?_
    show Zr sc 34 33 [zp a0, zj x1] [] w ov w' c s
    refine Zr_st (q := (34, [zp a0, zj x1], [zp a0])) rfl rfl rfl ?_
    show Zr sc 34 34 [zp a0, zj x1] [zp a0] w ov w' c s
    refine rl_gf rfl L0 rfl rfl ?_
    show Zr sc 34 37 [zp a0, zj x1] [zp (a0 + 6)] w ov w' c s
    obtain ⟨fs_6, hl_5, h⟩ := h
    obtain ⟨r_9, hk_9, h⟩ := h
    refine rn_cal0 (ins := .invokevirtual 118) (rest := []) rfl rfl rfl rfl (zinv_v (fs := _) hl_5 rfl rfl rfl rfl) rfl rfl hk_9 ?_
    show Zr sc 34 40 [zp a0, zj x1] [zj r_9] w ov w' c s
    obtain ⟨h1, h2, h3, h4⟩ := h
    subst h1; subst h2; subst h3; subst h4
    exact Zr_ret (ins := .ireturn) rfl rfl
  · replace h := h.2.2.2 hp
    refine rl_sw (t := 41) rfl hr_1 (by rw [hp]; rfl) ?_
    show Zr sc 34 41 [zp a0, zj x1] [] w ov w' c s
    refine Zr_st (q := (42, [zp a0, zj x1], [zp a0])) rfl rfl rfl ?_
    show Zr sc 34 42 [zp a0, zj x1] [zp a0] w ov w' c s
    refine rl_gf rfl L0 rfl rfl ?_
    show Zr sc 34 45 [zp a0, zj x1] [zp (a0 + 6)] w ov w' c s
    obtain ⟨fs_11, hl_10, h⟩ := h
    obtain ⟨r_14, hk_9, h⟩ := h
    refine rn_cal0 (ins := .invokevirtual 121) (rest := []) rfl rfl rfl rfl (zinv_v (fs := _) hl_10 rfl rfl rfl rfl) rfl rfl hk_9 ?_
    show Zr sc 34 48 [zp a0, zj x1] [zj r_14] w ov w' c s
    obtain ⟨h1, h2, h3, h4⟩ := h
    subst h1; subst h2; subst h3; subst h4
    exact Zr_ret (ins := .ireturn) rfl rfl

-- HeapwrightLab$Memory.countOf(I)I
set_option maxRecDepth 100000 in
theorem V34_0_4 {sc : List Value} {w w' : List zE} {ov : Option Value} {c s : Nat} {a0 : Nat} {x1 : Int} {wy : Int} {st : Int} {hd : Int} {hn : Int} {sn : Int} {nm : Int} {ar : Int} {pk : Int} {dn : Int} {cn : List Int} (L0 : w[a0]? = some (zob 4 [zp (a0 + 1), zp (a0 + 6), zj wy, zj st, zj hd, zj hn, zj sn, zp (a0 + 9), zp (a0 + 10), zj nm, zj ar, zj pk, zj dn, zp (a0 + 11)])) (L9 : w[(a0 + 9)]? = some (za cn)) (h : ((zrg x1) ∧ (((x1 < 5 ∨ 7 < x1) → ((zrg x1) ∧ ((x1 < 0 → (ov = some (zj 0) ∧ w' = w ∧ c = 0 ∧ s = 0)) ∧ (¬ (x1 < 0) → ((zrg x1 ∧ zrg 5) ∧ ((5 ≤ x1 → (ov = some (zj 0) ∧ w' = w ∧ c = 0 ∧ s = 0)) ∧ (¬ (5 ≤ x1) → (((0 : Int) ≤ x1 ∧ x1 < (cn.length : Int) ∧ x1 ≤ (2147483647 : Int)) ∧ (ov = some (zj (zgi cn x1)) ∧ w' = w ∧ c = 0 ∧ s = 0))))))))) ∧ (x1 = 5 → (ov = some (zj pk) ∧ w' = w ∧ c = 0 ∧ s = 0)) ∧ (x1 = 6 → (∃ fs_6 : List Value, w[(a0 + 6)]? = some (zob 3 fs_6) ∧ (∃ r_9 : Int, Zc sc 21 [zp (a0 + 6)] w (some (zj r_9)) w 0 0 ∧ (ov = some (zj r_9) ∧ w' = w ∧ c = 0 ∧ s = 0)))) ∧ (x1 = 7 → (∃ fs_11 : List Value, w[(a0 + 6)]? = some (zob 3 fs_11) ∧ (∃ r_14 : Int, Zc sc 32 [zp (a0 + 6)] w (some (zj r_14)) w 0 0 ∧ (ov = some (zj r_14) ∧ w' = w ∧ c = 0 ∧ s = 0))))))) : Zr sc 34 0 [zp a0, zj x1] [] w ov w' c s := by
  refine Zr_st (q := (1, [zp a0, zj x1], [zj x1])) rfl rfl rfl ?_
  show Zr sc 34 1 [zp a0, zj x1] [zj x1] w ov w' c s
  obtain ⟨hr_1, h⟩ := h
  have hsw : (x1 < 5 ∨ 7 < x1) ∨ x1 = 5 ∨ x1 = 6 ∨ x1 = 7 := by omega
  rcases hsw with hp | hp | hp | hp
  · replace h := h.1 hp
    refine rl_sw (t := 49) rfl hr_1 (zsw_d hp rfl) ?_
    show Zr sc 34 49 [zp a0, zj x1] [] w ov w' c s
    refine Zr_st (q := (50, [zp a0, zj x1], [zj x1])) rfl rfl rfl ?_
    show Zr sc 34 50 [zp a0, zj x1] [zj x1] w ov w' c s
    obtain ⟨hr_2, h⟩ := h
    refine Zr_b0 (p := x1 < 0) rfl rfl (zcmp_0 (cnd := .lt) hr_2) (fun hp => ?_) (fun hp => ?_)
    · replace h := h.1 hp
      show Zr sc 34 67 [zp a0, zj x1] [] w ov w' c s
      refine rl_ic rfl ?_
      show Zr sc 34 68 [zp a0, zj x1] [zj 0] w ov w' c s
      obtain ⟨h1, h2, h3, h4⟩ := h
      subst h1; subst h2; subst h3; subst h4
      exact Zr_ret (ins := .ireturn) rfl rfl
    · replace h := h.2 hp
      show Zr sc 34 53 [zp a0, zj x1] [] w ov w' c s
      refine Zr_st (q := (54, [zp a0, zj x1], [zj x1])) rfl rfl rfl ?_
      show Zr sc 34 54 [zp a0, zj x1] [zj x1] w ov w' c s
      refine rl_ic rfl ?_
      show Zr sc 34 55 [zp a0, zj x1] [zj 5, zj x1] w ov w' c s
      obtain ⟨hr_3, h⟩ := h
      refine Zr_br (p := 5 ≤ x1) rfl rfl (zcmp_j (cnd := .ge) hr_3.1 hr_3.2) (fun hp => ?_) (fun hp => ?_)
      · replace h := h.1 hp
        show Zr sc 34 67 [zp a0, zj x1] [] w ov w' c s
        refine rl_ic rfl ?_
        show Zr sc 34 68 [zp a0, zj x1] [zj 0] w ov w' c s
        obtain ⟨h1, h2, h3, h4⟩ := h
        subst h1; subst h2; subst h3; subst h4
        exact Zr_ret (ins := .ireturn) rfl rfl
      · replace h := h.2 hp
        show Zr sc 34 58 [zp a0, zj x1] [] w ov w' c s
        refine Zr_st (q := (59, [zp a0, zj x1], [zp a0])) rfl rfl rfl ?_
        show Zr sc 34 59 [zp a0, zj x1] [zp a0] w ov w' c s
        refine rl_gf rfl L0 rfl rfl ?_
        show Zr sc 34 62 [zp a0, zj x1] [zp (a0 + 9)] w ov w' c s
        refine Zr_st (q := (63, [zp a0, zj x1], [zj x1, zp (a0 + 9)])) rfl rfl rfl ?_
        show Zr sc 34 63 [zp a0, zj x1] [zj x1, zp (a0 + 9)] w ov w' c s
        obtain ⟨hi_4, h⟩ := h
        refine rl_ia rfl L9 hi_4.1 hi_4.2.1 hi_4.2.2 ?_
        show Zr sc 34 64 [zp a0, zj x1] [zj (zgi cn x1)] w ov w' c s
        refine Zr_st (q := (68, [zp a0, zj x1], [zj (zgi cn x1)])) rfl rfl rfl ?_
        show Zr sc 34 68 [zp a0, zj x1] [zj (zgi cn x1)] w ov w' c s
        obtain ⟨h1, h2, h3, h4⟩ := h
        subst h1; subst h2; subst h3; subst h4
        exact Zr_ret (ins := .ireturn) rfl rfl
  · replace h := h.2.1 hp
    refine rl_sw (t := 28) rfl hr_1 (by rw [hp]; rfl) ?_
    show Zr sc 34 28 [zp a0, zj x1] [] w ov w' c s
    refine Zr_st (q := (29, [zp a0, zj x1], [zp a0])) rfl rfl rfl ?_
    show Zr sc 34 29 [zp a0, zj x1] [zp a0] w ov w' c s
    refine rl_gf rfl L0 rfl rfl ?_
    show Zr sc 34 32 [zp a0, zj x1] [zj pk] w ov w' c s
    obtain ⟨h1, h2, h3, h4⟩ := h
    subst h1; subst h2; subst h3; subst h4
    exact Zr_ret (ins := .ireturn) rfl rfl
  · replace h := h.2.2.1 hp
    refine rl_sw (t := 33) rfl hr_1 (by rw [hp]; rfl) ?_
    show Zr sc 34 33 [zp a0, zj x1] [] w ov w' c s
    refine Zr_st (q := (34, [zp a0, zj x1], [zp a0])) rfl rfl rfl ?_
    show Zr sc 34 34 [zp a0, zj x1] [zp a0] w ov w' c s
    refine rl_gf rfl L0 rfl rfl ?_
    show Zr sc 34 37 [zp a0, zj x1] [zp (a0 + 6)] w ov w' c s
    obtain ⟨fs_6, hl_5, h⟩ := h
    obtain ⟨r_9, hk_9, h⟩ := h
    refine rn_cal0 (ins := .invokevirtual 118) (rest := []) rfl rfl rfl rfl (zinv_v (fs := _) hl_5 rfl rfl rfl rfl) rfl rfl hk_9 ?_
    show Zr sc 34 40 [zp a0, zj x1] [zj r_9] w ov w' c s
    obtain ⟨h1, h2, h3, h4⟩ := h
    subst h1; subst h2; subst h3; subst h4
    exact Zr_ret (ins := .ireturn) rfl rfl
  · replace h := h.2.2.2 hp
    refine rl_sw (t := 41) rfl hr_1 (by rw [hp]; rfl) ?_
    show Zr sc 34 41 [zp a0, zj x1] [] w ov w' c s
    refine Zr_st (q := (42, [zp a0, zj x1], [zp a0])) rfl rfl rfl ?_
    show Zr sc 34 42 [zp a0, zj x1] [zp a0] w ov w' c s
    refine rl_gf rfl L0 rfl rfl ?_
    show Zr sc 34 45 [zp a0, zj x1] [zp (a0 + 6)] w ov w' c s
    obtain ⟨fs_11, hl_10, h⟩ := h
    obtain ⟨r_14, hk_9, h⟩ := h
    refine rn_cal0 (ins := .invokevirtual 121) (rest := []) rfl rfl rfl rfl (zinv_v (fs := _) hl_10 rfl rfl rfl rfl) rfl rfl hk_9 ?_
    show Zr sc 34 48 [zp a0, zj x1] [zj r_14] w ov w' c s
    obtain ⟨h1, h2, h3, h4⟩ := h
    subst h1; subst h2; subst h3; subst h4
    exact Zr_ret (ins := .ireturn) rfl rfl

-- HeapwrightLab.peak()I
set_option maxRecDepth 100000 in
theorem V35_0 {sc : List Value} {w w' : List zE} {ov : Option Value} {c s : Nat} {a0 : Nat} {wy : Int} (L0 : w[a0]? = some (zob 6 [zp (a0 + 1), zp (a0 + 5), zp (a0 + 16), zp (a0 + 27), zp (a0 + 38), zp (a0 + 49), zp (a0 + 60), zj wy])) (h : (∃ p_3 : Nat, Zc sc 1 [zp a0] w (some (zp p_3)) w 0 0 ∧ (∃ cn_4 : Nat, ∃ fs_5 : List Value, w[p_3]? = some (zob cn_4 fs_5) ∧ (cn_4 = 1 ∨ cn_4 = 2 ∨ cn_4 = 4) ∧ (∃ r_12 : Int, Zc sc 34 [zp p_3, zj 5] w (some (zj r_12)) w 0 0 ∧ (ov = some (zj r_12) ∧ w' = w ∧ c = 0 ∧ s = 0))))) : Zr sc 35 0 [zp a0] [] w ov w' c s := by
  refine Zr_st (q := (1, [zp a0], [zp a0])) rfl rfl rfl ?_
  show Zr sc 35 1 [zp a0] [zp a0] w ov w' c s
  obtain ⟨p_3, hk_9, h⟩ := h
  refine rn_cal0 (ins := .invokevirtual 83) (rest := []) rfl rfl rfl rfl (zinv_v (fs := _) L0 rfl rfl rfl rfl) rfl rfl hk_9 ?_
  show Zr sc 35 4 [zp a0] [zp p_3] w ov w' c s
  refine rl_ic rfl ?_
  show Zr sc 35 5 [zp a0] [zj 5, zp p_3] w ov w' c s
  obtain ⟨cn_4, fs_5, hw_6, hcn_7, h⟩ := h
  have hz_8 : ∃ kd, zinv 35 (.invokevirtual 128) [zj 5, zp p_3] (false, w) = some (kd, 34, [zp p_3, zj 5], []) ∧ decide (kd < 6) = true := by rcases hcn_7 with rfl | rfl | rfl <;> exact zinv_u hw_6 rfl rfl rfl rfl rfl rfl rfl
  obtain ⟨kd_9, hz_8⟩ := hz_8
  obtain ⟨r_12, hk_9, h⟩ := h
  refine rn_cal0 (ins := .invokevirtual 128) (rest := []) rfl rfl rfl rfl hz_8.1 rfl hz_8.2 hk_9 ?_
  show Zr sc 35 8 [zp a0] [zj r_12] w ov w' c s
  obtain ⟨h1, h2, h3, h4⟩ := h
  subst h1; subst h2; subst h3; subst h4
  exact Zr_ret (ins := .ireturn) rfl rfl

-- HeapwrightLab.wouldBe(I)I
set_option maxRecDepth 100000 in
theorem V36_0 {sc : List Value} {w w' : List zE} {ov : Option Value} {c s : Nat} {a0 : Nat} {x1 : Int} {wy : Int} (L0 : w[a0]? = some (zob 6 [zp (a0 + 1), zp (a0 + 5), zp (a0 + 16), zp (a0 + 27), zp (a0 + 38), zp (a0 + 49), zp (a0 + 60), zj wy])) (h : ((Zc sc 37 [zj x1] w none w 0 0) ∧ (∃ p_5 : Nat, Zc sc 1 [zp a0] w (some (zp p_5)) w 0 0 ∧ (∃ cn_6 : Nat, ∃ fs_7 : List Value, w[p_5]? = some (zob cn_6 fs_7) ∧ (cn_6 = 1 ∨ cn_6 = 2 ∨ cn_6 = 4) ∧ (∃ r_14 : Int, ∃ w_12 : List zE, Zc sc 38 [zp p_5, zj x1] w (some (zj r_14)) w_12 0 0 ∧ (ov = some (zj r_14) ∧ w' = w_12 ∧ c = 0 ∧ s = 0)))))) : Zr sc 36 0 [zp a0, zj x1] [] w ov w' c s := by
  refine Zr_st (q := (1, [zp a0, zj x1], [zj x1])) rfl rfl rfl ?_
  show Zr sc 36 1 [zp a0, zj x1] [zj x1] w ov w' c s
  obtain ⟨hk_9, h⟩ := h
  refine rn_cal0 (ins := .invokestatic 80) (rest := []) rfl rfl rfl rfl (zinv_t rfl rfl rfl rfl) rfl rfl hk_9 ?_
  show Zr sc 36 4 [zp a0, zj x1] [] w ov w' c s
  refine Zr_st (q := (5, [zp a0, zj x1], [zp a0])) rfl rfl rfl ?_
  show Zr sc 36 5 [zp a0, zj x1] [zp a0] w ov w' c s
  obtain ⟨p_5, hk_9, h⟩ := h
  refine rn_cal0 (ins := .invokevirtual 83) (rest := []) rfl rfl rfl rfl (zinv_v (fs := _) L0 rfl rfl rfl rfl) rfl rfl hk_9 ?_
  show Zr sc 36 8 [zp a0, zj x1] [zp p_5] w ov w' c s
  refine Zr_st (q := (9, [zp a0, zj x1], [zj x1, zp p_5])) rfl rfl rfl ?_
  show Zr sc 36 9 [zp a0, zj x1] [zj x1, zp p_5] w ov w' c s
  obtain ⟨cn_6, fs_7, hw_8, hcn_9, h⟩ := h
  have hz_10 : ∃ kd, zinv 36 (.invokevirtual 189) [zj x1, zp p_5] (false, w) = some (kd, 38, [zp p_5, zj x1], []) ∧ decide (kd < 6) = true := by rcases hcn_9 with rfl | rfl | rfl <;> exact zinv_u hw_8 rfl rfl rfl rfl rfl rfl rfl
  obtain ⟨kd_11, hz_10⟩ := hz_10
  obtain ⟨r_14, w_12, hk_13, h⟩ := h
  refine rn_cal0 (ins := .invokevirtual 189) (rest := []) rfl rfl rfl rfl hz_10.1 rfl hz_10.2 hk_13 ?_
  show Zr sc 36 12 [zp a0, zj x1] [zj r_14] w_12 ov w' c s
  obtain ⟨h1, h2, h3, h4⟩ := h
  subst h1; subst h2; subst h3; subst h4
  exact Zr_ret (ins := .ireturn) rfl rfl

-- HeapwrightLab.requireSize(I)V
set_option maxRecDepth 100000 in
theorem V37_0 {sc : List Value} {w w' : List zE} {ov : Option Value} {c s : Nat} {x0 : Int} (h : ((zrg x0 ∧ zrg 1) ∧ ((x0 < 1 → False) ∧ (¬ (x0 < 1) → ((zrg x0 ∧ zrg 300) ∧ ((x0 ≤ 300 → (ov = none ∧ w' = w ∧ c = 0 ∧ s = 0)) ∧ (¬ (x0 ≤ 300) → False))))))) : Zr sc 37 0 [zj x0] [] w ov w' c s := by
  refine Zr_st (q := (1, [zj x0], [zj x0])) rfl rfl rfl ?_
  show Zr sc 37 1 [zj x0] [zj x0] w ov w' c s
  refine rl_ic rfl ?_
  show Zr sc 37 2 [zj x0] [zj 1, zj x0] w ov w' c s
  obtain ⟨hr_1, h⟩ := h
  refine Zr_br (p := x0 < 1) rfl rfl (zcmp_j (cnd := .lt) hr_1.1 hr_1.2) (fun hp => ?_) (fun hp => ?_)
  · replace h := h.1 hp
    show Zr sc 37 12 [zj x0] [] w ov w' c s
    exact h.elim
  · replace h := h.2 hp
    show Zr sc 37 5 [zj x0] [] w ov w' c s
    refine Zr_st (q := (6, [zj x0], [zj x0])) rfl rfl rfl ?_
    show Zr sc 37 6 [zj x0] [zj x0] w ov w' c s
    refine rl_si rfl (by decide) ?_
    show Zr sc 37 9 [zj x0] [zj 300, zj x0] w ov w' c s
    obtain ⟨hr_2, h⟩ := h
    refine Zr_br (p := x0 ≤ 300) rfl rfl (zcmp_j (cnd := .le) hr_2.1 hr_2.2) (fun hp => ?_) (fun hp => ?_)
    · replace h := h.1 hp
      show Zr sc 37 22 [zj x0] [] w ov w' c s
      obtain ⟨h1, h2, h3, h4⟩ := h
      subst h1; subst h2; subst h3; subst h4
      exact Zr_ret (ins := .return_) rfl rfl
    · replace h := h.2 hp
      show Zr sc 37 12 [zj x0] [] w ov w' c s
      exact h.elim

-- HeapwrightLab$Memory.placeFor(I)I
set_option maxRecDepth 100000 in
theorem V38_0_1 {sc : List Value} {w w' : List zE} {ov : Option Value} {c s : Nat} {a0 : Nat} {x1 : Int} {wy : Int} {st : Int} {hd : Int} {hn : Int} {sn : Int} {nm : Int} {ar : Int} {pk : Int} {dn : Int} (L0 : w[a0]? = some (zob 1 [zp (a0 + 1), zp (a0 + 6), zj wy, zj st, zj hd, zj hn, zj sn, zp (a0 + 9), zp (a0 + 10), zj nm, zj ar, zj pk, zj dn])) (h : (∃ r_3 : Int, Zc sc 39 [zp a0, zj x1] w (some (zj r_3)) w 0 0 ∧ (∃ r_6 : Int, ∃ w_4 : List zE, Zc sc 43 [zp a0, zj r_3] w (some (zj r_6)) w_4 0 0 ∧ (∃ fs_8 : List Value, w_4[(a0 + 6)]? = some (zob 3 fs_8) ∧ (∃ r_11 : Int, Zc sc 24 [zp (a0 + 6), zj r_6] w_4 (some (zj r_11)) w_4 0 0 ∧ (ov = some (zj r_11) ∧ w' = w_4 ∧ c = 0 ∧ s = 0)))))) : Zr sc 38 0 [zp a0, zj x1] [] w ov w' c s := by
  refine Zr_st (q := (1, [zp a0, zj x1], [zp a0])) rfl rfl rfl ?_
  show Zr sc 38 1 [zp a0, zj x1] [zp a0] w ov w' c s
  refine rl_gf rfl L0 rfl rfl ?_
  show Zr sc 38 4 [zp a0, zj x1] [zp (a0 + 6)] w ov w' c s
  refine Zr_st (q := (5, [zp a0, zj x1], [zp a0, zp (a0 + 6)])) rfl rfl rfl ?_
  show Zr sc 38 5 [zp a0, zj x1] [zp a0, zp (a0 + 6)] w ov w' c s
  refine Zr_st (q := (6, [zp a0, zj x1], [zp a0, zp a0, zp (a0 + 6)])) rfl rfl rfl ?_
  show Zr sc 38 6 [zp a0, zj x1] [zp a0, zp a0, zp (a0 + 6)] w ov w' c s
  refine Zr_st (q := (7, [zp a0, zj x1], [zj x1, zp a0, zp a0, zp (a0 + 6)])) rfl rfl rfl ?_
  show Zr sc 38 7 [zp a0, zj x1] [zj x1, zp a0, zp a0, zp (a0 + 6)] w ov w' c s
  obtain ⟨r_3, hk_9, h⟩ := h
  refine rn_cal0 (ins := .invokevirtual 124) (rest := [zp a0, zp (a0 + 6)]) rfl rfl rfl rfl (zinv_v (fs := _) L0 rfl rfl rfl rfl) rfl rfl hk_9 ?_
  show Zr sc 38 10 [zp a0, zj x1] [zj r_3, zp a0, zp (a0 + 6)] w ov w' c s
  obtain ⟨r_6, w_4, hk_5, h⟩ := h
  refine rn_cal0 (ins := .invokevirtual 127) (rest := [zp (a0 + 6)]) rfl rfl rfl rfl (zinv_v (fs := _) L0 rfl rfl rfl rfl) rfl rfl hk_5 ?_
  show Zr sc 38 13 [zp a0, zj x1] [zj r_6, zp (a0 + 6)] w_4 ov w' c s
  obtain ⟨fs_8, hl_7, h⟩ := h
  obtain ⟨r_11, hk_9, h⟩ := h
  refine rn_cal0 (ins := .invokevirtual 130) (rest := []) rfl rfl rfl rfl (zinv_v (fs := _) hl_7 rfl rfl rfl rfl) rfl rfl hk_9 ?_
  show Zr sc 38 16 [zp a0, zj x1] [zj r_11] w_4 ov w' c s
  obtain ⟨h1, h2, h3, h4⟩ := h
  subst h1; subst h2; subst h3; subst h4
  exact Zr_ret (ins := .ireturn) rfl rfl

-- HeapwrightLab$Memory.placeFor(I)I
set_option maxRecDepth 100000 in
theorem V38_0_2 {sc : List Value} {w w' : List zE} {ov : Option Value} {c s : Nat} {a0 : Nat} {x1 : Int} {wy : Int} {st : Int} {hd : Int} {hn : Int} {sn : Int} {nm : Int} {ar : Int} {pk : Int} {dn : Int} (L0 : w[a0]? = some (zob 2 [zp (a0 + 1), zp (a0 + 6), zj wy, zj st, zj hd, zj hn, zj sn, zp (a0 + 9), zp (a0 + 10), zj nm, zj ar, zj pk, zj dn])) (h : (∃ r_3 : Int, Zc sc 40 [zp a0, zj x1] w (some (zj r_3)) w 0 0 ∧ (∃ r_6 : Int, ∃ w_4 : List zE, Zc sc 45 [zp a0, zj r_3] w (some (zj r_6)) w_4 0 0 ∧ (∃ fs_8 : List Value, w_4[(a0 + 6)]? = some (zob 3 fs_8) ∧ (∃ r_11 : Int, Zc sc 24 [zp (a0 + 6), zj r_6] w_4 (some (zj r_11)) w_4 0 0 ∧ (ov = some (zj r_11) ∧ w' = w_4 ∧ c = 0 ∧ s = 0)))))) : Zr sc 38 0 [zp a0, zj x1] [] w ov w' c s := by
  refine Zr_st (q := (1, [zp a0, zj x1], [zp a0])) rfl rfl rfl ?_
  show Zr sc 38 1 [zp a0, zj x1] [zp a0] w ov w' c s
  refine rl_gf rfl L0 rfl rfl ?_
  show Zr sc 38 4 [zp a0, zj x1] [zp (a0 + 6)] w ov w' c s
  refine Zr_st (q := (5, [zp a0, zj x1], [zp a0, zp (a0 + 6)])) rfl rfl rfl ?_
  show Zr sc 38 5 [zp a0, zj x1] [zp a0, zp (a0 + 6)] w ov w' c s
  refine Zr_st (q := (6, [zp a0, zj x1], [zp a0, zp a0, zp (a0 + 6)])) rfl rfl rfl ?_
  show Zr sc 38 6 [zp a0, zj x1] [zp a0, zp a0, zp (a0 + 6)] w ov w' c s
  refine Zr_st (q := (7, [zp a0, zj x1], [zj x1, zp a0, zp a0, zp (a0 + 6)])) rfl rfl rfl ?_
  show Zr sc 38 7 [zp a0, zj x1] [zj x1, zp a0, zp a0, zp (a0 + 6)] w ov w' c s
  obtain ⟨r_3, hk_9, h⟩ := h
  refine rn_cal0 (ins := .invokevirtual 124) (rest := [zp a0, zp (a0 + 6)]) rfl rfl rfl rfl (zinv_v (fs := _) L0 rfl rfl rfl rfl) rfl rfl hk_9 ?_
  show Zr sc 38 10 [zp a0, zj x1] [zj r_3, zp a0, zp (a0 + 6)] w ov w' c s
  obtain ⟨r_6, w_4, hk_5, h⟩ := h
  refine rn_cal0 (ins := .invokevirtual 127) (rest := [zp (a0 + 6)]) rfl rfl rfl rfl (zinv_v (fs := _) L0 rfl rfl rfl rfl) rfl rfl hk_5 ?_
  show Zr sc 38 13 [zp a0, zj x1] [zj r_6, zp (a0 + 6)] w_4 ov w' c s
  obtain ⟨fs_8, hl_7, h⟩ := h
  obtain ⟨r_11, hk_9, h⟩ := h
  refine rn_cal0 (ins := .invokevirtual 130) (rest := []) rfl rfl rfl rfl (zinv_v (fs := _) hl_7 rfl rfl rfl rfl) rfl rfl hk_9 ?_
  show Zr sc 38 16 [zp a0, zj x1] [zj r_11] w_4 ov w' c s
  obtain ⟨h1, h2, h3, h4⟩ := h
  subst h1; subst h2; subst h3; subst h4
  exact Zr_ret (ins := .ireturn) rfl rfl

-- HeapwrightLab$Memory.placeFor(I)I
set_option maxRecDepth 100000 in
theorem V38_0_4 {sc : List Value} {w w' : List zE} {ov : Option Value} {c s : Nat} {a0 : Nat} {x1 : Int} {wy : Int} {st : Int} {hd : Int} {hn : Int} {sn : Int} {nm : Int} {ar : Int} {pk : Int} {dn : Int} (L0 : w[a0]? = some (zob 4 [zp (a0 + 1), zp (a0 + 6), zj wy, zj st, zj hd, zj hn, zj sn, zp (a0 + 9), zp (a0 + 10), zj nm, zj ar, zj pk, zj dn, zp (a0 + 11)])) (h : (∃ r_3 : Int, Zc sc 42 [zp a0, zj x1] w (some (zj r_3)) w 0 0 ∧ (∃ r_6 : Int, ∃ w_4 : List zE, Zc sc 49 [zp a0, zj r_3] w (some (zj r_6)) w_4 0 0 ∧ (∃ fs_8 : List Value, w_4[(a0 + 6)]? = some (zob 3 fs_8) ∧ (∃ r_11 : Int, Zc sc 24 [zp (a0 + 6), zj r_6] w_4 (some (zj r_11)) w_4 0 0 ∧ (ov = some (zj r_11) ∧ w' = w_4 ∧ c = 0 ∧ s = 0)))))) : Zr sc 38 0 [zp a0, zj x1] [] w ov w' c s := by
  refine Zr_st (q := (1, [zp a0, zj x1], [zp a0])) rfl rfl rfl ?_
  show Zr sc 38 1 [zp a0, zj x1] [zp a0] w ov w' c s
  refine rl_gf rfl L0 rfl rfl ?_
  show Zr sc 38 4 [zp a0, zj x1] [zp (a0 + 6)] w ov w' c s
  refine Zr_st (q := (5, [zp a0, zj x1], [zp a0, zp (a0 + 6)])) rfl rfl rfl ?_
  show Zr sc 38 5 [zp a0, zj x1] [zp a0, zp (a0 + 6)] w ov w' c s
  refine Zr_st (q := (6, [zp a0, zj x1], [zp a0, zp a0, zp (a0 + 6)])) rfl rfl rfl ?_
  show Zr sc 38 6 [zp a0, zj x1] [zp a0, zp a0, zp (a0 + 6)] w ov w' c s
  refine Zr_st (q := (7, [zp a0, zj x1], [zj x1, zp a0, zp a0, zp (a0 + 6)])) rfl rfl rfl ?_
  show Zr sc 38 7 [zp a0, zj x1] [zj x1, zp a0, zp a0, zp (a0 + 6)] w ov w' c s
  obtain ⟨r_3, hk_9, h⟩ := h
  refine rn_cal0 (ins := .invokevirtual 124) (rest := [zp a0, zp (a0 + 6)]) rfl rfl rfl rfl (zinv_v (fs := _) L0 rfl rfl rfl rfl) rfl rfl hk_9 ?_
  show Zr sc 38 10 [zp a0, zj x1] [zj r_3, zp a0, zp (a0 + 6)] w ov w' c s
  obtain ⟨r_6, w_4, hk_5, h⟩ := h
  refine rn_cal0 (ins := .invokevirtual 127) (rest := [zp (a0 + 6)]) rfl rfl rfl rfl (zinv_v (fs := _) L0 rfl rfl rfl rfl) rfl rfl hk_5 ?_
  show Zr sc 38 13 [zp a0, zj x1] [zj r_6, zp (a0 + 6)] w_4 ov w' c s
  obtain ⟨fs_8, hl_7, h⟩ := h
  obtain ⟨r_11, hk_9, h⟩ := h
  refine rn_cal0 (ins := .invokevirtual 130) (rest := []) rfl rfl rfl rfl (zinv_v (fs := _) hl_7 rfl rfl rfl rfl) rfl rfl hk_9 ?_
  show Zr sc 38 16 [zp a0, zj x1] [zj r_11] w_4 ov w' c s
  obtain ⟨h1, h2, h3, h4⟩ := h
  subst h1; subst h2; subst h3; subst h4
  exact Zr_ret (ins := .ireturn) rfl rfl

-- HeapwrightLab$Buddies.roomFor(I)I
set_option maxRecDepth 100000 in
theorem V39_0 {sc : List Value} {w w' : List zE} {ov : Option Value} {c s : Nat} {a0 : Nat} {x1 : Int} (h : Zr sc 39 3 [zp a0, zj x1, zj 8] [] w ov w' c s) : Zr sc 39 0 [zp a0, zj x1, zmk] [] w ov w' c s := by
  refine rl_bi rfl (by decide) ?_
  show Zr sc 39 2 [zp a0, zj x1, zmk] [zj 8] w ov w' c s
  refine Zr_st (q := (3, [zp a0, zj x1, zj 8], [])) rfl rfl rfl ?_
  show Zr sc 39 3 [zp a0, zj x1, zj 8] [] w ov w' c s
  exact h
set_option maxRecDepth 100000 in
theorem V39_3 {sc : List Value} {w w' : List zE} {ov : Option Value} {c s : Nat} {a0 : Nat} {x1 : Int} {x2 : Int} {wy : Int} {st : Int} {hd : Int} {hn : Int} {sn : Int} {nm : Int} {ar : Int} {pk : Int} {dn : Int} (L0 : w[a0]? = some (zob 1 [zp (a0 + 1), zp (a0 + 6), zj wy, zj st, zj hd, zj hn, zj sn, zp (a0 + 9), zp (a0 + 10), zj nm, zj ar, zj pk, zj dn])) (h : ((zrg x2 ∧ zrg 1024) ∧ ((1024 ≤ x2 → (ov = some (zj 1024) ∧ w' = w ∧ c = 0 ∧ s = 0)) ∧ (¬ (1024 ≤ x2) → ((zrg x2 ∧ zrg (x1 + hd)) ∧ ((x2 < (x1 + hd) → Zr sc 39 3 [zp a0, zj x1, zj (x2 * 2)] [] w ov w' c s) ∧ (¬ (x2 < (x1 + hd)) → (ov = some (zj x2) ∧ w' = w ∧ c = 0 ∧ s = 0)))))))) : Zr sc 39 3 [zp a0, zj x1, zj x2] [] w ov w' c s := by
  refine Zr_st (q := (4, [zp a0, zj x1, zj x2], [zj x2])) rfl rfl rfl ?_
  show Zr sc 39 4 [zp a0, zj x1, zj x2] [zj x2] w ov w' c s
  refine rl_si rfl (by decide) ?_
  show Zr sc 39 7 [zp a0, zj x1, zj x2] [zj 1024, zj x2] w ov w' c s
  obtain ⟨hr_1, h⟩ := h
  refine Zr_br (p := 1024 ≤ x2) rfl rfl (zcmp_j (cnd := .ge) hr_1.1 hr_1.2) (fun hp => ?_) (fun hp => ?_)
  · replace h := h.1 hp
    show Zr sc 39 29 [zp a0, zj x1, zj x2] [] w ov w' c s
    refine rl_si rfl (by decide) ?_
    show Zr sc 39 32 [zp a0, zj x1, zj x2] [zj 1024] w ov w' c s
    obtain ⟨h1, h2, h3, h4⟩ := h
    subst h1; subst h2; subst h3; subst h4
    exact Zr_ret (ins := .ireturn) rfl rfl
  · replace h := h.2 hp
    show Zr sc 39 10 [zp a0, zj x1, zj x2] [] w ov w' c s
    refine Zr_st (q := (11, [zp a0, zj x1, zj x2], [zj x2])) rfl rfl rfl ?_
    show Zr sc 39 11 [zp a0, zj x1, zj x2] [zj x2] w ov w' c s
    refine Zr_st (q := (12, [zp a0, zj x1, zj x2], [zj x1, zj x2])) rfl rfl rfl ?_
    show Zr sc 39 12 [zp a0, zj x1, zj x2] [zj x1, zj x2] w ov w' c s
    refine Zr_st (q := (13, [zp a0, zj x1, zj x2], [zp a0, zj x1, zj x2])) rfl rfl rfl ?_
    show Zr sc 39 13 [zp a0, zj x1, zj x2] [zp a0, zj x1, zj x2] w ov w' c s
    refine rl_gf rfl L0 rfl rfl ?_
    show Zr sc 39 16 [zp a0, zj x1, zj x2] [zj hd, zj x1, zj x2] w ov w' c s
    refine rl_add rfl ?_
    show Zr sc 39 17 [zp a0, zj x1, zj x2] [zj (x1 + hd), zj x2] w ov w' c s
    obtain ⟨hr_2, h⟩ := h
    refine Zr_br (p := x2 < (x1 + hd)) rfl rfl (zcmp_j (cnd := .lt) hr_2.1 hr_2.2) (fun hp => ?_) (fun hp => ?_)
    · replace h := h.1 hp
      show Zr sc 39 22 [zp a0, zj x1, zj x2] [] w ov w' c s
      refine Zr_st (q := (23, [zp a0, zj x1, zj x2], [zj x2])) rfl rfl rfl ?_
      show Zr sc 39 23 [zp a0, zj x1, zj x2] [zj x2] w ov w' c s
      refine rl_ic rfl ?_
      show Zr sc 39 24 [zp a0, zj x1, zj x2] [zj 2, zj x2] w ov w' c s
      refine rl_mul rfl ?_
      show Zr sc 39 25 [zp a0, zj x1, zj x2] [zj (x2 * 2)] w ov w' c s
      refine Zr_st (q := (26, [zp a0, zj x1, zj (x2 * 2)], [])) rfl rfl rfl ?_
      show Zr sc 39 26 [zp a0, zj x1, zj (x2 * 2)] [] w ov w' c s
      refine Zr_st (q := (3, [zp a0, zj x1, zj (x2 * 2)], [])) rfl rfl rfl ?_
      show Zr sc 39 3 [zp a0, zj x1, zj (x2 * 2)] [] w ov w' c s
      exact h
    · replace h := h.2 hp
      show Zr sc 39 20 [zp a0, zj x1, zj x2] [] w ov w' c s
      refine Zr_st (q := (21, [zp a0, zj x1, zj x2], [zj x2])) rfl rfl rfl ?_
      show Zr sc 39 21 [zp a0, zj x1, zj x2] [zj x2] w ov w' c s
      obtain ⟨h1, h2, h3, h4⟩ := h
      subst h1; subst h2; subst h3; subst h4
      exact Zr_ret (ins := .ireturn) rfl rfl

-- HeapwrightLab$Fits.roomFor(I)I
set_option maxRecDepth 100000 in
theorem V40_0 {sc : List Value} {w w' : List zE} {ov : Option Value} {c s : Nat} {a0 : Nat} {x1 : Int} {wy : Int} {st : Int} {hd : Int} {hn : Int} {sn : Int} {nm : Int} {ar : Int} {pk : Int} {dn : Int} (L0 : w[a0]? = some (zob 2 [zp (a0 + 1), zp (a0 + 6), zj wy, zj st, zj hd, zj hn, zj sn, zp (a0 + 9), zp (a0 + 10), zj nm, zj ar, zj pk, zj dn])) (h : (∃ r_3 : Int, Zc sc 41 [zj (x1 + hd), zj st] w (some (zj r_3)) w 0 0 ∧ (ov = some (zj r_3) ∧ w' = w ∧ c = 0 ∧ s = 0))) : Zr sc 40 0 [zp a0, zj x1] [] w ov w' c s := by
  refine Zr_st (q := (1, [zp a0, zj x1], [zj x1])) rfl rfl rfl ?_
  show Zr sc 40 1 [zp a0, zj x1] [zj x1] w ov w' c s
  refine Zr_st (q := (2, [zp a0, zj x1], [zp a0, zj x1])) rfl rfl rfl ?_
  show Zr sc 40 2 [zp a0, zj x1] [zp a0, zj x1] w ov w' c s
  refine rl_gf rfl L0 rfl rfl ?_
  show Zr sc 40 5 [zp a0, zj x1] [zj hd, zj x1] w ov w' c s
  refine rl_add rfl ?_
  show Zr sc 40 6 [zp a0, zj x1] [zj (x1 + hd)] w ov w' c s
  refine Zr_st (q := (7, [zp a0, zj x1], [zp a0, zj (x1 + hd)])) rfl rfl rfl ?_
  show Zr sc 40 7 [zp a0, zj x1] [zp a0, zj (x1 + hd)] w ov w' c s
  refine rl_gf rfl L0 rfl rfl ?_
  show Zr sc 40 10 [zp a0, zj x1] [zj st, zj (x1 + hd)] w ov w' c s
  obtain ⟨r_3, hk_9, h⟩ := h
  refine rn_cal0 (ins := .invokestatic 18) (rest := []) rfl rfl rfl rfl (zinv_t rfl rfl rfl rfl) rfl rfl hk_9 ?_
  show Zr sc 40 13 [zp a0, zj x1] [zj r_3] w ov w' c s
  obtain ⟨h1, h2, h3, h4⟩ := h
  subst h1; subst h2; subst h3; subst h4
  exact Zr_ret (ins := .ireturn) rfl rfl

-- HeapwrightLab.madeUp(II)I
set_option maxRecDepth 100000 in
theorem V41_0 {sc : List Value} {w w' : List zE} {ov : Option Value} {c s : Nat} {x0 : Int} {x1 : Int} (h : (ov = some (zj (zjop 7 ((x0 + x1) - 1) (-x1))) ∧ w' = w ∧ c = 0 ∧ s = 0)) : Zr sc 41 0 [zj x0, zj x1] [] w ov w' c s := by
  refine Zr_st (q := (1, [zj x0, zj x1], [zj x0])) rfl rfl rfl ?_
  show Zr sc 41 1 [zj x0, zj x1] [zj x0] w ov w' c s
  refine Zr_st (q := (2, [zj x0, zj x1], [zj x1, zj x0])) rfl rfl rfl ?_
  show Zr sc 41 2 [zj x0, zj x1] [zj x1, zj x0] w ov w' c s
  refine rl_add rfl ?_
  show Zr sc 41 3 [zj x0, zj x1] [zj (x0 + x1)] w ov w' c s
  refine rl_ic rfl ?_
  show Zr sc 41 4 [zj x0, zj x1] [zj 1, zj (x0 + x1)] w ov w' c s
  refine rl_sub rfl ?_
  show Zr sc 41 5 [zj x0, zj x1] [zj ((x0 + x1) - 1)] w ov w' c s
  refine Zr_st (q := (6, [zj x0, zj x1], [zj x1, zj ((x0 + x1) - 1)])) rfl rfl rfl ?_
  show Zr sc 41 6 [zj x0, zj x1] [zj x1, zj ((x0 + x1) - 1)] w ov w' c s
  refine rl_neg rfl ?_
  show Zr sc 41 7 [zj x0, zj x1] [zj (-x1), zj ((x0 + x1) - 1)] w ov w' c s
  refine rl_and rfl ?_
  show Zr sc 41 8 [zj x0, zj x1] [zj (zjop 7 ((x0 + x1) - 1) (-x1))] w ov w' c s
  obtain ⟨h1, h2, h3, h4⟩ := h
  subst h1; subst h2; subst h3; subst h4
  exact Zr_ret (ins := .ireturn) rfl rfl

-- HeapwrightLab$Slabs.roomFor(I)I
set_option maxRecDepth 100000 in
theorem V42_0 {sc : List Value} {w w' : List zE} {ov : Option Value} {c s : Nat} {a0 : Nat} {x1 : Int} (h : Zr sc 42 3 [zp a0, zj x1, zj 8] [] w ov w' c s) : Zr sc 42 0 [zp a0, zj x1, zmk] [] w ov w' c s := by
  refine rl_bi rfl (by decide) ?_
  show Zr sc 42 2 [zp a0, zj x1, zmk] [zj 8] w ov w' c s
  refine Zr_st (q := (3, [zp a0, zj x1, zj 8], [])) rfl rfl rfl ?_
  show Zr sc 42 3 [zp a0, zj x1, zj 8] [] w ov w' c s
  exact h
set_option maxRecDepth 100000 in
theorem V42_3 {sc : List Value} {w w' : List zE} {ov : Option Value} {c s : Nat} {a0 : Nat} {x1 : Int} {x2 : Int} {wy : Int} {st : Int} {hd : Int} {hn : Int} {sn : Int} {nm : Int} {ar : Int} {pk : Int} {dn : Int} (L0 : w[a0]? = some (zob 4 [zp (a0 + 1), zp (a0 + 6), zj wy, zj st, zj hd, zj hn, zj sn, zp (a0 + 9), zp (a0 + 10), zj nm, zj ar, zj pk, zj dn, zp (a0 + 11)])) (h : ((zrg x2 ∧ zrg 128) ∧ ((128 < x2 → (∃ r_4 : Int, Zc sc 41 [zj (x1 + hd), zj 128] w (some (zj r_4)) w 0 0 ∧ (ov = some (zj r_4) ∧ w' = w ∧ c = 0 ∧ s = 0))) ∧ (¬ (128 < x2) → ((zrg x2 ∧ zrg (x1 + hd)) ∧ ((x2 < (x1 + hd) → Zr sc 42 3 [zp a0, zj x1, zj (x2 * 2)] [] w ov w' c s) ∧ (¬ (x2 < (x1 + hd)) → (ov = some (zj x2) ∧ w' = w ∧ c = 0 ∧ s = 0)))))))) : Zr sc 42 3 [zp a0, zj x1, zj x2] [] w ov w' c s := by
  refine Zr_st (q := (4, [zp a0, zj x1, zj x2], [zj x2])) rfl rfl rfl ?_
  show Zr sc 42 4 [zp a0, zj x1, zj x2] [zj x2] w ov w' c s
  refine rl_si rfl (by decide) ?_
  show Zr sc 42 7 [zp a0, zj x1, zj x2] [zj 128, zj x2] w ov w' c s
  obtain ⟨hr_1, h⟩ := h
  refine Zr_br (p := 128 < x2) rfl rfl (zcmp_j (cnd := .gt) hr_1.1 hr_1.2) (fun hp => ?_) (fun hp => ?_)
  · replace h := h.1 hp
    show Zr sc 42 29 [zp a0, zj x1, zj x2] [] w ov w' c s
    refine Zr_st (q := (30, [zp a0, zj x1, zj x2], [zj x1])) rfl rfl rfl ?_
    show Zr sc 42 30 [zp a0, zj x1, zj x2] [zj x1] w ov w' c s
    refine Zr_st (q := (31, [zp a0, zj x1, zj x2], [zp a0, zj x1])) rfl rfl rfl ?_
    show Zr sc 42 31 [zp a0, zj x1, zj x2] [zp a0, zj x1] w ov w' c s
    refine rl_gf rfl L0 rfl rfl ?_
    show Zr sc 42 34 [zp a0, zj x1, zj x2] [zj hd, zj x1] w ov w' c s
    refine rl_add rfl ?_
    show Zr sc 42 35 [zp a0, zj x1, zj x2] [zj (x1 + hd)] w ov w' c s
    refine rl_si rfl (by decide) ?_
    show Zr sc 42 38 [zp a0, zj x1, zj x2] [zj 128, zj (x1 + hd)] w ov w' c s
    obtain ⟨r_4, hk_9, h⟩ := h
    refine rn_cal0 (ins := .invokestatic 19) (rest := []) rfl rfl rfl rfl (zinv_t rfl rfl rfl rfl) rfl rfl hk_9 ?_
    show Zr sc 42 41 [zp a0, zj x1, zj x2] [zj r_4] w ov w' c s
    obtain ⟨h1, h2, h3, h4⟩ := h
    subst h1; subst h2; subst h3; subst h4
    exact Zr_ret (ins := .ireturn) rfl rfl
  · replace h := h.2 hp
    show Zr sc 42 10 [zp a0, zj x1, zj x2] [] w ov w' c s
    refine Zr_st (q := (11, [zp a0, zj x1, zj x2], [zj x2])) rfl rfl rfl ?_
    show Zr sc 42 11 [zp a0, zj x1, zj x2] [zj x2] w ov w' c s
    refine Zr_st (q := (12, [zp a0, zj x1, zj x2], [zj x1, zj x2])) rfl rfl rfl ?_
    show Zr sc 42 12 [zp a0, zj x1, zj x2] [zj x1, zj x2] w ov w' c s
    refine Zr_st (q := (13, [zp a0, zj x1, zj x2], [zp a0, zj x1, zj x2])) rfl rfl rfl ?_
    show Zr sc 42 13 [zp a0, zj x1, zj x2] [zp a0, zj x1, zj x2] w ov w' c s
    refine rl_gf rfl L0 rfl rfl ?_
    show Zr sc 42 16 [zp a0, zj x1, zj x2] [zj hd, zj x1, zj x2] w ov w' c s
    refine rl_add rfl ?_
    show Zr sc 42 17 [zp a0, zj x1, zj x2] [zj (x1 + hd), zj x2] w ov w' c s
    obtain ⟨hr_5, h⟩ := h
    refine Zr_br (p := x2 < (x1 + hd)) rfl rfl (zcmp_j (cnd := .lt) hr_5.1 hr_5.2) (fun hp => ?_) (fun hp => ?_)
    · replace h := h.1 hp
      show Zr sc 42 22 [zp a0, zj x1, zj x2] [] w ov w' c s
      refine Zr_st (q := (23, [zp a0, zj x1, zj x2], [zj x2])) rfl rfl rfl ?_
      show Zr sc 42 23 [zp a0, zj x1, zj x2] [zj x2] w ov w' c s
      refine rl_ic rfl ?_
      show Zr sc 42 24 [zp a0, zj x1, zj x2] [zj 2, zj x2] w ov w' c s
      refine rl_mul rfl ?_
      show Zr sc 42 25 [zp a0, zj x1, zj x2] [zj (x2 * 2)] w ov w' c s
      refine Zr_st (q := (26, [zp a0, zj x1, zj (x2 * 2)], [])) rfl rfl rfl ?_
      show Zr sc 42 26 [zp a0, zj x1, zj (x2 * 2)] [] w ov w' c s
      refine Zr_st (q := (3, [zp a0, zj x1, zj (x2 * 2)], [])) rfl rfl rfl ?_
      show Zr sc 42 3 [zp a0, zj x1, zj (x2 * 2)] [] w ov w' c s
      exact h
    · replace h := h.2 hp
      show Zr sc 42 20 [zp a0, zj x1, zj x2] [] w ov w' c s
      refine Zr_st (q := (21, [zp a0, zj x1, zj x2], [zj x2])) rfl rfl rfl ?_
      show Zr sc 42 21 [zp a0, zj x1, zj x2] [zj x2] w ov w' c s
      obtain ⟨h1, h2, h3, h4⟩ := h
      subst h1; subst h2; subst h3; subst h4
      exact Zr_ret (ins := .ireturn) rfl rfl

-- HeapwrightLab$Buddies.search(I)I
set_option maxRecDepth 100000 in
theorem V43_0 {sc : List Value} {w w' : List zE} {ov : Option Value} {c s : Nat} {a0 : Nat} {x1 : Int} {wy : Int} {st : Int} {hd : Int} {hn : Int} {sn : Int} {nm : Int} {ar : Int} {pk : Int} {dn : Int} (L0 : w[a0]? = some (zob 1 [zp (a0 + 1), zp (a0 + 6), zj wy, zj st, zj hd, zj hn, zj sn, zp (a0 + 9), zp (a0 + 10), zj nm, zj ar, zj pk, zj dn])) (h : (∃ fs_2 : List Value, w[(a0 + 6)]? = some (zob 3 fs_2) ∧ (∃ r_5 : Int, Zc sc 21 [zp (a0 + 6)] w (some (zj r_5)) w 0 0 ∧ (∃ r_8 : Int, Zc sc 44 [zp (a0 + 6), zj x1] (w.set a0 (zob 1 [zp (a0 + 1), zp (a0 + 6), zj wy, zj st, zj hd, zj hn, zj r_5, zp (a0 + 9), zp (a0 + 10), zj nm, zj ar, zj pk, zj dn])) (some (zj r_8)) (w.set a0 (zob 1 [zp (a0 + 1), zp (a0 + 6), zj wy, zj st, zj hd, zj hn, zj r_5, zp (a0 + 9), zp (a0 + 10), zj nm, zj ar, zj pk, zj dn])) 0 0 ∧ (ov = some (zj r_8) ∧ w' = (w.set a0 (zob 1 [zp (a0 + 1), zp (a0 + 6), zj wy, zj st, zj hd, zj hn, zj r_5, zp (a0 + 9), zp (a0 + 10), zj nm, zj ar, zj pk, zj dn])) ∧ c = 0 ∧ s = 0))))) : Zr sc 43 0 [zp a0, zj x1] [] w ov w' c s := by
  refine Zr_st (q := (1, [zp a0, zj x1], [zp a0])) rfl rfl rfl ?_
  show Zr sc 43 1 [zp a0, zj x1] [zp a0] w ov w' c s
  refine Zr_st (q := (2, [zp a0, zj x1], [zp a0, zp a0])) rfl rfl rfl ?_
  show Zr sc 43 2 [zp a0, zj x1] [zp a0, zp a0] w ov w' c s
  refine rl_gf rfl L0 rfl rfl ?_
  show Zr sc 43 5 [zp a0, zj x1] [zp (a0 + 6), zp a0] w ov w' c s
  obtain ⟨fs_2, hl_1, h⟩ := h
  obtain ⟨r_5, hk_9, h⟩ := h
  refine rn_cal0 (ins := .invokevirtual 19) (rest := [zp a0]) rfl rfl rfl rfl (zinv_v (fs := _) hl_1 rfl rfl rfl rfl) rfl rfl hk_9 ?_
  show Zr sc 43 8 [zp a0, zj x1] [zj r_5, zp a0] w ov w' c s
  refine rl_pf rfl L0 rfl rfl rfl ?_
  show Zr sc 43 11 [zp a0, zj x1] [] (w.set a0 (zob 1 [zp (a0 + 1), zp (a0 + 6), zj wy, zj st, zj hd, zj hn, zj r_5, zp (a0 + 9), zp (a0 + 10), zj nm, zj ar, zj pk, zj dn])) ov w' c s
  refine Zr_st (q := (12, [zp a0, zj x1], [zp a0])) rfl rfl rfl ?_
  show Zr sc 43 12 [zp a0, zj x1] [zp a0] (w.set a0 (zob 1 [zp (a0 + 1), zp (a0 + 6), zj wy, zj st, zj hd, zj hn, zj r_5, zp (a0 + 9), zp (a0 + 10), zj nm, zj ar, zj pk, zj dn])) ov w' c s
  refine rl_gf rfl (zw_s L0) rfl rfl ?_
  show Zr sc 43 15 [zp a0, zj x1] [zp (a0 + 6)] (w.set a0 (zob 1 [zp (a0 + 1), zp (a0 + 6), zj wy, zj st, zj hd, zj hn, zj r_5, zp (a0 + 9), zp (a0 + 10), zj nm, zj ar, zj pk, zj dn])) ov w' c s
  refine Zr_st (q := (16, [zp a0, zj x1], [zj x1, zp (a0 + 6)])) rfl rfl rfl ?_
  show Zr sc 43 16 [zp a0, zj x1] [zj x1, zp (a0 + 6)] (w.set a0 (zob 1 [zp (a0 + 1), zp (a0 + 6), zj wy, zj st, zj hd, zj hn, zj r_5, zp (a0 + 9), zp (a0 + 10), zj nm, zj ar, zj pk, zj dn])) ov w' c s
  obtain ⟨r_8, hk_9, h⟩ := h
  refine rn_cal0 (ins := .invokevirtual 28) (rest := []) rfl rfl rfl rfl (zinv_v (fs := _) (zw_o (by omega) hl_1) rfl rfl rfl rfl) rfl rfl hk_9 ?_
  show Zr sc 43 19 [zp a0, zj x1] [zj r_8] (w.set a0 (zob 1 [zp (a0 + 1), zp (a0 + 6), zj wy, zj st, zj hd, zj hn, zj r_5, zp (a0 + 9), zp (a0 + 10), zj nm, zj ar, zj pk, zj dn])) ov w' c s
  obtain ⟨h1, h2, h3, h4⟩ := h
  subst h1; subst h2; subst h3; subst h4
  exact Zr_ret (ins := .ireturn) rfl rfl

-- HeapwrightLab$Holes.tightestWith(I)I
set_option maxRecDepth 100000 in
theorem V44_0 {sc : List Value} {w w' : List zE} {ov : Option Value} {c s : Nat} {a0 : Nat} {x1 : Int} (h : Zr sc 44 4 [zp a0, zj x1, zj (-1), zj 0] [] w ov w' c s) : Zr sc 44 0 [zp a0, zj x1, zmk, zmk] [] w ov w' c s := by
  refine rl_ic rfl ?_
  show Zr sc 44 1 [zp a0, zj x1, zmk, zmk] [zj (-1)] w ov w' c s
  refine Zr_st (q := (2, [zp a0, zj x1, zj (-1), zmk], [])) rfl rfl rfl ?_
  show Zr sc 44 2 [zp a0, zj x1, zj (-1), zmk] [] w ov w' c s
  refine rl_ic rfl ?_
  show Zr sc 44 3 [zp a0, zj x1, zj (-1), zmk] [zj 0] w ov w' c s
  refine Zr_st (q := (4, [zp a0, zj x1, zj (-1), zj 0], [])) rfl rfl rfl ?_
  show Zr sc 44 4 [zp a0, zj x1, zj (-1), zj 0] [] w ov w' c s
  exact h
set_option maxRecDepth 100000 in
theorem V44_4 {sc : List Value} {w w' : List zE} {ov : Option Value} {c s : Nat} {a0 : Nat} {x1 : Int} {x2 : Int} {x3 : Int} {ct : Int} {oz : List Int} (L0 : w[a0]? = some (zob 3 [zp (a0 + 1), zp (a0 + 2), zj ct])) (L2 : w[(a0 + 2)]? = some (za oz)) (h : ((zrg x3 ∧ zrg ct) ∧ ((ct ≤ x3 → (ov = some (zj x2) ∧ w' = w ∧ c = 0 ∧ s = 0)) ∧ (¬ (ct ≤ x3) → (((0 : Int) ≤ x3 ∧ x3 < (oz.length : Int) ∧ x3 ≤ (2147483647 : Int)) ∧ ((zrg (zgi oz x3) ∧ zrg x1) ∧ (((zgi oz x3) < x1 → Zr sc 44 4 [zp a0, zj x1, zj x2, zj (x3 + 1)] [] w ov w' c s) ∧ (¬ ((zgi oz x3) < x1) → ((zrg x2) ∧ ((x2 < 0 → Zr sc 44 4 [zp a0, zj x1, zj x3, zj (x3 + 1)] [] w ov w' c s) ∧ (¬ (x2 < 0) → (((0 : Int) ≤ x3 ∧ x3 < (oz.length : Int) ∧ x3 ≤ (2147483647 : Int)) ∧ (((0 : Int) ≤ x2 ∧ x2 < (oz.length : Int) ∧ x2 ≤ (2147483647 : Int)) ∧ ((zrg (zgi oz x3) ∧ zrg (zgi oz x2)) ∧ (((zgi oz x2) ≤ (zgi oz x3) → Zr sc 44 4 [zp a0, zj x1, zj x2, zj (x3 + 1)] [] w ov w' c s) ∧ (¬ ((zgi oz x2) ≤ (zgi oz x3)) → Zr sc 44 4 [zp a0, zj x1, zj x3, zj (x3 + 1)] [] w ov w' c s)))))))))))))))) : Zr sc 44 4 [zp a0, zj x1, zj x2, zj x3] [] w ov w' c s := by
  refine Zr_st (q := (5, [zp a0, zj x1, zj x2, zj x3], [zj x3])) rfl rfl rfl ?_
  show Zr sc 44 5 [zp a0, zj x1, zj x2, zj x3] [zj x3] w ov w' c s
  refine Zr_st (q := (6, [zp a0, zj x1, zj x2, zj x3], [zp a0, zj x3])) rfl rfl rfl ?_
  show Zr sc 44 6 [zp a0, zj x1, zj x2, zj x3] [zp a0, zj x3] w ov w' c s
  refine rl_gf rfl L0 rfl rfl ?_
  show Zr sc 44 9 [zp a0, zj x1, zj x2, zj x3] [zj ct, zj x3] w ov w' c s
  obtain ⟨hr_1, h⟩ := h
  refine Zr_br (p := ct ≤ x3) rfl rfl (zcmp_j (cnd := .ge) hr_1.1 hr_1.2) (fun hp => ?_) (fun hp => ?_)
  · replace h := h.1 hp
    show Zr sc 44 49 [zp a0, zj x1, zj x2, zj x3] [] w ov w' c s
    refine Zr_st (q := (50, [zp a0, zj x1, zj x2, zj x3], [zj x2])) rfl rfl rfl ?_
    show Zr sc 44 50 [zp a0, zj x1, zj x2, zj x3] [zj x2] w ov w' c s
    obtain ⟨h1, h2, h3, h4⟩ := h
    subst h1; subst h2; subst h3; subst h4
    exact Zr_ret (ins := .ireturn) rfl rfl
  · replace h := h.2 hp
    show Zr sc 44 12 [zp a0, zj x1, zj x2, zj x3] [] w ov w' c s
    refine Zr_st (q := (13, [zp a0, zj x1, zj x2, zj x3], [zp a0])) rfl rfl rfl ?_
    show Zr sc 44 13 [zp a0, zj x1, zj x2, zj x3] [zp a0] w ov w' c s
    refine rl_gf rfl L0 rfl rfl ?_
    show Zr sc 44 16 [zp a0, zj x1, zj x2, zj x3] [zp (a0 + 2)] w ov w' c s
    refine Zr_st (q := (17, [zp a0, zj x1, zj x2, zj x3], [zj x3, zp (a0 + 2)])) rfl rfl rfl ?_
    show Zr sc 44 17 [zp a0, zj x1, zj x2, zj x3] [zj x3, zp (a0 + 2)] w ov w' c s
    obtain ⟨hi_2, h⟩ := h
    refine rl_ia rfl L2 hi_2.1 hi_2.2.1 hi_2.2.2 ?_
    show Zr sc 44 18 [zp a0, zj x1, zj x2, zj x3] [zj (zgi oz x3)] w ov w' c s
    refine Zr_st (q := (19, [zp a0, zj x1, zj x2, zj x3], [zj x1, zj (zgi oz x3)])) rfl rfl rfl ?_
    show Zr sc 44 19 [zp a0, zj x1, zj x2, zj x3] [zj x1, zj (zgi oz x3)] w ov w' c s
    obtain ⟨hr_3, h⟩ := h
    refine Zr_br (p := (zgi oz x3) < x1) rfl rfl (zcmp_j (cnd := .lt) hr_3.1 hr_3.2) (fun hp => ?_) (fun hp => ?_)
    · replace h := h.1 hp
      show Zr sc 44 43 [zp a0, zj x1, zj x2, zj x3] [] w ov w' c s
      refine rl_inc rfl rfl rfl rfl ?_
      show Zr sc 44 46 [zp a0, zj x1, zj x2, zj (x3 + 1)] [] w ov w' c s
      refine Zr_st (q := (4, [zp a0, zj x1, zj x2, zj (x3 + 1)], [])) rfl rfl rfl ?_
      show Zr sc 44 4 [zp a0, zj x1, zj x2, zj (x3 + 1)] [] w ov w' c s
      exact h
    · replace h := h.2 hp
      show Zr sc 44 22 [zp a0, zj x1, zj x2, zj x3] [] w ov w' c s
      refine Zr_st (q := (23, [zp a0, zj x1, zj x2, zj x3], [zj x2])) rfl rfl rfl ?_
      show Zr sc 44 23 [zp a0, zj x1, zj x2, zj x3] [zj x2] w ov w' c s
      obtain ⟨hr_4, h⟩ := h
      refine Zr_b0 (p := x2 < 0) rfl rfl (zcmp_0 (cnd := .lt) hr_4) (fun hp => ?_) (fun hp => ?_)
      · replace h := h.1 hp
        show Zr sc 44 41 [zp a0, zj x1, zj x2, zj x3] [] w ov w' c s
        refine Zr_st (q := (42, [zp a0, zj x1, zj x2, zj x3], [zj x3])) rfl rfl rfl ?_
        show Zr sc 44 42 [zp a0, zj x1, zj x2, zj x3] [zj x3] w ov w' c s
        refine Zr_st (q := (43, [zp a0, zj x1, zj x3, zj x3], [])) rfl rfl rfl ?_
        show Zr sc 44 43 [zp a0, zj x1, zj x3, zj x3] [] w ov w' c s
        refine rl_inc rfl rfl rfl rfl ?_
        show Zr sc 44 46 [zp a0, zj x1, zj x3, zj (x3 + 1)] [] w ov w' c s
        refine Zr_st (q := (4, [zp a0, zj x1, zj x3, zj (x3 + 1)], [])) rfl rfl rfl ?_
        show Zr sc 44 4 [zp a0, zj x1, zj x3, zj (x3 + 1)] [] w ov w' c s
        exact h
      · replace h := h.2 hp
        show Zr sc 44 26 [zp a0, zj x1, zj x2, zj x3] [] w ov w' c s
        refine Zr_st (q := (27, [zp a0, zj x1, zj x2, zj x3], [zp a0])) rfl rfl rfl ?_
        show Zr sc 44 27 [zp a0, zj x1, zj x2, zj x3] [zp a0] w ov w' c s
        refine rl_gf rfl L0 rfl rfl ?_
        show Zr sc 44 30 [zp a0, zj x1, zj x2, zj x3] [zp (a0 + 2)] w ov w' c s
        refine Zr_st (q := (31, [zp a0, zj x1, zj x2, zj x3], [zj x3, zp (a0 + 2)])) rfl rfl rfl ?_
        show Zr sc 44 31 [zp a0, zj x1, zj x2, zj x3] [zj x3, zp (a0 + 2)] w ov w' c s
        obtain ⟨hi_5, h⟩ := h
        refine rl_ia rfl L2 hi_5.1 hi_5.2.1 hi_5.2.2 ?_
        show Zr sc 44 32 [zp a0, zj x1, zj x2, zj x3] [zj (zgi oz x3)] w ov w' c s
        refine Zr_st (q := (33, [zp a0, zj x1, zj x2, zj x3], [zp a0, zj (zgi oz x3)])) rfl rfl rfl ?_
        show Zr sc 44 33 [zp a0, zj x1, zj x2, zj x3] [zp a0, zj (zgi oz x3)] w ov w' c s
        refine rl_gf rfl L0 rfl rfl ?_
        show Zr sc 44 36 [zp a0, zj x1, zj x2, zj x3] [zp (a0 + 2), zj (zgi oz x3)] w ov w' c s
        refine Zr_st (q := (37, [zp a0, zj x1, zj x2, zj x3], [zj x2, zp (a0 + 2), zj (zgi oz x3)])) rfl rfl rfl ?_
        show Zr sc 44 37 [zp a0, zj x1, zj x2, zj x3] [zj x2, zp (a0 + 2), zj (zgi oz x3)] w ov w' c s
        obtain ⟨hi_6, h⟩ := h
        refine rl_ia rfl L2 hi_6.1 hi_6.2.1 hi_6.2.2 ?_
        show Zr sc 44 38 [zp a0, zj x1, zj x2, zj x3] [zj (zgi oz x2), zj (zgi oz x3)] w ov w' c s
        obtain ⟨hr_7, h⟩ := h
        refine Zr_br (p := (zgi oz x2) ≤ (zgi oz x3)) rfl rfl (zcmp_j (cnd := .ge) hr_7.1 hr_7.2) (fun hp => ?_) (fun hp => ?_)
        · replace h := h.1 hp
          show Zr sc 44 43 [zp a0, zj x1, zj x2, zj x3] [] w ov w' c s
          refine rl_inc rfl rfl rfl rfl ?_
          show Zr sc 44 46 [zp a0, zj x1, zj x2, zj (x3 + 1)] [] w ov w' c s
          refine Zr_st (q := (4, [zp a0, zj x1, zj x2, zj (x3 + 1)], [])) rfl rfl rfl ?_
          show Zr sc 44 4 [zp a0, zj x1, zj x2, zj (x3 + 1)] [] w ov w' c s
          exact h
        · replace h := h.2 hp
          show Zr sc 44 41 [zp a0, zj x1, zj x2, zj x3] [] w ov w' c s
          refine Zr_st (q := (42, [zp a0, zj x1, zj x2, zj x3], [zj x3])) rfl rfl rfl ?_
          show Zr sc 44 42 [zp a0, zj x1, zj x2, zj x3] [zj x3] w ov w' c s
          refine Zr_st (q := (43, [zp a0, zj x1, zj x3, zj x3], [])) rfl rfl rfl ?_
          show Zr sc 44 43 [zp a0, zj x1, zj x3, zj x3] [] w ov w' c s
          refine rl_inc rfl rfl rfl rfl ?_
          show Zr sc 44 46 [zp a0, zj x1, zj x3, zj (x3 + 1)] [] w ov w' c s
          refine Zr_st (q := (4, [zp a0, zj x1, zj x3, zj (x3 + 1)], [])) rfl rfl rfl ?_
          show Zr sc 44 4 [zp a0, zj x1, zj x3, zj (x3 + 1)] [] w ov w' c s
          exact h

-- HeapwrightLab$Fits.search(I)I
set_option maxRecDepth 100000 in
theorem V45_0 {sc : List Value} {w w' : List zE} {ov : Option Value} {c s : Nat} {a0 : Nat} {x1 : Int} {wy : Int} {st : Int} {hd : Int} {hn : Int} {sn : Int} {nm : Int} {ar : Int} {pk : Int} {dn : Int} (L0 : w[a0]? = some (zob 2 [zp (a0 + 1), zp (a0 + 6), zj wy, zj st, zj hd, zj hn, zj sn, zp (a0 + 9), zp (a0 + 10), zj nm, zj ar, zj pk, zj dn])) (h : (∃ fs_2 : List Value, w[(a0 + 6)]? = some (zob 3 fs_2) ∧ (∃ r_5 : Int, Zc sc 21 [zp (a0 + 6)] w (some (zj r_5)) w 0 0 ∧ ((zrg wy) ∧ (((wy < 0 ∨ 2 < wy) → (∃ r_9 : Int, Zc sc 48 [zp (a0 + 6), zj x1] (w.set a0 (zob 2 [zp (a0 + 1), zp (a0 + 6), zj wy, zj st, zj hd, zj hn, zj r_5, zp (a0 + 9), zp (a0 + 10), zj nm, zj ar, zj pk, zj dn])) (some (zj r_9)) (w.set a0 (zob 2 [zp (a0 + 1), zp (a0 + 6), zj wy, zj st, zj hd, zj hn, zj r_5, zp (a0 + 9), zp (a0 + 10), zj nm, zj ar, zj pk, zj dn])) 0 0 ∧ (ov = some (zj r_9) ∧ w' = (w.set a0 (zob 2 [zp (a0 + 1), zp (a0 + 6), zj wy, zj st, zj hd, zj hn, zj r_5, zp (a0 + 9), zp (a0 + 10), zj nm, zj ar, zj pk, zj dn])) ∧ c = 0 ∧ s = 0))) ∧ (wy = 0 → (∃ r_12 : Int, ∃ w_10 : List zE, Zc sc 46 [zp a0, zj 0, zj x1] (w.set a0 (zob 2 [zp (a0 + 1), zp (a0 + 6), zj wy, zj st, zj hd, zj hn, zj r_5, zp (a0 + 9), zp (a0 + 10), zj nm, zj ar, zj pk, zj dn])) (some (zj r_12)) w_10 0 0 ∧ (ov = some (zj r_12) ∧ w' = w_10 ∧ c = 0 ∧ s = 0))) ∧ (wy = 1 → (∃ r_15 : Int, Zc sc 47 [zp (a0 + 6), zj hn] (w.set a0 (zob 2 [zp (a0 + 1), zp (a0 + 6), zj wy, zj st, zj hd, zj hn, zj r_5, zp (a0 + 9), zp (a0 + 10), zj nm, zj ar, zj pk, zj dn])) (some (zj r_15)) (w.set a0 (zob 2 [zp (a0 + 1), zp (a0 + 6), zj wy, zj st, zj hd, zj hn, zj r_5, zp (a0 + 9), zp (a0 + 10), zj nm, zj ar, zj pk, zj dn])) 0 0 ∧ ((zrg r_15 ∧ zrg 0) ∧ (∃ r_19 : Int, ∃ w_17 : List zE, Zc sc 46 [zp a0, zj (max r_15 0), zj x1] (w.set a0 (zob 2 [zp (a0 + 1), zp (a0 + 6), zj wy, zj st, zj hd, zj hn, zj r_5, zp (a0 + 9), zp (a0 + 10), zj nm, zj ar, zj pk, zj dn])) (some (zj r_19)) w_17 0 0 ∧ (ov = some (zj r_19) ∧ w' = w_17 ∧ c = 0 ∧ s = 0))))) ∧ (wy = 2 → (∃ r_22 : Int, Zc sc 44 [zp (a0 + 6), zj x1] (w.set a0 (zob 2 [zp (a0 + 1), zp (a0 + 6), zj wy, zj st, zj hd, zj hn, zj r_5, zp (a0 + 9), zp (a0 + 10), zj nm, zj ar, zj pk, zj dn])) (some (zj r_22)) (w.set a0 (zob 2 [zp (a0 + 1), zp (a0 + 6), zj wy, zj st, zj hd, zj hn, zj r_5, zp (a0 + 9), zp (a0 + 10), zj nm, zj ar, zj pk, zj dn])) 0 0 ∧ (ov = some (zj r_22) ∧ w' = (w.set a0 (zob 2 [zp (a0 + 1), zp (a0 + 6), zj wy, zj st, zj hd, zj hn, zj r_5, zp (a0 + 9), zp (a0 + 10), zj nm, zj ar, zj pk, zj dn])) ∧ c = 0 ∧ s = 0)))))))) : Zr sc 45 0 [zp a0, zj x1] [] w ov w' c s := by
  refine Zr_st (q := (1, [zp a0, zj x1], [zp a0])) rfl rfl rfl ?_
  show Zr sc 45 1 [zp a0, zj x1] [zp a0] w ov w' c s
  refine Zr_st (q := (2, [zp a0, zj x1], [zp a0, zp a0])) rfl rfl rfl ?_
  show Zr sc 45 2 [zp a0, zj x1] [zp a0, zp a0] w ov w' c s
  refine rl_gf rfl L0 rfl rfl ?_
  show Zr sc 45 5 [zp a0, zj x1] [zp (a0 + 6), zp a0] w ov w' c s
  obtain ⟨fs_2, hl_1, h⟩ := h
  obtain ⟨r_5, hk_9, h⟩ := h
  refine rn_cal0 (ins := .invokevirtual 26) (rest := [zp a0]) rfl rfl rfl rfl (zinv_v (fs := _) hl_1 rfl rfl rfl rfl) rfl rfl hk_9 ?_
  show Zr sc 45 8 [zp a0, zj x1] [zj r_5, zp a0] w ov w' c s
  refine rl_pf rfl L0 rfl rfl rfl ?_
  show Zr sc 45 11 [zp a0, zj x1] [] (w.set a0 (zob 2 [zp (a0 + 1), zp (a0 + 6), zj wy, zj st, zj hd, zj hn, zj r_5, zp (a0 + 9), zp (a0 + 10), zj nm, zj ar, zj pk, zj dn])) ov w' c s
  refine Zr_st (q := (12, [zp a0, zj x1], [zp a0])) rfl rfl rfl ?_
  show Zr sc 45 12 [zp a0, zj x1] [zp a0] (w.set a0 (zob 2 [zp (a0 + 1), zp (a0 + 6), zj wy, zj st, zj hd, zj hn, zj r_5, zp (a0 + 9), zp (a0 + 10), zj nm, zj ar, zj pk, zj dn])) ov w' c s
  refine rl_gf rfl (zw_s L0) rfl rfl ?_
  show Zr sc 45 15 [zp a0, zj x1] [zj wy] (w.set a0 (zob 2 [zp (a0 + 1), zp (a0 + 6), zj wy, zj st, zj hd, zj hn, zj r_5, zp (a0 + 9), zp (a0 + 10), zj nm, zj ar, zj pk, zj dn])) ov w' c s
  obtain ⟨hr_6, h⟩ := h
  have hsw : (wy < 0 ∨ 2 < wy) ∨ wy = 0 ∨ wy = 1 ∨ wy = 2 := by omega
  rcases hsw with hp | hp | hp | hp
  · replace h := h.1 hp
    refine rl_sw (t := 77) rfl hr_6 (zsw_d hp rfl) ?_
    show Zr sc 45 77 [zp a0, zj x1] [] (w.set a0 (zob 2 [zp (a0 + 1), zp (a0 + 6), zj wy, zj st, zj hd, zj hn, zj r_5, zp (a0 + 9), zp (a0 + 10), zj nm, zj ar, zj pk, zj dn])) ov w' c s
    refine Zr_st (q := (78, [zp a0, zj x1], [zp a0])) rfl rfl rfl ?_
    show Zr sc 45 78 [zp a0, zj x1] [zp a0] (w.set a0 (zob 2 [zp (a0 + 1), zp (a0 + 6), zj wy, zj st, zj hd, zj hn, zj r_5, zp (a0 + 9), zp (a0 + 10), zj nm, zj ar, zj pk, zj dn])) ov w' c s
    refine rl_gf rfl (zw_s L0) rfl rfl ?_
    show Zr sc 45 81 [zp a0, zj x1] [zp (a0 + 6)] (w.set a0 (zob 2 [zp (a0 + 1), zp (a0 + 6), zj wy, zj st, zj hd, zj hn, zj r_5, zp (a0 + 9), zp (a0 + 10), zj nm, zj ar, zj pk, zj dn])) ov w' c s
    refine Zr_st (q := (82, [zp a0, zj x1], [zj x1, zp (a0 + 6)])) rfl rfl rfl ?_
    show Zr sc 45 82 [zp a0, zj x1] [zj x1, zp (a0 + 6)] (w.set a0 (zob 2 [zp (a0 + 1), zp (a0 + 6), zj wy, zj st, zj hd, zj hn, zj r_5, zp (a0 + 9), zp (a0 + 10), zj nm, zj ar, zj pk, zj dn])) ov w' c s
    obtain ⟨r_9, hk_9, h⟩ := h
    refine rn_cal0 (ins := .invokevirtual 56) (rest := []) rfl rfl rfl rfl (zinv_v (fs := _) (zw_o (by omega) hl_1) rfl rfl rfl rfl) rfl rfl hk_9 ?_
    show Zr sc 45 85 [zp a0, zj x1] [zj r_9] (w.set a0 (zob 2 [zp (a0 + 1), zp (a0 + 6), zj wy, zj st, zj hd, zj hn, zj r_5, zp (a0 + 9), zp (a0 + 10), zj nm, zj ar, zj pk, zj dn])) ov w' c s
    obtain ⟨h1, h2, h3, h4⟩ := h
    subst h1; subst h2; subst h3; subst h4
    exact Zr_ret (ins := .ireturn) rfl rfl
  · replace h := h.2.1 hp
    refine rl_sw (t := 40) rfl hr_6 (by rw [hp]; rfl) ?_
    show Zr sc 45 40 [zp a0, zj x1] [] (w.set a0 (zob 2 [zp (a0 + 1), zp (a0 + 6), zj wy, zj st, zj hd, zj hn, zj r_5, zp (a0 + 9), zp (a0 + 10), zj nm, zj ar, zj pk, zj dn])) ov w' c s
    refine Zr_st (q := (41, [zp a0, zj x1], [zp a0])) rfl rfl rfl ?_
    show Zr sc 45 41 [zp a0, zj x1] [zp a0] (w.set a0 (zob 2 [zp (a0 + 1), zp (a0 + 6), zj wy, zj st, zj hd, zj hn, zj r_5, zp (a0 + 9), zp (a0 + 10), zj nm, zj ar, zj pk, zj dn])) ov w' c s
    refine rl_ic rfl ?_
    show Zr sc 45 42 [zp a0, zj x1] [zj 0, zp a0] (w.set a0 (zob 2 [zp (a0 + 1), zp (a0 + 6), zj wy, zj st, zj hd, zj hn, zj r_5, zp (a0 + 9), zp (a0 + 10), zj nm, zj ar, zj pk, zj dn])) ov w' c s
    refine Zr_st (q := (43, [zp a0, zj x1], [zj x1, zj 0, zp a0])) rfl rfl rfl ?_
    show Zr sc 45 43 [zp a0, zj x1] [zj x1, zj 0, zp a0] (w.set a0 (zob 2 [zp (a0 + 1), zp (a0 + 6), zj wy, zj st, zj hd, zj hn, zj r_5, zp (a0 + 9), zp (a0 + 10), zj nm, zj ar, zj pk, zj dn])) ov w' c s
    obtain ⟨r_12, w_10, hk_11, h⟩ := h
    refine rn_cal0 (ins := .invokevirtual 38) (rest := []) rfl rfl rfl rfl (zinv_v (fs := _) (zw_s L0) rfl rfl rfl rfl) rfl rfl hk_11 ?_
    show Zr sc 45 46 [zp a0, zj x1] [zj r_12] w_10 ov w' c s
    obtain ⟨h1, h2, h3, h4⟩ := h
    subst h1; subst h2; subst h3; subst h4
    exact Zr_ret (ins := .ireturn) rfl rfl
  · replace h := h.2.2.1 hp
    refine rl_sw (t := 47) rfl hr_6 (by rw [hp]; rfl) ?_
    show Zr sc 45 47 [zp a0, zj x1] [] (w.set a0 (zob 2 [zp (a0 + 1), zp (a0 + 6), zj wy, zj st, zj hd, zj hn, zj r_5, zp (a0 + 9), zp (a0 + 10), zj nm, zj ar, zj pk, zj dn])) ov w' c s
    refine Zr_st (q := (48, [zp a0, zj x1], [zp a0])) rfl rfl rfl ?_
    show Zr sc 45 48 [zp a0, zj x1] [zp a0] (w.set a0 (zob 2 [zp (a0 + 1), zp (a0 + 6), zj wy, zj st, zj hd, zj hn, zj r_5, zp (a0 + 9), zp (a0 + 10), zj nm, zj ar, zj pk, zj dn])) ov w' c s
    refine Zr_st (q := (49, [zp a0, zj x1], [zp a0, zp a0])) rfl rfl rfl ?_
    show Zr sc 45 49 [zp a0, zj x1] [zp a0, zp a0] (w.set a0 (zob 2 [zp (a0 + 1), zp (a0 + 6), zj wy, zj st, zj hd, zj hn, zj r_5, zp (a0 + 9), zp (a0 + 10), zj nm, zj ar, zj pk, zj dn])) ov w' c s
    refine rl_gf rfl (zw_s L0) rfl rfl ?_
    show Zr sc 45 52 [zp a0, zj x1] [zp (a0 + 6), zp a0] (w.set a0 (zob 2 [zp (a0 + 1), zp (a0 + 6), zj wy, zj st, zj hd, zj hn, zj r_5, zp (a0 + 9), zp (a0 + 10), zj nm, zj ar, zj pk, zj dn])) ov w' c s
    refine Zr_st (q := (53, [zp a0, zj x1], [zp a0, zp (a0 + 6), zp a0])) rfl rfl rfl ?_
    show Zr sc 45 53 [zp a0, zj x1] [zp a0, zp (a0 + 6), zp a0] (w.set a0 (zob 2 [zp (a0 + 1), zp (a0 + 6), zj wy, zj st, zj hd, zj hn, zj r_5, zp (a0 + 9), zp (a0 + 10), zj nm, zj ar, zj pk, zj dn])) ov w' c s
    refine rl_gf rfl (zw_s L0) rfl rfl ?_
    show Zr sc 45 56 [zp a0, zj x1] [zj hn, zp (a0 + 6), zp a0] (w.set a0 (zob 2 [zp (a0 + 1), zp (a0 + 6), zj wy, zj st, zj hd, zj hn, zj r_5, zp (a0 + 9), zp (a0 + 10), zj nm, zj ar, zj pk, zj dn])) ov w' c s
    obtain ⟨r_15, hk_9, h⟩ := h
    refine rn_cal0 (ins := .invokevirtual 44) (rest := [zp a0]) rfl rfl rfl rfl (zinv_v (fs := _) (zw_o (by omega) hl_1) rfl rfl rfl rfl) rfl rfl hk_9 ?_
    show Zr sc 45 59 [zp a0, zj x1] [zj r_15, zp a0] (w.set a0 (zob 2 [zp (a0 + 1), zp (a0 + 6), zj wy, zj st, zj hd, zj hn, zj r_5, zp (a0 + 9), zp (a0 + 10), zj nm, zj ar, zj pk, zj dn])) ov w' c s
    refine rl_ic rfl ?_
    show Zr sc 45 60 [zp a0, zj x1] [zj 0, zj r_15, zp a0] (w.set a0 (zob 2 [zp (a0 + 1), zp (a0 + 6), zj wy, zj st, zj hd, zj hn, zj r_5, zp (a0 + 9), zp (a0 + 10), zj nm, zj ar, zj pk, zj dn])) ov w' c s
    obtain ⟨hm_16, h⟩ := h
    refine Zr_mx (b := true) (ins := .invokestatic 48) (rest := [zp a0]) rfl rfl rfl rfl (zinv_t2 (rest := [zp a0]) rfl rfl rfl rfl rfl) rfl (zmx_j hm_16.1 hm_16.2) ?_
    show Zr sc 45 63 [zp a0, zj x1] [zj (max r_15 0), zp a0] (w.set a0 (zob 2 [zp (a0 + 1), zp (a0 + 6), zj wy, zj st, zj hd, zj hn, zj r_5, zp (a0 + 9), zp (a0 + 10), zj nm, zj ar, zj pk, zj dn])) ov w' c s
    refine Zr_st (q := (64, [zp a0, zj x1], [zj x1, zj (max r_15 0), zp a0])) rfl rfl rfl ?_
    show Zr sc 45 64 [zp a0, zj x1] [zj x1, zj (max r_15 0), zp a0] (w.set a0 (zob 2 [zp (a0 + 1), zp (a0 + 6), zj wy, zj st, zj hd, zj hn, zj r_5, zp (a0 + 9), zp (a0 + 10), zj nm, zj ar, zj pk, zj dn])) ov w' c s
    obtain ⟨r_19, w_17, hk_18, h⟩ := h
    refine rn_cal0 (ins := .invokevirtual 38) (rest := []) rfl rfl rfl rfl (zinv_v (fs := _) (zw_s L0) rfl rfl rfl rfl) rfl rfl hk_18 ?_
    show Zr sc 45 67 [zp a0, zj x1] [zj r_19] w_17 ov w' c s
    obtain ⟨h1, h2, h3, h4⟩ := h
    subst h1; subst h2; subst h3; subst h4
    exact Zr_ret (ins := .ireturn) rfl rfl
  · replace h := h.2.2.2 hp
    refine rl_sw (t := 68) rfl hr_6 (by rw [hp]; rfl) ?_
    show Zr sc 45 68 [zp a0, zj x1] [] (w.set a0 (zob 2 [zp (a0 + 1), zp (a0 + 6), zj wy, zj st, zj hd, zj hn, zj r_5, zp (a0 + 9), zp (a0 + 10), zj nm, zj ar, zj pk, zj dn])) ov w' c s
    refine Zr_st (q := (69, [zp a0, zj x1], [zp a0])) rfl rfl rfl ?_
    show Zr sc 45 69 [zp a0, zj x1] [zp a0] (w.set a0 (zob 2 [zp (a0 + 1), zp (a0 + 6), zj wy, zj st, zj hd, zj hn, zj r_5, zp (a0 + 9), zp (a0 + 10), zj nm, zj ar, zj pk, zj dn])) ov w' c s
    refine rl_gf rfl (zw_s L0) rfl rfl ?_
    show Zr sc 45 72 [zp a0, zj x1] [zp (a0 + 6)] (w.set a0 (zob 2 [zp (a0 + 1), zp (a0 + 6), zj wy, zj st, zj hd, zj hn, zj r_5, zp (a0 + 9), zp (a0 + 10), zj nm, zj ar, zj pk, zj dn])) ov w' c s
    refine Zr_st (q := (73, [zp a0, zj x1], [zj x1, zp (a0 + 6)])) rfl rfl rfl ?_
    show Zr sc 45 73 [zp a0, zj x1] [zj x1, zp (a0 + 6)] (w.set a0 (zob 2 [zp (a0 + 1), zp (a0 + 6), zj wy, zj st, zj hd, zj hn, zj r_5, zp (a0 + 9), zp (a0 + 10), zj nm, zj ar, zj pk, zj dn])) ov w' c s
    obtain ⟨r_22, hk_9, h⟩ := h
    refine rn_cal0 (ins := .invokevirtual 53) (rest := []) rfl rfl rfl rfl (zinv_v (fs := _) (zw_o (by omega) hl_1) rfl rfl rfl rfl) rfl rfl hk_9 ?_
    show Zr sc 45 76 [zp a0, zj x1] [zj r_22] (w.set a0 (zob 2 [zp (a0 + 1), zp (a0 + 6), zj wy, zj st, zj hd, zj hn, zj r_5, zp (a0 + 9), zp (a0 + 10), zj nm, zj ar, zj pk, zj dn])) ov w' c s
    obtain ⟨h1, h2, h3, h4⟩ := h
    subst h1; subst h2; subst h3; subst h4
    exact Zr_ret (ins := .ireturn) rfl rfl

-- HeapwrightLab$Fits.searchRound(II)I
set_option maxRecDepth 100000 in
theorem V46_0 {sc : List Value} {w w' : List zE} {ov : Option Value} {c s : Nat} {a0 : Nat} {x1 : Int} {x2 : Int} {wy : Int} {st : Int} {hd : Int} {hn : Int} {sn : Int} {nm : Int} {ar : Int} {pk : Int} {dn : Int} (L0 : w[a0]? = some (zob 2 [zp (a0 + 1), zp (a0 + 6), zj wy, zj st, zj hd, zj hn, zj sn, zp (a0 + 9), zp (a0 + 10), zj nm, zj ar, zj pk, zj dn])) (h : (∃ fs_2 : List Value, w[(a0 + 6)]? = some (zob 3 fs_2) ∧ (∃ r_5 : Int, Zc sc 21 [zp (a0 + 6)] w (some (zj r_5)) w 0 0 ∧ Zr sc 46 11 [zp a0, zj x1, zj x2, zj r_5, zj 0, zmk] [] w ov w' c s))) : Zr sc 46 0 [zp a0, zj x1, zj x2, zmk, zmk, zmk] [] w ov w' c s := by
  refine Zr_st (q := (1, [zp a0, zj x1, zj x2, zmk, zmk, zmk], [zp a0])) rfl rfl rfl ?_
  show Zr sc 46 1 [zp a0, zj x1, zj x2, zmk, zmk, zmk] [zp a0] w ov w' c s
  refine rl_gf rfl L0 rfl rfl ?_
  show Zr sc 46 4 [zp a0, zj x1, zj x2, zmk, zmk, zmk] [zp (a0 + 6)] w ov w' c s
  obtain ⟨fs_2, hl_1, h⟩ := h
  obtain ⟨r_5, hk_9, h⟩ := h
  refine rn_cal0 (ins := .invokevirtual 26) (rest := []) rfl rfl rfl rfl (zinv_v (fs := _) hl_1 rfl rfl rfl rfl) rfl rfl hk_9 ?_
  show Zr sc 46 7 [zp a0, zj x1, zj x2, zmk, zmk, zmk] [zj r_5] w ov w' c s
  refine Zr_st (q := (8, [zp a0, zj x1, zj x2, zj r_5, zmk, zmk], [])) rfl rfl rfl ?_
  show Zr sc 46 8 [zp a0, zj x1, zj x2, zj r_5, zmk, zmk] [] w ov w' c s
  refine rl_ic rfl ?_
  show Zr sc 46 9 [zp a0, zj x1, zj x2, zj r_5, zmk, zmk] [zj 0] w ov w' c s
  refine Zr_st (q := (11, [zp a0, zj x1, zj x2, zj r_5, zj 0, zmk], [])) rfl rfl rfl ?_
  show Zr sc 46 11 [zp a0, zj x1, zj x2, zj r_5, zj 0, zmk] [] w ov w' c s
  exact h
set_option maxRecDepth 100000 in
theorem V46_11 {sc : List Value} {w w' : List zE} {ov : Option Value} {c s : Nat} {a0 : Nat} {x1 : Int} {x2 : Int} {x3 : Int} {x4 : Int} {v5 : Value} {wy : Int} {st : Int} {hd : Int} {hn : Int} {sn : Int} {nm : Int} {ar : Int} {pk : Int} {dn : Int} (L0 : w[a0]? = some (zob 2 [zp (a0 + 1), zp (a0 + 6), zj wy, zj st, zj hd, zj hn, zj sn, zp (a0 + 9), zp (a0 + 10), zj nm, zj ar, zj pk, zj dn])) (h : ((zrg x4 ∧ zrg x3) ∧ ((x3 ≤ x4 → (ov = some (zj (-1)) ∧ w' = w ∧ c = 0 ∧ s = 0)) ∧ (¬ (x3 ≤ x4) → ((zrg (x1 + x4) ∧ zrg x3) ∧ ((x3 ≤ (x1 + x4) → (∃ fs_4 : List Value, w[(a0 + 6)]? = some (zob 3 fs_4) ∧ (∃ r_7 : Int, Zc sc 26 [zp (a0 + 6), zj ((x1 + x4) - x3)] w (some (zj r_7)) w 0 0 ∧ ((zrg r_7 ∧ zrg x2) ∧ ((r_7 < x2 → Zr sc 46 11 [zp a0, zj x1, zj x2, zj x3, zj (x4 + 1), zj ((x1 + x4) - x3)] [] w ov w' c s) ∧ (¬ (r_7 < x2) → (ov = some (zj ((x1 + x4) - x3)) ∧ w' = (w.set a0 (zob 2 [zp (a0 + 1), zp (a0 + 6), zj wy, zj st, zj hd, zj hn, zj (x4 + 1), zp (a0 + 9), zp (a0 + 10), zj nm, zj ar, zj pk, zj dn])) ∧ c = 0 ∧ s = 0))))))) ∧ (¬ (x3 ≤ (x1 + x4)) → (∃ fs_10 : List Value, w[(a0 + 6)]? = some (zob 3 fs_10) ∧ (∃ r_13 : Int, Zc sc 26 [zp (a0 + 6), zj (x1 + x4)] w (some (zj r_13)) w 0 0 ∧ ((zrg r_13 ∧ zrg x2) ∧ ((r_13 < x2 → Zr sc 46 11 [zp a0, zj x1, zj x2, zj x3, zj (x4 + 1), zj (x1 + x4)] [] w ov w' c s) ∧ (¬ (r_13 < x2) → (ov = some (zj (x1 + x4)) ∧ w' = (w.set a0 (zob 2 [zp (a0 + 1), zp (a0 + 6), zj wy, zj st, zj hd, zj hn, zj (x4 + 1), zp (a0 + 9), zp (a0 + 10), zj nm, zj ar, zj pk, zj dn])) ∧ c = 0 ∧ s = 0))))))))))))) : Zr sc 46 11 [zp a0, zj x1, zj x2, zj x3, zj x4, v5] [] w ov w' c s := by
  refine Zr_st (q := (13, [zp a0, zj x1, zj x2, zj x3, zj x4, v5], [zj x4])) rfl rfl rfl ?_
  show Zr sc 46 13 [zp a0, zj x1, zj x2, zj x3, zj x4, v5] [zj x4] w ov w' c s
  refine Zr_st (q := (14, [zp a0, zj x1, zj x2, zj x3, zj x4, v5], [zj x3, zj x4])) rfl rfl rfl ?_
  show Zr sc 46 14 [zp a0, zj x1, zj x2, zj x3, zj x4, v5] [zj x3, zj x4] w ov w' c s
  obtain ⟨hr_1, h⟩ := h
  refine Zr_br (p := x3 ≤ x4) rfl rfl (zcmp_j (cnd := .ge) hr_1.1 hr_1.2) (fun hp => ?_) (fun hp => ?_)
  · replace h := h.1 hp
    show Zr sc 46 70 [zp a0, zj x1, zj x2, zj x3, zj x4, v5] [] w ov w' c s
    refine rl_ic rfl ?_
    show Zr sc 46 71 [zp a0, zj x1, zj x2, zj x3, zj x4, v5] [zj (-1)] w ov w' c s
    obtain ⟨h1, h2, h3, h4⟩ := h
    subst h1; subst h2; subst h3; subst h4
    exact Zr_ret (ins := .ireturn) rfl rfl
  · replace h := h.2 hp
    show Zr sc 46 17 [zp a0, zj x1, zj x2, zj x3, zj x4, v5] [] w ov w' c s
    refine Zr_st (q := (18, [zp a0, zj x1, zj x2, zj x3, zj x4, v5], [zj x1])) rfl rfl rfl ?_
    show Zr sc 46 18 [zp a0, zj x1, zj x2, zj x3, zj x4, v5] [zj x1] w ov w' c s
    refine Zr_st (q := (20, [zp a0, zj x1, zj x2, zj x3, zj x4, v5], [zj x4, zj x1])) rfl rfl rfl ?_
    show Zr sc 46 20 [zp a0, zj x1, zj x2, zj x3, zj x4, v5] [zj x4, zj x1] w ov w' c s
    refine rl_add rfl ?_
    show Zr sc 46 21 [zp a0, zj x1, zj x2, zj x3, zj x4, v5] [zj (x1 + x4)] w ov w' c s
    refine Zr_st (q := (22, [zp a0, zj x1, zj x2, zj x3, zj x4, v5], [zj x3, zj (x1 + x4)])) rfl rfl rfl ?_
    show Zr sc 46 22 [zp a0, zj x1, zj x2, zj x3, zj x4, v5] [zj x3, zj (x1 + x4)] w ov w' c s
    obtain ⟨hr_2, h⟩ := h
    refine Zr_br (p := x3 ≤ (x1 + x4)) rfl rfl (zcmp_j (cnd := .ge) hr_2.1 hr_2.2) (fun hp => ?_) (fun hp => ?_)
    · replace h := h.1 hp
      show Zr sc 46 32 [zp a0, zj x1, zj x2, zj x3, zj x4, v5] [] w ov w' c s
      refine Zr_st (q := (33, [zp a0, zj x1, zj x2, zj x3, zj x4, v5], [zj x1])) rfl rfl rfl ?_
      show Zr sc 46 33 [zp a0, zj x1, zj x2, zj x3, zj x4, v5] [zj x1] w ov w' c s
      refine Zr_st (q := (35, [zp a0, zj x1, zj x2, zj x3, zj x4, v5], [zj x4, zj x1])) rfl rfl rfl ?_
      show Zr sc 46 35 [zp a0, zj x1, zj x2, zj x3, zj x4, v5] [zj x4, zj x1] w ov w' c s
      refine rl_add rfl ?_
      show Zr sc 46 36 [zp a0, zj x1, zj x2, zj x3, zj x4, v5] [zj (x1 + x4)] w ov w' c s
      refine Zr_st (q := (37, [zp a0, zj x1, zj x2, zj x3, zj x4, v5], [zj x3, zj (x1 + x4)])) rfl rfl rfl ?_
      show Zr sc 46 37 [zp a0, zj x1, zj x2, zj x3, zj x4, v5] [zj x3, zj (x1 + x4)] w ov w' c s
      refine rl_sub rfl ?_
      show Zr sc 46 38 [zp a0, zj x1, zj x2, zj x3, zj x4, v5] [zj ((x1 + x4) - x3)] w ov w' c s
      refine Zr_st (q := (40, [zp a0, zj x1, zj x2, zj x3, zj x4, zj ((x1 + x4) - x3)], [])) rfl rfl rfl ?_
      show Zr sc 46 40 [zp a0, zj x1, zj x2, zj x3, zj x4, zj ((x1 + x4) - x3)] [] w ov w' c s
      refine Zr_st (q := (41, [zp a0, zj x1, zj x2, zj x3, zj x4, zj ((x1 + x4) - x3)], [zp a0])) rfl rfl rfl ?_
      show Zr sc 46 41 [zp a0, zj x1, zj x2, zj x3, zj x4, zj ((x1 + x4) - x3)] [zp a0] w ov w' c s
      refine rl_gf rfl L0 rfl rfl ?_
      show Zr sc 46 44 [zp a0, zj x1, zj x2, zj x3, zj x4, zj ((x1 + x4) - x3)] [zp (a0 + 6)] w ov w' c s
      refine Zr_st (q := (46, [zp a0, zj x1, zj x2, zj x3, zj x4, zj ((x1 + x4) - x3)], [zj ((x1 + x4) - x3), zp (a0 + 6)])) rfl rfl rfl ?_
      show Zr sc 46 46 [zp a0, zj x1, zj x2, zj x3, zj x4, zj ((x1 + x4) - x3)] [zj ((x1 + x4) - x3), zp (a0 + 6)] w ov w' c s
      obtain ⟨fs_4, hl_3, h⟩ := h
      obtain ⟨r_7, hk_9, h⟩ := h
      refine rn_cal0 (ins := .invokevirtual 66) (rest := []) rfl rfl rfl rfl (zinv_v (fs := _) hl_3 rfl rfl rfl rfl) rfl rfl hk_9 ?_
      show Zr sc 46 49 [zp a0, zj x1, zj x2, zj x3, zj x4, zj ((x1 + x4) - x3)] [zj r_7] w ov w' c s
      refine Zr_st (q := (50, [zp a0, zj x1, zj x2, zj x3, zj x4, zj ((x1 + x4) - x3)], [zj x2, zj r_7])) rfl rfl rfl ?_
      show Zr sc 46 50 [zp a0, zj x1, zj x2, zj x3, zj x4, zj ((x1 + x4) - x3)] [zj x2, zj r_7] w ov w' c s
      obtain ⟨hr_8, h⟩ := h
      refine Zr_br (p := r_7 < x2) rfl rfl (zcmp_j (cnd := .lt) hr_8.1 hr_8.2) (fun hp => ?_) (fun hp => ?_)
      · replace h := h.1 hp
        show Zr sc 46 64 [zp a0, zj x1, zj x2, zj x3, zj x4, zj ((x1 + x4) - x3)] [] w ov w' c s
        refine rl_inc rfl rfl rfl rfl ?_
        show Zr sc 46 67 [zp a0, zj x1, zj x2, zj x3, zj (x4 + 1), zj ((x1 + x4) - x3)] [] w ov w' c s
        refine Zr_st (q := (11, [zp a0, zj x1, zj x2, zj x3, zj (x4 + 1), zj ((x1 + x4) - x3)], [])) rfl rfl rfl ?_
        show Zr sc 46 11 [zp a0, zj x1, zj x2, zj x3, zj (x4 + 1), zj ((x1 + x4) - x3)] [] w ov w' c s
        exact h
      · replace h := h.2 hp
        show Zr sc 46 53 [zp a0, zj x1, zj x2, zj x3, zj x4, zj ((x1 + x4) - x3)] [] w ov w' c s
        refine Zr_st (q := (54, [zp a0, zj x1, zj x2, zj x3, zj x4, zj ((x1 + x4) - x3)], [zp a0])) rfl rfl rfl ?_
        show Zr sc 46 54 [zp a0, zj x1, zj x2, zj x3, zj x4, zj ((x1 + x4) - x3)] [zp a0] w ov w' c s
        refine Zr_st (q := (56, [zp a0, zj x1, zj x2, zj x3, zj x4, zj ((x1 + x4) - x3)], [zj x4, zp a0])) rfl rfl rfl ?_
        show Zr sc 46 56 [zp a0, zj x1, zj x2, zj x3, zj x4, zj ((x1 + x4) - x3)] [zj x4, zp a0] w ov w' c s
        refine rl_ic rfl ?_
        show Zr sc 46 57 [zp a0, zj x1, zj x2, zj x3, zj x4, zj ((x1 + x4) - x3)] [zj 1, zj x4, zp a0] w ov w' c s
        refine rl_add rfl ?_
        show Zr sc 46 58 [zp a0, zj x1, zj x2, zj x3, zj x4, zj ((x1 + x4) - x3)] [zj (x4 + 1), zp a0] w ov w' c s
        refine rl_pf rfl L0 rfl rfl rfl ?_
        show Zr sc 46 61 [zp a0, zj x1, zj x2, zj x3, zj x4, zj ((x1 + x4) - x3)] [] (w.set a0 (zob 2 [zp (a0 + 1), zp (a0 + 6), zj wy, zj st, zj hd, zj hn, zj (x4 + 1), zp (a0 + 9), zp (a0 + 10), zj nm, zj ar, zj pk, zj dn])) ov w' c s
        refine Zr_st (q := (63, [zp a0, zj x1, zj x2, zj x3, zj x4, zj ((x1 + x4) - x3)], [zj ((x1 + x4) - x3)])) rfl rfl rfl ?_
        show Zr sc 46 63 [zp a0, zj x1, zj x2, zj x3, zj x4, zj ((x1 + x4) - x3)] [zj ((x1 + x4) - x3)] (w.set a0 (zob 2 [zp (a0 + 1), zp (a0 + 6), zj wy, zj st, zj hd, zj hn, zj (x4 + 1), zp (a0 + 9), zp (a0 + 10), zj nm, zj ar, zj pk, zj dn])) ov w' c s
        obtain ⟨h1, h2, h3, h4⟩ := h
        subst h1; subst h2; subst h3; subst h4
        exact Zr_ret (ins := .ireturn) rfl rfl
    · replace h := h.2 hp
      show Zr sc 46 25 [zp a0, zj x1, zj x2, zj x3, zj x4, v5] [] w ov w' c s
      refine Zr_st (q := (26, [zp a0, zj x1, zj x2, zj x3, zj x4, v5], [zj x1])) rfl rfl rfl ?_
      show Zr sc 46 26 [zp a0, zj x1, zj x2, zj x3, zj x4, v5] [zj x1] w ov w' c s
      refine Zr_st (q := (28, [zp a0, zj x1, zj x2, zj x3, zj x4, v5], [zj x4, zj x1])) rfl rfl rfl ?_
      show Zr sc 46 28 [zp a0, zj x1, zj x2, zj x3, zj x4, v5] [zj x4, zj x1] w ov w' c s
      refine rl_add rfl ?_
      show Zr sc 46 29 [zp a0, zj x1, zj x2, zj x3, zj x4, v5] [zj (x1 + x4)] w ov w' c s
      refine Zr_st (q := (38, [zp a0, zj x1, zj x2, zj x3, zj x4, v5], [zj (x1 + x4)])) rfl rfl rfl ?_
      show Zr sc 46 38 [zp a0, zj x1, zj x2, zj x3, zj x4, v5] [zj (x1 + x4)] w ov w' c s
      refine Zr_st (q := (40, [zp a0, zj x1, zj x2, zj x3, zj x4, zj (x1 + x4)], [])) rfl rfl rfl ?_
      show Zr sc 46 40 [zp a0, zj x1, zj x2, zj x3, zj x4, zj (x1 + x4)] [] w ov w' c s
      refine Zr_st (q := (41, [zp a0, zj x1, zj x2, zj x3, zj x4, zj (x1 + x4)], [zp a0])) rfl rfl rfl ?_
      show Zr sc 46 41 [zp a0, zj x1, zj x2, zj x3, zj x4, zj (x1 + x4)] [zp a0] w ov w' c s
      refine rl_gf rfl L0 rfl rfl ?_
      show Zr sc 46 44 [zp a0, zj x1, zj x2, zj x3, zj x4, zj (x1 + x4)] [zp (a0 + 6)] w ov w' c s
      refine Zr_st (q := (46, [zp a0, zj x1, zj x2, zj x3, zj x4, zj (x1 + x4)], [zj (x1 + x4), zp (a0 + 6)])) rfl rfl rfl ?_
      show Zr sc 46 46 [zp a0, zj x1, zj x2, zj x3, zj x4, zj (x1 + x4)] [zj (x1 + x4), zp (a0 + 6)] w ov w' c s
      obtain ⟨fs_10, hl_9, h⟩ := h
      obtain ⟨r_13, hk_9, h⟩ := h
      refine rn_cal0 (ins := .invokevirtual 66) (rest := []) rfl rfl rfl rfl (zinv_v (fs := _) hl_9 rfl rfl rfl rfl) rfl rfl hk_9 ?_
      show Zr sc 46 49 [zp a0, zj x1, zj x2, zj x3, zj x4, zj (x1 + x4)] [zj r_13] w ov w' c s
      refine Zr_st (q := (50, [zp a0, zj x1, zj x2, zj x3, zj x4, zj (x1 + x4)], [zj x2, zj r_13])) rfl rfl rfl ?_
      show Zr sc 46 50 [zp a0, zj x1, zj x2, zj x3, zj x4, zj (x1 + x4)] [zj x2, zj r_13] w ov w' c s
      obtain ⟨hr_14, h⟩ := h
      refine Zr_br (p := r_13 < x2) rfl rfl (zcmp_j (cnd := .lt) hr_14.1 hr_14.2) (fun hp => ?_) (fun hp => ?_)
      · replace h := h.1 hp
        show Zr sc 46 64 [zp a0, zj x1, zj x2, zj x3, zj x4, zj (x1 + x4)] [] w ov w' c s
        refine rl_inc rfl rfl rfl rfl ?_
        show Zr sc 46 67 [zp a0, zj x1, zj x2, zj x3, zj (x4 + 1), zj (x1 + x4)] [] w ov w' c s
        refine Zr_st (q := (11, [zp a0, zj x1, zj x2, zj x3, zj (x4 + 1), zj (x1 + x4)], [])) rfl rfl rfl ?_
        show Zr sc 46 11 [zp a0, zj x1, zj x2, zj x3, zj (x4 + 1), zj (x1 + x4)] [] w ov w' c s
        exact h
      · replace h := h.2 hp
        show Zr sc 46 53 [zp a0, zj x1, zj x2, zj x3, zj x4, zj (x1 + x4)] [] w ov w' c s
        refine Zr_st (q := (54, [zp a0, zj x1, zj x2, zj x3, zj x4, zj (x1 + x4)], [zp a0])) rfl rfl rfl ?_
        show Zr sc 46 54 [zp a0, zj x1, zj x2, zj x3, zj x4, zj (x1 + x4)] [zp a0] w ov w' c s
        refine Zr_st (q := (56, [zp a0, zj x1, zj x2, zj x3, zj x4, zj (x1 + x4)], [zj x4, zp a0])) rfl rfl rfl ?_
        show Zr sc 46 56 [zp a0, zj x1, zj x2, zj x3, zj x4, zj (x1 + x4)] [zj x4, zp a0] w ov w' c s
        refine rl_ic rfl ?_
        show Zr sc 46 57 [zp a0, zj x1, zj x2, zj x3, zj x4, zj (x1 + x4)] [zj 1, zj x4, zp a0] w ov w' c s
        refine rl_add rfl ?_
        show Zr sc 46 58 [zp a0, zj x1, zj x2, zj x3, zj x4, zj (x1 + x4)] [zj (x4 + 1), zp a0] w ov w' c s
        refine rl_pf rfl L0 rfl rfl rfl ?_
        show Zr sc 46 61 [zp a0, zj x1, zj x2, zj x3, zj x4, zj (x1 + x4)] [] (w.set a0 (zob 2 [zp (a0 + 1), zp (a0 + 6), zj wy, zj st, zj hd, zj hn, zj (x4 + 1), zp (a0 + 9), zp (a0 + 10), zj nm, zj ar, zj pk, zj dn])) ov w' c s
        refine Zr_st (q := (63, [zp a0, zj x1, zj x2, zj x3, zj x4, zj (x1 + x4)], [zj (x1 + x4)])) rfl rfl rfl ?_
        show Zr sc 46 63 [zp a0, zj x1, zj x2, zj x3, zj x4, zj (x1 + x4)] [zj (x1 + x4)] (w.set a0 (zob 2 [zp (a0 + 1), zp (a0 + 6), zj wy, zj st, zj hd, zj hn, zj (x4 + 1), zp (a0 + 9), zp (a0 + 10), zj nm, zj ar, zj pk, zj dn])) ov w' c s
        obtain ⟨h1, h2, h3, h4⟩ := h
        subst h1; subst h2; subst h3; subst h4
        exact Zr_ret (ins := .ireturn) rfl rfl

-- HeapwrightLab$Holes.firstReaching(I)I
set_option maxRecDepth 100000 in
theorem V47_0 {sc : List Value} {w w' : List zE} {ov : Option Value} {c s : Nat} {a0 : Nat} {x1 : Int} (h : Zr sc 47 2 [zp a0, zj x1, zj 0] [] w ov w' c s) : Zr sc 47 0 [zp a0, zj x1, zmk] [] w ov w' c s := by
  refine rl_ic rfl ?_
  show Zr sc 47 1 [zp a0, zj x1, zmk] [zj 0] w ov w' c s
  refine Zr_st (q := (2, [zp a0, zj x1, zj 0], [])) rfl rfl rfl ?_
  show Zr sc 47 2 [zp a0, zj x1, zj 0] [] w ov w' c s
  exact h
set_option maxRecDepth 100000 in
theorem V47_2 {sc : List Value} {w w' : List zE} {ov : Option Value} {c s : Nat} {a0 : Nat} {x1 : Int} {x2 : Int} {ct : Int} {op : List Int} {oz : List Int} (L0 : w[a0]? = some (zob 3 [zp (a0 + 1), zp (a0 + 2), zj ct])) (L1 : w[(a0 + 1)]? = some (za op)) (L2 : w[(a0 + 2)]? = some (za oz)) (h : ((zrg x2 ∧ zrg ct) ∧ ((ct ≤ x2 → (ov = some (zj (-1)) ∧ w' = w ∧ c = 0 ∧ s = 0)) ∧ (¬ (ct ≤ x2) → (((0 : Int) ≤ x2 ∧ x2 < (op.length : Int) ∧ x2 ≤ (2147483647 : Int)) ∧ (((0 : Int) ≤ x2 ∧ x2 < (oz.length : Int) ∧ x2 ≤ (2147483647 : Int)) ∧ ((zrg ((zgi op x2) + (zgi oz x2)) ∧ zrg x1) ∧ ((((zgi op x2) + (zgi oz x2)) ≤ x1 → Zr sc 47 2 [zp a0, zj x1, zj (x2 + 1)] [] w ov w' c s) ∧ (¬ (((zgi op x2) + (zgi oz x2)) ≤ x1) → (ov = some (zj x2) ∧ w' = w ∧ c = 0 ∧ s = 0)))))))))) : Zr sc 47 2 [zp a0, zj x1, zj x2] [] w ov w' c s := by
  refine Zr_st (q := (3, [zp a0, zj x1, zj x2], [zj x2])) rfl rfl rfl ?_
  show Zr sc 47 3 [zp a0, zj x1, zj x2] [zj x2] w ov w' c s
  refine Zr_st (q := (4, [zp a0, zj x1, zj x2], [zp a0, zj x2])) rfl rfl rfl ?_
  show Zr sc 47 4 [zp a0, zj x1, zj x2] [zp a0, zj x2] w ov w' c s
  refine rl_gf rfl L0 rfl rfl ?_
  show Zr sc 47 7 [zp a0, zj x1, zj x2] [zj ct, zj x2] w ov w' c s
  obtain ⟨hr_1, h⟩ := h
  refine Zr_br (p := ct ≤ x2) rfl rfl (zcmp_j (cnd := .ge) hr_1.1 hr_1.2) (fun hp => ?_) (fun hp => ?_)
  · replace h := h.1 hp
    show Zr sc 47 35 [zp a0, zj x1, zj x2] [] w ov w' c s
    refine rl_ic rfl ?_
    show Zr sc 47 36 [zp a0, zj x1, zj x2] [zj (-1)] w ov w' c s
    obtain ⟨h1, h2, h3, h4⟩ := h
    subst h1; subst h2; subst h3; subst h4
    exact Zr_ret (ins := .ireturn) rfl rfl
  · replace h := h.2 hp
    show Zr sc 47 10 [zp a0, zj x1, zj x2] [] w ov w' c s
    refine Zr_st (q := (11, [zp a0, zj x1, zj x2], [zp a0])) rfl rfl rfl ?_
    show Zr sc 47 11 [zp a0, zj x1, zj x2] [zp a0] w ov w' c s
    refine rl_gf rfl L0 rfl rfl ?_
    show Zr sc 47 14 [zp a0, zj x1, zj x2] [zp (a0 + 1)] w ov w' c s
    refine Zr_st (q := (15, [zp a0, zj x1, zj x2], [zj x2, zp (a0 + 1)])) rfl rfl rfl ?_
    show Zr sc 47 15 [zp a0, zj x1, zj x2] [zj x2, zp (a0 + 1)] w ov w' c s
    obtain ⟨hi_2, h⟩ := h
    refine rl_ia rfl L1 hi_2.1 hi_2.2.1 hi_2.2.2 ?_
    show Zr sc 47 16 [zp a0, zj x1, zj x2] [zj (zgi op x2)] w ov w' c s
    refine Zr_st (q := (17, [zp a0, zj x1, zj x2], [zp a0, zj (zgi op x2)])) rfl rfl rfl ?_
    show Zr sc 47 17 [zp a0, zj x1, zj x2] [zp a0, zj (zgi op x2)] w ov w' c s
    refine rl_gf rfl L0 rfl rfl ?_
    show Zr sc 47 20 [zp a0, zj x1, zj x2] [zp (a0 + 2), zj (zgi op x2)] w ov w' c s
    refine Zr_st (q := (21, [zp a0, zj x1, zj x2], [zj x2, zp (a0 + 2), zj (zgi op x2)])) rfl rfl rfl ?_
    show Zr sc 47 21 [zp a0, zj x1, zj x2] [zj x2, zp (a0 + 2), zj (zgi op x2)] w ov w' c s
    obtain ⟨hi_3, h⟩ := h
    refine rl_ia rfl L2 hi_3.1 hi_3.2.1 hi_3.2.2 ?_
    show Zr sc 47 22 [zp a0, zj x1, zj x2] [zj (zgi oz x2), zj (zgi op x2)] w ov w' c s
    refine rl_add rfl ?_
    show Zr sc 47 23 [zp a0, zj x1, zj x2] [zj ((zgi op x2) + (zgi oz x2))] w ov w' c s
    refine Zr_st (q := (24, [zp a0, zj x1, zj x2], [zj x1, zj ((zgi op x2) + (zgi oz x2))])) rfl rfl rfl ?_
    show Zr sc 47 24 [zp a0, zj x1, zj x2] [zj x1, zj ((zgi op x2) + (zgi oz x2))] w ov w' c s
    obtain ⟨hr_4, h⟩ := h
    refine Zr_br (p := ((zgi op x2) + (zgi oz x2)) ≤ x1) rfl rfl (zcmp_j (cnd := .le) hr_4.1 hr_4.2) (fun hp => ?_) (fun hp => ?_)
    · replace h := h.1 hp
      show Zr sc 47 29 [zp a0, zj x1, zj x2] [] w ov w' c s
      refine rl_inc rfl rfl rfl rfl ?_
      show Zr sc 47 32 [zp a0, zj x1, zj (x2 + 1)] [] w ov w' c s
      refine Zr_st (q := (2, [zp a0, zj x1, zj (x2 + 1)], [])) rfl rfl rfl ?_
      show Zr sc 47 2 [zp a0, zj x1, zj (x2 + 1)] [] w ov w' c s
      exact h
    · replace h := h.2 hp
      show Zr sc 47 27 [zp a0, zj x1, zj x2] [] w ov w' c s
      refine Zr_st (q := (28, [zp a0, zj x1, zj x2], [zj x2])) rfl rfl rfl ?_
      show Zr sc 47 28 [zp a0, zj x1, zj x2] [zj x2] w ov w' c s
      obtain ⟨h1, h2, h3, h4⟩ := h
      subst h1; subst h2; subst h3; subst h4
      exact Zr_ret (ins := .ireturn) rfl rfl

-- HeapwrightLab$Holes.widestWith(I)I
set_option maxRecDepth 100000 in
theorem V48_0 {sc : List Value} {w w' : List zE} {ov : Option Value} {c s : Nat} {a0 : Nat} {x1 : Int} (h : Zr sc 48 4 [zp a0, zj x1, zj (-1), zj 0] [] w ov w' c s) : Zr sc 48 0 [zp a0, zj x1, zmk, zmk] [] w ov w' c s := by
  refine rl_ic rfl ?_
  show Zr sc 48 1 [zp a0, zj x1, zmk, zmk] [zj (-1)] w ov w' c s
  refine Zr_st (q := (2, [zp a0, zj x1, zj (-1), zmk], [])) rfl rfl rfl ?_
  show Zr sc 48 2 [zp a0, zj x1, zj (-1), zmk] [] w ov w' c s
  refine rl_ic rfl ?_
  show Zr sc 48 3 [zp a0, zj x1, zj (-1), zmk] [zj 0] w ov w' c s
  refine Zr_st (q := (4, [zp a0, zj x1, zj (-1), zj 0], [])) rfl rfl rfl ?_
  show Zr sc 48 4 [zp a0, zj x1, zj (-1), zj 0] [] w ov w' c s
  exact h
set_option maxRecDepth 100000 in
theorem V48_4 {sc : List Value} {w w' : List zE} {ov : Option Value} {c s : Nat} {a0 : Nat} {x1 : Int} {x2 : Int} {x3 : Int} {ct : Int} {oz : List Int} (L0 : w[a0]? = some (zob 3 [zp (a0 + 1), zp (a0 + 2), zj ct])) (L2 : w[(a0 + 2)]? = some (za oz)) (h : ((zrg x3 ∧ zrg ct) ∧ ((ct ≤ x3 → (ov = some (zj x2) ∧ w' = w ∧ c = 0 ∧ s = 0)) ∧ (¬ (ct ≤ x3) → (((0 : Int) ≤ x3 ∧ x3 < (oz.length : Int) ∧ x3 ≤ (2147483647 : Int)) ∧ ((zrg (zgi oz x3) ∧ zrg x1) ∧ (((zgi oz x3) < x1 → Zr sc 48 4 [zp a0, zj x1, zj x2, zj (x3 + 1)] [] w ov w' c s) ∧ (¬ ((zgi oz x3) < x1) → ((zrg x2) ∧ ((x2 < 0 → Zr sc 48 4 [zp a0, zj x1, zj x3, zj (x3 + 1)] [] w ov w' c s) ∧ (¬ (x2 < 0) → (((0 : Int) ≤ x3 ∧ x3 < (oz.length : Int) ∧ x3 ≤ (2147483647 : Int)) ∧ (((0 : Int) ≤ x2 ∧ x2 < (oz.length : Int) ∧ x2 ≤ (2147483647 : Int)) ∧ ((zrg (zgi oz x3) ∧ zrg (zgi oz x2)) ∧ (((zgi oz x3) ≤ (zgi oz x2) → Zr sc 48 4 [zp a0, zj x1, zj x2, zj (x3 + 1)] [] w ov w' c s) ∧ (¬ ((zgi oz x3) ≤ (zgi oz x2)) → Zr sc 48 4 [zp a0, zj x1, zj x3, zj (x3 + 1)] [] w ov w' c s)))))))))))))))) : Zr sc 48 4 [zp a0, zj x1, zj x2, zj x3] [] w ov w' c s := by
  refine Zr_st (q := (5, [zp a0, zj x1, zj x2, zj x3], [zj x3])) rfl rfl rfl ?_
  show Zr sc 48 5 [zp a0, zj x1, zj x2, zj x3] [zj x3] w ov w' c s
  refine Zr_st (q := (6, [zp a0, zj x1, zj x2, zj x3], [zp a0, zj x3])) rfl rfl rfl ?_
  show Zr sc 48 6 [zp a0, zj x1, zj x2, zj x3] [zp a0, zj x3] w ov w' c s
  refine rl_gf rfl L0 rfl rfl ?_
  show Zr sc 48 9 [zp a0, zj x1, zj x2, zj x3] [zj ct, zj x3] w ov w' c s
  obtain ⟨hr_1, h⟩ := h
  refine Zr_br (p := ct ≤ x3) rfl rfl (zcmp_j (cnd := .ge) hr_1.1 hr_1.2) (fun hp => ?_) (fun hp => ?_)
  · replace h := h.1 hp
    show Zr sc 48 49 [zp a0, zj x1, zj x2, zj x3] [] w ov w' c s
    refine Zr_st (q := (50, [zp a0, zj x1, zj x2, zj x3], [zj x2])) rfl rfl rfl ?_
    show Zr sc 48 50 [zp a0, zj x1, zj x2, zj x3] [zj x2] w ov w' c s
    obtain ⟨h1, h2, h3, h4⟩ := h
    subst h1; subst h2; subst h3; subst h4
    exact Zr_ret (ins := .ireturn) rfl rfl
  · replace h := h.2 hp
    show Zr sc 48 12 [zp a0, zj x1, zj x2, zj x3] [] w ov w' c s
    refine Zr_st (q := (13, [zp a0, zj x1, zj x2, zj x3], [zp a0])) rfl rfl rfl ?_
    show Zr sc 48 13 [zp a0, zj x1, zj x2, zj x3] [zp a0] w ov w' c s
    refine rl_gf rfl L0 rfl rfl ?_
    show Zr sc 48 16 [zp a0, zj x1, zj x2, zj x3] [zp (a0 + 2)] w ov w' c s
    refine Zr_st (q := (17, [zp a0, zj x1, zj x2, zj x3], [zj x3, zp (a0 + 2)])) rfl rfl rfl ?_
    show Zr sc 48 17 [zp a0, zj x1, zj x2, zj x3] [zj x3, zp (a0 + 2)] w ov w' c s
    obtain ⟨hi_2, h⟩ := h
    refine rl_ia rfl L2 hi_2.1 hi_2.2.1 hi_2.2.2 ?_
    show Zr sc 48 18 [zp a0, zj x1, zj x2, zj x3] [zj (zgi oz x3)] w ov w' c s
    refine Zr_st (q := (19, [zp a0, zj x1, zj x2, zj x3], [zj x1, zj (zgi oz x3)])) rfl rfl rfl ?_
    show Zr sc 48 19 [zp a0, zj x1, zj x2, zj x3] [zj x1, zj (zgi oz x3)] w ov w' c s
    obtain ⟨hr_3, h⟩ := h
    refine Zr_br (p := (zgi oz x3) < x1) rfl rfl (zcmp_j (cnd := .lt) hr_3.1 hr_3.2) (fun hp => ?_) (fun hp => ?_)
    · replace h := h.1 hp
      show Zr sc 48 43 [zp a0, zj x1, zj x2, zj x3] [] w ov w' c s
      refine rl_inc rfl rfl rfl rfl ?_
      show Zr sc 48 46 [zp a0, zj x1, zj x2, zj (x3 + 1)] [] w ov w' c s
      refine Zr_st (q := (4, [zp a0, zj x1, zj x2, zj (x3 + 1)], [])) rfl rfl rfl ?_
      show Zr sc 48 4 [zp a0, zj x1, zj x2, zj (x3 + 1)] [] w ov w' c s
      exact h
    · replace h := h.2 hp
      show Zr sc 48 22 [zp a0, zj x1, zj x2, zj x3] [] w ov w' c s
      refine Zr_st (q := (23, [zp a0, zj x1, zj x2, zj x3], [zj x2])) rfl rfl rfl ?_
      show Zr sc 48 23 [zp a0, zj x1, zj x2, zj x3] [zj x2] w ov w' c s
      obtain ⟨hr_4, h⟩ := h
      refine Zr_b0 (p := x2 < 0) rfl rfl (zcmp_0 (cnd := .lt) hr_4) (fun hp => ?_) (fun hp => ?_)
      · replace h := h.1 hp
        show Zr sc 48 41 [zp a0, zj x1, zj x2, zj x3] [] w ov w' c s
        refine Zr_st (q := (42, [zp a0, zj x1, zj x2, zj x3], [zj x3])) rfl rfl rfl ?_
        show Zr sc 48 42 [zp a0, zj x1, zj x2, zj x3] [zj x3] w ov w' c s
        refine Zr_st (q := (43, [zp a0, zj x1, zj x3, zj x3], [])) rfl rfl rfl ?_
        show Zr sc 48 43 [zp a0, zj x1, zj x3, zj x3] [] w ov w' c s
        refine rl_inc rfl rfl rfl rfl ?_
        show Zr sc 48 46 [zp a0, zj x1, zj x3, zj (x3 + 1)] [] w ov w' c s
        refine Zr_st (q := (4, [zp a0, zj x1, zj x3, zj (x3 + 1)], [])) rfl rfl rfl ?_
        show Zr sc 48 4 [zp a0, zj x1, zj x3, zj (x3 + 1)] [] w ov w' c s
        exact h
      · replace h := h.2 hp
        show Zr sc 48 26 [zp a0, zj x1, zj x2, zj x3] [] w ov w' c s
        refine Zr_st (q := (27, [zp a0, zj x1, zj x2, zj x3], [zp a0])) rfl rfl rfl ?_
        show Zr sc 48 27 [zp a0, zj x1, zj x2, zj x3] [zp a0] w ov w' c s
        refine rl_gf rfl L0 rfl rfl ?_
        show Zr sc 48 30 [zp a0, zj x1, zj x2, zj x3] [zp (a0 + 2)] w ov w' c s
        refine Zr_st (q := (31, [zp a0, zj x1, zj x2, zj x3], [zj x3, zp (a0 + 2)])) rfl rfl rfl ?_
        show Zr sc 48 31 [zp a0, zj x1, zj x2, zj x3] [zj x3, zp (a0 + 2)] w ov w' c s
        obtain ⟨hi_5, h⟩ := h
        refine rl_ia rfl L2 hi_5.1 hi_5.2.1 hi_5.2.2 ?_
        show Zr sc 48 32 [zp a0, zj x1, zj x2, zj x3] [zj (zgi oz x3)] w ov w' c s
        refine Zr_st (q := (33, [zp a0, zj x1, zj x2, zj x3], [zp a0, zj (zgi oz x3)])) rfl rfl rfl ?_
        show Zr sc 48 33 [zp a0, zj x1, zj x2, zj x3] [zp a0, zj (zgi oz x3)] w ov w' c s
        refine rl_gf rfl L0 rfl rfl ?_
        show Zr sc 48 36 [zp a0, zj x1, zj x2, zj x3] [zp (a0 + 2), zj (zgi oz x3)] w ov w' c s
        refine Zr_st (q := (37, [zp a0, zj x1, zj x2, zj x3], [zj x2, zp (a0 + 2), zj (zgi oz x3)])) rfl rfl rfl ?_
        show Zr sc 48 37 [zp a0, zj x1, zj x2, zj x3] [zj x2, zp (a0 + 2), zj (zgi oz x3)] w ov w' c s
        obtain ⟨hi_6, h⟩ := h
        refine rl_ia rfl L2 hi_6.1 hi_6.2.1 hi_6.2.2 ?_
        show Zr sc 48 38 [zp a0, zj x1, zj x2, zj x3] [zj (zgi oz x2), zj (zgi oz x3)] w ov w' c s
        obtain ⟨hr_7, h⟩ := h
        refine Zr_br (p := (zgi oz x3) ≤ (zgi oz x2)) rfl rfl (zcmp_j (cnd := .le) hr_7.1 hr_7.2) (fun hp => ?_) (fun hp => ?_)
        · replace h := h.1 hp
          show Zr sc 48 43 [zp a0, zj x1, zj x2, zj x3] [] w ov w' c s
          refine rl_inc rfl rfl rfl rfl ?_
          show Zr sc 48 46 [zp a0, zj x1, zj x2, zj (x3 + 1)] [] w ov w' c s
          refine Zr_st (q := (4, [zp a0, zj x1, zj x2, zj (x3 + 1)], [])) rfl rfl rfl ?_
          show Zr sc 48 4 [zp a0, zj x1, zj x2, zj (x3 + 1)] [] w ov w' c s
          exact h
        · replace h := h.2 hp
          show Zr sc 48 41 [zp a0, zj x1, zj x2, zj x3] [] w ov w' c s
          refine Zr_st (q := (42, [zp a0, zj x1, zj x2, zj x3], [zj x3])) rfl rfl rfl ?_
          show Zr sc 48 42 [zp a0, zj x1, zj x2, zj x3] [zj x3] w ov w' c s
          refine Zr_st (q := (43, [zp a0, zj x1, zj x3, zj x3], [])) rfl rfl rfl ?_
          show Zr sc 48 43 [zp a0, zj x1, zj x3, zj x3] [] w ov w' c s
          refine rl_inc rfl rfl rfl rfl ?_
          show Zr sc 48 46 [zp a0, zj x1, zj x3, zj (x3 + 1)] [] w ov w' c s
          refine Zr_st (q := (4, [zp a0, zj x1, zj x3, zj (x3 + 1)], [])) rfl rfl rfl ?_
          show Zr sc 48 4 [zp a0, zj x1, zj x3, zj (x3 + 1)] [] w ov w' c s
          exact h

-- HeapwrightLab$Slabs.search(I)I
set_option maxRecDepth 100000 in
theorem V49_0 {sc : List Value} {w w' : List zE} {ov : Option Value} {c s : Nat} {a0 : Nat} {x1 : Int} {wy : Int} {st : Int} {hd : Int} {hn : Int} {sn : Int} {nm : Int} {ar : Int} {pk : Int} {dn : Int} (L0 : w[a0]? = some (zob 4 [zp (a0 + 1), zp (a0 + 6), zj wy, zj st, zj hd, zj hn, zj sn, zp (a0 + 9), zp (a0 + 10), zj nm, zj ar, zj pk, zj dn, zp (a0 + 11)])) (h : ((zrg x1 ∧ zrg 128) ∧ ((128 ≤ x1 → ((zrg (-1)) ∧ ((zrg x1 ∧ zrg 128) ∧ ((128 < x1 → ((zrg x1 ∧ zrg 128) ∧ (∃ fs_6 : List Value, w[(a0 + 6)]? = some (zob 3 fs_6) ∧ (∃ r_9 : Int, Zc sc 52 [zp (a0 + 6), zj (max x1 128)] (w.set a0 (zob 4 [zp (a0 + 1), zp (a0 + 6), zj wy, zj st, zj hd, zj hn, zj 0, zp (a0 + 9), zp (a0 + 10), zj nm, zj ar, zj pk, zj dn, zp (a0 + 11)])) (some (zj r_9)) (w.set a0 (zob 4 [zp (a0 + 1), zp (a0 + 6), zj wy, zj st, zj hd, zj hn, zj 0, zp (a0 + 9), zp (a0 + 10), zj nm, zj ar, zj pk, zj dn, zp (a0 + 11)])) 0 0 ∧ (ov = some (zj r_9) ∧ w' = (w.set a0 (zob 4 [zp (a0 + 1), zp (a0 + 6), zj wy, zj st, zj hd, zj hn, zj 0, zp (a0 + 9), zp (a0 + 10), zj nm, zj ar, zj pk, zj dn, zp (a0 + 11)])) ∧ c = 0 ∧ s = 0))))) ∧ (¬ (128 < x1) → (∃ r_12 : Int, Zc sc 51 [zp a0, zj x1, zj 1024] w (some (zj r_12)) w 0 0 ∧ ((zrg x1 ∧ zrg 128) ∧ (∃ fs_15 : List Value, w[(a0 + 6)]? = some (zob 3 fs_15) ∧ (∃ r_18 : Int, Zc sc 52 [zp (a0 + 6), zj (max x1 128)] (w.set a0 (zob 4 [zp (a0 + 1), zp (a0 + 6), zj wy, zj st, zj hd, zj hn, zj r_12, zp (a0 + 9), zp (a0 + 10), zj nm, zj ar, zj pk, zj dn, zp (a0 + 11)])) (some (zj r_18)) (w.set a0 (zob 4 [zp (a0 + 1), zp (a0 + 6), zj wy, zj st, zj hd, zj hn, zj r_12, zp (a0 + 9), zp (a0 + 10), zj nm, zj ar, zj pk, zj dn, zp (a0 + 11)])) 0 0 ∧ (ov = some (zj r_18) ∧ w' = (w.set a0 (zob 4 [zp (a0 + 1), zp (a0 + 6), zj wy, zj st, zj hd, zj hn, zj r_12, zp (a0 + 9), zp (a0 + 10), zj nm, zj ar, zj pk, zj dn, zp (a0 + 11)])) ∧ c = 0 ∧ s = 0)))))))))) ∧ (¬ (128 ≤ x1) → (∃ fs_20 : List Value, w[(a0 + 6)]? = some (zob 3 fs_20) ∧ (∃ r_23 : Int, Zc sc 50 [zp (a0 + 6), zj x1] w (some (zj r_23)) w 0 0 ∧ ((zrg r_23) ∧ ((r_23 < 0 → ((zrg x1 ∧ zrg 128) ∧ ((128 < x1 → ((zrg x1 ∧ zrg 128) ∧ (∃ r_29 : Int, Zc sc 52 [zp (a0 + 6), zj (max x1 128)] (w.set a0 (zob 4 [zp (a0 + 1), zp (a0 + 6), zj wy, zj st, zj hd, zj hn, zj 0, zp (a0 + 9), zp (a0 + 10), zj nm, zj ar, zj pk, zj dn, zp (a0 + 11)])) (some (zj r_29)) (w.set a0 (zob 4 [zp (a0 + 1), zp (a0 + 6), zj wy, zj st, zj hd, zj hn, zj 0, zp (a0 + 9), zp (a0 + 10), zj nm, zj ar, zj pk, zj dn, zp (a0 + 11)])) 0 0 ∧ (ov = some (zj r_29) ∧ w' = (w.set a0 (zob 4 [zp (a0 + 1), zp (a0 + 6), zj wy, zj st, zj hd, zj hn, zj 0, zp (a0 + 9), zp (a0 + 10), zj nm, zj ar, zj pk, zj dn, zp (a0 + 11)])) ∧ c = 0 ∧ s = 0)))) ∧ (¬ (128 < x1) → (∃ r_32 : Int, Zc sc 51 [zp a0, zj x1, zj 1024] w (some (zj r_32)) w 0 0 ∧ ((zrg x1 ∧ zrg 128) ∧ (∃ r_36 : Int, Zc sc 52 [zp (a0 + 6), zj (max x1 128)] (w.set a0 (zob 4 [zp (a0 + 1), zp (a0 + 6), zj wy, zj st, zj hd, zj hn, zj r_32, zp (a0 + 9), zp (a0 + 10), zj nm, zj ar, zj pk, zj dn, zp (a0 + 11)])) (some (zj r_36)) (w.set a0 (zob 4 [zp (a0 + 1), zp (a0 + 6), zj wy, zj st, zj hd, zj hn, zj r_32, zp (a0 + 9), zp (a0 + 10), zj nm, zj ar, zj pk, zj dn, zp (a0 + 11)])) 0 0 ∧ (ov = some (zj r_36) ∧ w' = (w.set a0 (zob 4 [zp (a0 + 1), zp (a0 + 6), zj wy, zj st, zj hd, zj hn, zj r_32, zp (a0 + 9), zp (a0 + 10), zj nm, zj ar, zj pk, zj dn, zp (a0 + 11)])) ∧ c = 0 ∧ s = 0)))))))) ∧ (¬ (r_23 < 0) → (∃ r_39 : Int, Zc sc 24 [zp (a0 + 6), zj r_23] w (some (zj r_39)) w 0 0 ∧ (∃ r_42 : Int, Zc sc 51 [zp a0, zj x1, zj r_39] w (some (zj r_42)) w 0 0 ∧ (ov = some (zj r_23) ∧ w' = (w.set a0 (zob 4 [zp (a0 + 1), zp (a0 + 6), zj wy, zj st, zj hd, zj hn, zj r_42, zp (a0 + 9), zp (a0 + 10), zj nm, zj ar, zj pk, zj dn, zp (a0 + 11)])) ∧ c = 0 ∧ s = 0)))))))))))) : Zr sc 49 0 [zp a0, zj x1, zmk] [] w ov w' c s := by
  refine Zr_st (q := (1, [zp a0, zj x1, zmk], [zj x1])) rfl rfl rfl ?_
  show Zr sc 49 1 [zp a0, zj x1, zmk] [zj x1] w ov w' c s
  refine rl_si rfl (by decide) ?_
  show Zr sc 49 4 [zp a0, zj x1, zmk] [zj 128, zj x1] w ov w' c s
  obtain ⟨hr_1, h⟩ := h
  refine Zr_br (p := 128 ≤ x1) rfl rfl (zcmp_j (cnd := .ge) hr_1.1 hr_1.2) (fun hp => ?_) (fun hp => ?_)
  · replace h := h.1 hp
    show Zr sc 49 18 [zp a0, zj x1, zmk] [] w ov w' c s
    refine rl_ic rfl ?_
    show Zr sc 49 19 [zp a0, zj x1, zmk] [zj (-1)] w ov w' c s
    refine Zr_st (q := (20, [zp a0, zj x1, zj (-1)], [])) rfl rfl rfl ?_
    show Zr sc 49 20 [zp a0, zj x1, zj (-1)] [] w ov w' c s
    refine Zr_st (q := (21, [zp a0, zj x1, zj (-1)], [zj (-1)])) rfl rfl rfl ?_
    show Zr sc 49 21 [zp a0, zj x1, zj (-1)] [zj (-1)] w ov w' c s
    obtain ⟨hr_2, h⟩ := h
    refine Zr_b0 (p := (-1) < 0) rfl rfl (zcmp_0 (cnd := .lt) hr_2) (fun hp => ?_) (fun hp => absurd (by decide) hp)
    show Zr sc 49 43 [zp a0, zj x1, zj (-1)] [] w ov w' c s
    refine Zr_st (q := (44, [zp a0, zj x1, zj (-1)], [zp a0])) rfl rfl rfl ?_
    show Zr sc 49 44 [zp a0, zj x1, zj (-1)] [zp a0] w ov w' c s
    refine Zr_st (q := (45, [zp a0, zj x1, zj (-1)], [zj x1, zp a0])) rfl rfl rfl ?_
    show Zr sc 49 45 [zp a0, zj x1, zj (-1)] [zj x1, zp a0] w ov w' c s
    refine rl_si rfl (by decide) ?_
    show Zr sc 49 48 [zp a0, zj x1, zj (-1)] [zj 128, zj x1, zp a0] w ov w' c s
    obtain ⟨hr_3, h⟩ := h
    refine Zr_br (p := 128 < x1) rfl rfl (zcmp_j (cnd := .gt) hr_3.1 hr_3.2) (fun hp => ?_) (fun hp => ?_)
    · replace h := h.1 hp
      show Zr sc 49 62 [zp a0, zj x1, zj (-1)] [zp a0] w ov w' c s
      refine rl_ic rfl ?_
      show Zr sc 49 63 [zp a0, zj x1, zj (-1)] [zj 0, zp a0] w ov w' c s
      refine rl_pf rfl L0 rfl rfl rfl ?_
      show Zr sc 49 66 [zp a0, zj x1, zj (-1)] [] (w.set a0 (zob 4 [zp (a0 + 1), zp (a0 + 6), zj wy, zj st, zj hd, zj hn, zj 0, zp (a0 + 9), zp (a0 + 10), zj nm, zj ar, zj pk, zj dn, zp (a0 + 11)])) ov w' c s
      refine Zr_st (q := (67, [zp a0, zj x1, zj (-1)], [zp a0])) rfl rfl rfl ?_
      show Zr sc 49 67 [zp a0, zj x1, zj (-1)] [zp a0] (w.set a0 (zob 4 [zp (a0 + 1), zp (a0 + 6), zj wy, zj st, zj hd, zj hn, zj 0, zp (a0 + 9), zp (a0 + 10), zj nm, zj ar, zj pk, zj dn, zp (a0 + 11)])) ov w' c s
      refine rl_gf rfl (zw_s L0) rfl rfl ?_
      show Zr sc 49 70 [zp a0, zj x1, zj (-1)] [zp (a0 + 6)] (w.set a0 (zob 4 [zp (a0 + 1), zp (a0 + 6), zj wy, zj st, zj hd, zj hn, zj 0, zp (a0 + 9), zp (a0 + 10), zj nm, zj ar, zj pk, zj dn, zp (a0 + 11)])) ov w' c s
      refine Zr_st (q := (71, [zp a0, zj x1, zj (-1)], [zj x1, zp (a0 + 6)])) rfl rfl rfl ?_
      show Zr sc 49 71 [zp a0, zj x1, zj (-1)] [zj x1, zp (a0 + 6)] (w.set a0 (zob 4 [zp (a0 + 1), zp (a0 + 6), zj wy, zj st, zj hd, zj hn, zj 0, zp (a0 + 9), zp (a0 + 10), zj nm, zj ar, zj pk, zj dn, zp (a0 + 11)])) ov w' c s
      refine rl_si rfl (by decide) ?_
      show Zr sc 49 74 [zp a0, zj x1, zj (-1)] [zj 128, zj x1, zp (a0 + 6)] (w.set a0 (zob 4 [zp (a0 + 1), zp (a0 + 6), zj wy, zj st, zj hd, zj hn, zj 0, zp (a0 + 9), zp (a0 + 10), zj nm, zj ar, zj pk, zj dn, zp (a0 + 11)])) ov w' c s
      obtain ⟨hm_4, h⟩ := h
      refine Zr_mx (b := true) (ins := .invokestatic 42) (rest := [zp (a0 + 6)]) rfl rfl rfl rfl (zinv_t2 (rest := [zp (a0 + 6)]) rfl rfl rfl rfl rfl) rfl (zmx_j hm_4.1 hm_4.2) ?_
      show Zr sc 49 77 [zp a0, zj x1, zj (-1)] [zj (max x1 128), zp (a0 + 6)] (w.set a0 (zob 4 [zp (a0 + 1), zp (a0 + 6), zj wy, zj st, zj hd, zj hn, zj 0, zp (a0 + 9), zp (a0 + 10), zj nm, zj ar, zj pk, zj dn, zp (a0 + 11)])) ov w' c s
      obtain ⟨fs_6, hl_5, h⟩ := h
      obtain ⟨r_9, hk_9, h⟩ := h
      refine rn_cal0 (ins := .invokevirtual 47) (rest := []) rfl rfl rfl rfl (zinv_v (fs := _) (zw_o (by omega) hl_5) rfl rfl rfl rfl) rfl rfl hk_9 ?_
      show Zr sc 49 80 [zp a0, zj x1, zj (-1)] [zj r_9] (w.set a0 (zob 4 [zp (a0 + 1), zp (a0 + 6), zj wy, zj st, zj hd, zj hn, zj 0, zp (a0 + 9), zp (a0 + 10), zj nm, zj ar, zj pk, zj dn, zp (a0 + 11)])) ov w' c s
      obtain ⟨h1, h2, h3, h4⟩ := h
      subst h1; subst h2; subst h3; subst h4
      exact Zr_ret (ins := .ireturn) rfl rfl
    · replace h := h.2 hp
      show Zr sc 49 51 [zp a0, zj x1, zj (-1)] [zp a0] w ov w' c s
      refine Zr_st (q := (52, [zp a0, zj x1, zj (-1)], [zp a0, zp a0])) rfl rfl rfl ?_
      show Zr sc 49 52 [zp a0, zj x1, zj (-1)] [zp a0, zp a0] w ov w' c s
      refine Zr_st (q := (53, [zp a0, zj x1, zj (-1)], [zj x1, zp a0, zp a0])) rfl rfl rfl ?_
      show Zr sc 49 53 [zp a0, zj x1, zj (-1)] [zj x1, zp a0, zp a0] w ov w' c s
      refine rl_si rfl (by decide) ?_
      show Zr sc 49 56 [zp a0, zj x1, zj (-1)] [zj 1024, zj x1, zp a0, zp a0] w ov w' c s
      obtain ⟨r_12, hk_9, h⟩ := h
      refine rn_cal0 (ins := .invokevirtual 36) (rest := [zp a0]) rfl rfl rfl rfl (zinv_v (fs := _) L0 rfl rfl rfl rfl) rfl rfl hk_9 ?_
      show Zr sc 49 59 [zp a0, zj x1, zj (-1)] [zj r_12, zp a0] w ov w' c s
      refine Zr_st (q := (63, [zp a0, zj x1, zj (-1)], [zj r_12, zp a0])) rfl rfl rfl ?_
      show Zr sc 49 63 [zp a0, zj x1, zj (-1)] [zj r_12, zp a0] w ov w' c s
      refine rl_pf rfl L0 rfl rfl rfl ?_
      show Zr sc 49 66 [zp a0, zj x1, zj (-1)] [] (w.set a0 (zob 4 [zp (a0 + 1), zp (a0 + 6), zj wy, zj st, zj hd, zj hn, zj r_12, zp (a0 + 9), zp (a0 + 10), zj nm, zj ar, zj pk, zj dn, zp (a0 + 11)])) ov w' c s
      refine Zr_st (q := (67, [zp a0, zj x1, zj (-1)], [zp a0])) rfl rfl rfl ?_
      show Zr sc 49 67 [zp a0, zj x1, zj (-1)] [zp a0] (w.set a0 (zob 4 [zp (a0 + 1), zp (a0 + 6), zj wy, zj st, zj hd, zj hn, zj r_12, zp (a0 + 9), zp (a0 + 10), zj nm, zj ar, zj pk, zj dn, zp (a0 + 11)])) ov w' c s
      refine rl_gf rfl (zw_s L0) rfl rfl ?_
      show Zr sc 49 70 [zp a0, zj x1, zj (-1)] [zp (a0 + 6)] (w.set a0 (zob 4 [zp (a0 + 1), zp (a0 + 6), zj wy, zj st, zj hd, zj hn, zj r_12, zp (a0 + 9), zp (a0 + 10), zj nm, zj ar, zj pk, zj dn, zp (a0 + 11)])) ov w' c s
      refine Zr_st (q := (71, [zp a0, zj x1, zj (-1)], [zj x1, zp (a0 + 6)])) rfl rfl rfl ?_
      show Zr sc 49 71 [zp a0, zj x1, zj (-1)] [zj x1, zp (a0 + 6)] (w.set a0 (zob 4 [zp (a0 + 1), zp (a0 + 6), zj wy, zj st, zj hd, zj hn, zj r_12, zp (a0 + 9), zp (a0 + 10), zj nm, zj ar, zj pk, zj dn, zp (a0 + 11)])) ov w' c s
      refine rl_si rfl (by decide) ?_
      show Zr sc 49 74 [zp a0, zj x1, zj (-1)] [zj 128, zj x1, zp (a0 + 6)] (w.set a0 (zob 4 [zp (a0 + 1), zp (a0 + 6), zj wy, zj st, zj hd, zj hn, zj r_12, zp (a0 + 9), zp (a0 + 10), zj nm, zj ar, zj pk, zj dn, zp (a0 + 11)])) ov w' c s
      obtain ⟨hm_13, h⟩ := h
      refine Zr_mx (b := true) (ins := .invokestatic 42) (rest := [zp (a0 + 6)]) rfl rfl rfl rfl (zinv_t2 (rest := [zp (a0 + 6)]) rfl rfl rfl rfl rfl) rfl (zmx_j hm_13.1 hm_13.2) ?_
      show Zr sc 49 77 [zp a0, zj x1, zj (-1)] [zj (max x1 128), zp (a0 + 6)] (w.set a0 (zob 4 [zp (a0 + 1), zp (a0 + 6), zj wy, zj st, zj hd, zj hn, zj r_12, zp (a0 + 9), zp (a0 + 10), zj nm, zj ar, zj pk, zj dn, zp (a0 + 11)])) ov w' c s
      obtain ⟨fs_15, hl_14, h⟩ := h
      obtain ⟨r_18, hk_9, h⟩ := h
      refine rn_cal0 (ins := .invokevirtual 47) (rest := []) rfl rfl rfl rfl (zinv_v (fs := _) (zw_o (by omega) hl_14) rfl rfl rfl rfl) rfl rfl hk_9 ?_
      show Zr sc 49 80 [zp a0, zj x1, zj (-1)] [zj r_18] (w.set a0 (zob 4 [zp (a0 + 1), zp (a0 + 6), zj wy, zj st, zj hd, zj hn, zj r_12, zp (a0 + 9), zp (a0 + 10), zj nm, zj ar, zj pk, zj dn, zp (a0 + 11)])) ov w' c s
      obtain ⟨h1, h2, h3, h4⟩ := h
      subst h1; subst h2; subst h3; subst h4
      exact Zr_ret (ins := .ireturn) rfl rfl
  · replace h := h.2 hp
    show Zr sc 49 7 [zp a0, zj x1, zmk] [] w ov w' c s
    refine Zr_st (q := (8, [zp a0, zj x1, zmk], [zp a0])) rfl rfl rfl ?_
    show Zr sc 49 8 [zp a0, zj x1, zmk] [zp a0] w ov w' c s
    refine rl_gf rfl L0 rfl rfl ?_
    show Zr sc 49 11 [zp a0, zj x1, zmk] [zp (a0 + 6)] w ov w' c s
    refine Zr_st (q := (12, [zp a0, zj x1, zmk], [zj x1, zp (a0 + 6)])) rfl rfl rfl ?_
    show Zr sc 49 12 [zp a0, zj x1, zmk] [zj x1, zp (a0 + 6)] w ov w' c s
    obtain ⟨fs_20, hl_19, h⟩ := h
    obtain ⟨r_23, hk_9, h⟩ := h
    refine rn_cal0 (ins := .invokevirtual 27) (rest := []) rfl rfl rfl rfl (zinv_v (fs := _) hl_19 rfl rfl rfl rfl) rfl rfl hk_9 ?_
    show Zr sc 49 15 [zp a0, zj x1, zmk] [zj r_23] w ov w' c s
    refine Zr_st (q := (19, [zp a0, zj x1, zmk], [zj r_23])) rfl rfl rfl ?_
    show Zr sc 49 19 [zp a0, zj x1, zmk] [zj r_23] w ov w' c s
    refine Zr_st (q := (20, [zp a0, zj x1, zj r_23], [])) rfl rfl rfl ?_
    show Zr sc 49 20 [zp a0, zj x1, zj r_23] [] w ov w' c s
    refine Zr_st (q := (21, [zp a0, zj x1, zj r_23], [zj r_23])) rfl rfl rfl ?_
    show Zr sc 49 21 [zp a0, zj x1, zj r_23] [zj r_23] w ov w' c s
    obtain ⟨hr_24, h⟩ := h
    refine Zr_b0 (p := r_23 < 0) rfl rfl (zcmp_0 (cnd := .lt) hr_24) (fun hp => ?_) (fun hp => ?_)
    · replace h := h.1 hp
      show Zr sc 49 43 [zp a0, zj x1, zj r_23] [] w ov w' c s
      refine Zr_st (q := (44, [zp a0, zj x1, zj r_23], [zp a0])) rfl rfl rfl ?_
      show Zr sc 49 44 [zp a0, zj x1, zj r_23] [zp a0] w ov w' c s
      refine Zr_st (q := (45, [zp a0, zj x1, zj r_23], [zj x1, zp a0])) rfl rfl rfl ?_
      show Zr sc 49 45 [zp a0, zj x1, zj r_23] [zj x1, zp a0] w ov w' c s
      refine rl_si rfl (by decide) ?_
      show Zr sc 49 48 [zp a0, zj x1, zj r_23] [zj 128, zj x1, zp a0] w ov w' c s
      obtain ⟨hr_25, h⟩ := h
      refine Zr_br (p := 128 < x1) rfl rfl (zcmp_j (cnd := .gt) hr_25.1 hr_25.2) (fun hp => ?_) (fun hp => ?_)
      · replace h := h.1 hp
        show Zr sc 49 62 [zp a0, zj x1, zj r_23] [zp a0] w ov w' c s
        refine rl_ic rfl ?_
        show Zr sc 49 63 [zp a0, zj x1, zj r_23] [zj 0, zp a0] w ov w' c s
        refine rl_pf rfl L0 rfl rfl rfl ?_
        show Zr sc 49 66 [zp a0, zj x1, zj r_23] [] (w.set a0 (zob 4 [zp (a0 + 1), zp (a0 + 6), zj wy, zj st, zj hd, zj hn, zj 0, zp (a0 + 9), zp (a0 + 10), zj nm, zj ar, zj pk, zj dn, zp (a0 + 11)])) ov w' c s
        refine Zr_st (q := (67, [zp a0, zj x1, zj r_23], [zp a0])) rfl rfl rfl ?_
        show Zr sc 49 67 [zp a0, zj x1, zj r_23] [zp a0] (w.set a0 (zob 4 [zp (a0 + 1), zp (a0 + 6), zj wy, zj st, zj hd, zj hn, zj 0, zp (a0 + 9), zp (a0 + 10), zj nm, zj ar, zj pk, zj dn, zp (a0 + 11)])) ov w' c s
        refine rl_gf rfl (zw_s L0) rfl rfl ?_
        show Zr sc 49 70 [zp a0, zj x1, zj r_23] [zp (a0 + 6)] (w.set a0 (zob 4 [zp (a0 + 1), zp (a0 + 6), zj wy, zj st, zj hd, zj hn, zj 0, zp (a0 + 9), zp (a0 + 10), zj nm, zj ar, zj pk, zj dn, zp (a0 + 11)])) ov w' c s
        refine Zr_st (q := (71, [zp a0, zj x1, zj r_23], [zj x1, zp (a0 + 6)])) rfl rfl rfl ?_
        show Zr sc 49 71 [zp a0, zj x1, zj r_23] [zj x1, zp (a0 + 6)] (w.set a0 (zob 4 [zp (a0 + 1), zp (a0 + 6), zj wy, zj st, zj hd, zj hn, zj 0, zp (a0 + 9), zp (a0 + 10), zj nm, zj ar, zj pk, zj dn, zp (a0 + 11)])) ov w' c s
        refine rl_si rfl (by decide) ?_
        show Zr sc 49 74 [zp a0, zj x1, zj r_23] [zj 128, zj x1, zp (a0 + 6)] (w.set a0 (zob 4 [zp (a0 + 1), zp (a0 + 6), zj wy, zj st, zj hd, zj hn, zj 0, zp (a0 + 9), zp (a0 + 10), zj nm, zj ar, zj pk, zj dn, zp (a0 + 11)])) ov w' c s
        obtain ⟨hm_26, h⟩ := h
        refine Zr_mx (b := true) (ins := .invokestatic 42) (rest := [zp (a0 + 6)]) rfl rfl rfl rfl (zinv_t2 (rest := [zp (a0 + 6)]) rfl rfl rfl rfl rfl) rfl (zmx_j hm_26.1 hm_26.2) ?_
        show Zr sc 49 77 [zp a0, zj x1, zj r_23] [zj (max x1 128), zp (a0 + 6)] (w.set a0 (zob 4 [zp (a0 + 1), zp (a0 + 6), zj wy, zj st, zj hd, zj hn, zj 0, zp (a0 + 9), zp (a0 + 10), zj nm, zj ar, zj pk, zj dn, zp (a0 + 11)])) ov w' c s
        obtain ⟨r_29, hk_9, h⟩ := h
        refine rn_cal0 (ins := .invokevirtual 47) (rest := []) rfl rfl rfl rfl (zinv_v (fs := _) (zw_o (by omega) hl_19) rfl rfl rfl rfl) rfl rfl hk_9 ?_
        show Zr sc 49 80 [zp a0, zj x1, zj r_23] [zj r_29] (w.set a0 (zob 4 [zp (a0 + 1), zp (a0 + 6), zj wy, zj st, zj hd, zj hn, zj 0, zp (a0 + 9), zp (a0 + 10), zj nm, zj ar, zj pk, zj dn, zp (a0 + 11)])) ov w' c s
        obtain ⟨h1, h2, h3, h4⟩ := h
        subst h1; subst h2; subst h3; subst h4
        exact Zr_ret (ins := .ireturn) rfl rfl
      · replace h := h.2 hp
        show Zr sc 49 51 [zp a0, zj x1, zj r_23] [zp a0] w ov w' c s
        refine Zr_st (q := (52, [zp a0, zj x1, zj r_23], [zp a0, zp a0])) rfl rfl rfl ?_
        show Zr sc 49 52 [zp a0, zj x1, zj r_23] [zp a0, zp a0] w ov w' c s
        refine Zr_st (q := (53, [zp a0, zj x1, zj r_23], [zj x1, zp a0, zp a0])) rfl rfl rfl ?_
        show Zr sc 49 53 [zp a0, zj x1, zj r_23] [zj x1, zp a0, zp a0] w ov w' c s
        refine rl_si rfl (by decide) ?_
        show Zr sc 49 56 [zp a0, zj x1, zj r_23] [zj 1024, zj x1, zp a0, zp a0] w ov w' c s
        obtain ⟨r_32, hk_9, h⟩ := h
        refine rn_cal0 (ins := .invokevirtual 36) (rest := [zp a0]) rfl rfl rfl rfl (zinv_v (fs := _) L0 rfl rfl rfl rfl) rfl rfl hk_9 ?_
        show Zr sc 49 59 [zp a0, zj x1, zj r_23] [zj r_32, zp a0] w ov w' c s
        refine Zr_st (q := (63, [zp a0, zj x1, zj r_23], [zj r_32, zp a0])) rfl rfl rfl ?_
        show Zr sc 49 63 [zp a0, zj x1, zj r_23] [zj r_32, zp a0] w ov w' c s
        refine rl_pf rfl L0 rfl rfl rfl ?_
        show Zr sc 49 66 [zp a0, zj x1, zj r_23] [] (w.set a0 (zob 4 [zp (a0 + 1), zp (a0 + 6), zj wy, zj st, zj hd, zj hn, zj r_32, zp (a0 + 9), zp (a0 + 10), zj nm, zj ar, zj pk, zj dn, zp (a0 + 11)])) ov w' c s
        refine Zr_st (q := (67, [zp a0, zj x1, zj r_23], [zp a0])) rfl rfl rfl ?_
        show Zr sc 49 67 [zp a0, zj x1, zj r_23] [zp a0] (w.set a0 (zob 4 [zp (a0 + 1), zp (a0 + 6), zj wy, zj st, zj hd, zj hn, zj r_32, zp (a0 + 9), zp (a0 + 10), zj nm, zj ar, zj pk, zj dn, zp (a0 + 11)])) ov w' c s
        refine rl_gf rfl (zw_s L0) rfl rfl ?_
        show Zr sc 49 70 [zp a0, zj x1, zj r_23] [zp (a0 + 6)] (w.set a0 (zob 4 [zp (a0 + 1), zp (a0 + 6), zj wy, zj st, zj hd, zj hn, zj r_32, zp (a0 + 9), zp (a0 + 10), zj nm, zj ar, zj pk, zj dn, zp (a0 + 11)])) ov w' c s
        refine Zr_st (q := (71, [zp a0, zj x1, zj r_23], [zj x1, zp (a0 + 6)])) rfl rfl rfl ?_
        show Zr sc 49 71 [zp a0, zj x1, zj r_23] [zj x1, zp (a0 + 6)] (w.set a0 (zob 4 [zp (a0 + 1), zp (a0 + 6), zj wy, zj st, zj hd, zj hn, zj r_32, zp (a0 + 9), zp (a0 + 10), zj nm, zj ar, zj pk, zj dn, zp (a0 + 11)])) ov w' c s
        refine rl_si rfl (by decide) ?_
        show Zr sc 49 74 [zp a0, zj x1, zj r_23] [zj 128, zj x1, zp (a0 + 6)] (w.set a0 (zob 4 [zp (a0 + 1), zp (a0 + 6), zj wy, zj st, zj hd, zj hn, zj r_32, zp (a0 + 9), zp (a0 + 10), zj nm, zj ar, zj pk, zj dn, zp (a0 + 11)])) ov w' c s
        obtain ⟨hm_33, h⟩ := h
        refine Zr_mx (b := true) (ins := .invokestatic 42) (rest := [zp (a0 + 6)]) rfl rfl rfl rfl (zinv_t2 (rest := [zp (a0 + 6)]) rfl rfl rfl rfl rfl) rfl (zmx_j hm_33.1 hm_33.2) ?_
        show Zr sc 49 77 [zp a0, zj x1, zj r_23] [zj (max x1 128), zp (a0 + 6)] (w.set a0 (zob 4 [zp (a0 + 1), zp (a0 + 6), zj wy, zj st, zj hd, zj hn, zj r_32, zp (a0 + 9), zp (a0 + 10), zj nm, zj ar, zj pk, zj dn, zp (a0 + 11)])) ov w' c s
        obtain ⟨r_36, hk_9, h⟩ := h
        refine rn_cal0 (ins := .invokevirtual 47) (rest := []) rfl rfl rfl rfl (zinv_v (fs := _) (zw_o (by omega) hl_19) rfl rfl rfl rfl) rfl rfl hk_9 ?_
        show Zr sc 49 80 [zp a0, zj x1, zj r_23] [zj r_36] (w.set a0 (zob 4 [zp (a0 + 1), zp (a0 + 6), zj wy, zj st, zj hd, zj hn, zj r_32, zp (a0 + 9), zp (a0 + 10), zj nm, zj ar, zj pk, zj dn, zp (a0 + 11)])) ov w' c s
        obtain ⟨h1, h2, h3, h4⟩ := h
        subst h1; subst h2; subst h3; subst h4
        exact Zr_ret (ins := .ireturn) rfl rfl
    · replace h := h.2 hp
      show Zr sc 49 24 [zp a0, zj x1, zj r_23] [] w ov w' c s
      refine Zr_st (q := (25, [zp a0, zj x1, zj r_23], [zp a0])) rfl rfl rfl ?_
      show Zr sc 49 25 [zp a0, zj x1, zj r_23] [zp a0] w ov w' c s
      refine Zr_st (q := (26, [zp a0, zj x1, zj r_23], [zp a0, zp a0])) rfl rfl rfl ?_
      show Zr sc 49 26 [zp a0, zj x1, zj r_23] [zp a0, zp a0] w ov w' c s
      refine Zr_st (q := (27, [zp a0, zj x1, zj r_23], [zj x1, zp a0, zp a0])) rfl rfl rfl ?_
      show Zr sc 49 27 [zp a0, zj x1, zj r_23] [zj x1, zp a0, zp a0] w ov w' c s
      refine Zr_st (q := (28, [zp a0, zj x1, zj r_23], [zp a0, zj x1, zp a0, zp a0])) rfl rfl rfl ?_
      show Zr sc 49 28 [zp a0, zj x1, zj r_23] [zp a0, zj x1, zp a0, zp a0] w ov w' c s
      refine rl_gf rfl L0 rfl rfl ?_
      show Zr sc 49 31 [zp a0, zj x1, zj r_23] [zp (a0 + 6), zj x1, zp a0, zp a0] w ov w' c s
      refine Zr_st (q := (32, [zp a0, zj x1, zj r_23], [zj r_23, zp (a0 + 6), zj x1, zp a0, zp a0])) rfl rfl rfl ?_
      show Zr sc 49 32 [zp a0, zj x1, zj r_23] [zj r_23, zp (a0 + 6), zj x1, zp a0, zp a0] w ov w' c s
      obtain ⟨r_39, hk_9, h⟩ := h
      refine rn_cal0 (ins := .invokevirtual 33) (rest := [zj x1, zp a0, zp a0]) rfl rfl rfl rfl (zinv_v (fs := _) hl_19 rfl rfl rfl rfl) rfl rfl hk_9 ?_
      show Zr sc 49 35 [zp a0, zj x1, zj r_23] [zj r_39, zj x1, zp a0, zp a0] w ov w' c s
      obtain ⟨r_42, hk_9, h⟩ := h
      refine rn_cal0 (ins := .invokevirtual 36) (rest := [zp a0]) rfl rfl rfl rfl (zinv_v (fs := _) L0 rfl rfl rfl rfl) rfl rfl hk_9 ?_
      show Zr sc 49 38 [zp a0, zj x1, zj r_23] [zj r_42, zp a0] w ov w' c s
      refine rl_pf rfl L0 rfl rfl rfl ?_
      show Zr sc 49 41 [zp a0, zj x1, zj r_23] [] (w.set a0 (zob 4 [zp (a0 + 1), zp (a0 + 6), zj wy, zj st, zj hd, zj hn, zj r_42, zp (a0 + 9), zp (a0 + 10), zj nm, zj ar, zj pk, zj dn, zp (a0 + 11)])) ov w' c s
      refine Zr_st (q := (42, [zp a0, zj x1, zj r_23], [zj r_23])) rfl rfl rfl ?_
      show Zr sc 49 42 [zp a0, zj x1, zj r_23] [zj r_23] (w.set a0 (zob 4 [zp (a0 + 1), zp (a0 + 6), zj wy, zj st, zj hd, zj hn, zj r_42, zp (a0 + 9), zp (a0 + 10), zj nm, zj ar, zj pk, zj dn, zp (a0 + 11)])) ov w' c s
      obtain ⟨h1, h2, h3, h4⟩ := h
      subst h1; subst h2; subst h3; subst h4
      exact Zr_ret (ins := .ireturn) rfl rfl

-- HeapwrightLab$Holes.firstOfSize(I)I
set_option maxRecDepth 100000 in
theorem V50_0 {sc : List Value} {w w' : List zE} {ov : Option Value} {c s : Nat} {a0 : Nat} {x1 : Int} (h : Zr sc 50 2 [zp a0, zj x1, zj 0] [] w ov w' c s) : Zr sc 50 0 [zp a0, zj x1, zmk] [] w ov w' c s := by
  refine rl_ic rfl ?_
  show Zr sc 50 1 [zp a0, zj x1, zmk] [zj 0] w ov w' c s
  refine Zr_st (q := (2, [zp a0, zj x1, zj 0], [])) rfl rfl rfl ?_
  show Zr sc 50 2 [zp a0, zj x1, zj 0] [] w ov w' c s
  exact h
set_option maxRecDepth 100000 in
theorem V50_2 {sc : List Value} {w w' : List zE} {ov : Option Value} {c s : Nat} {a0 : Nat} {x1 : Int} {x2 : Int} {ct : Int} {oz : List Int} (L0 : w[a0]? = some (zob 3 [zp (a0 + 1), zp (a0 + 2), zj ct])) (L2 : w[(a0 + 2)]? = some (za oz)) (h : ((zrg x2 ∧ zrg ct) ∧ ((ct ≤ x2 → (ov = some (zj (-1)) ∧ w' = w ∧ c = 0 ∧ s = 0)) ∧ (¬ (ct ≤ x2) → (((0 : Int) ≤ x2 ∧ x2 < (oz.length : Int) ∧ x2 ≤ (2147483647 : Int)) ∧ ((zrg (zgi oz x2) ∧ zrg x1) ∧ (((zgi oz x2) ≠ x1 → Zr sc 50 2 [zp a0, zj x1, zj (x2 + 1)] [] w ov w' c s) ∧ (¬ ((zgi oz x2) ≠ x1) → (ov = some (zj x2) ∧ w' = w ∧ c = 0 ∧ s = 0))))))))) : Zr sc 50 2 [zp a0, zj x1, zj x2] [] w ov w' c s := by
  refine Zr_st (q := (3, [zp a0, zj x1, zj x2], [zj x2])) rfl rfl rfl ?_
  show Zr sc 50 3 [zp a0, zj x1, zj x2] [zj x2] w ov w' c s
  refine Zr_st (q := (4, [zp a0, zj x1, zj x2], [zp a0, zj x2])) rfl rfl rfl ?_
  show Zr sc 50 4 [zp a0, zj x1, zj x2] [zp a0, zj x2] w ov w' c s
  refine rl_gf rfl L0 rfl rfl ?_
  show Zr sc 50 7 [zp a0, zj x1, zj x2] [zj ct, zj x2] w ov w' c s
  obtain ⟨hr_1, h⟩ := h
  refine Zr_br (p := ct ≤ x2) rfl rfl (zcmp_j (cnd := .ge) hr_1.1 hr_1.2) (fun hp => ?_) (fun hp => ?_)
  · replace h := h.1 hp
    show Zr sc 50 28 [zp a0, zj x1, zj x2] [] w ov w' c s
    refine rl_ic rfl ?_
    show Zr sc 50 29 [zp a0, zj x1, zj x2] [zj (-1)] w ov w' c s
    obtain ⟨h1, h2, h3, h4⟩ := h
    subst h1; subst h2; subst h3; subst h4
    exact Zr_ret (ins := .ireturn) rfl rfl
  · replace h := h.2 hp
    show Zr sc 50 10 [zp a0, zj x1, zj x2] [] w ov w' c s
    refine Zr_st (q := (11, [zp a0, zj x1, zj x2], [zp a0])) rfl rfl rfl ?_
    show Zr sc 50 11 [zp a0, zj x1, zj x2] [zp a0] w ov w' c s
    refine rl_gf rfl L0 rfl rfl ?_
    show Zr sc 50 14 [zp a0, zj x1, zj x2] [zp (a0 + 2)] w ov w' c s
    refine Zr_st (q := (15, [zp a0, zj x1, zj x2], [zj x2, zp (a0 + 2)])) rfl rfl rfl ?_
    show Zr sc 50 15 [zp a0, zj x1, zj x2] [zj x2, zp (a0 + 2)] w ov w' c s
    obtain ⟨hi_2, h⟩ := h
    refine rl_ia rfl L2 hi_2.1 hi_2.2.1 hi_2.2.2 ?_
    show Zr sc 50 16 [zp a0, zj x1, zj x2] [zj (zgi oz x2)] w ov w' c s
    refine Zr_st (q := (17, [zp a0, zj x1, zj x2], [zj x1, zj (zgi oz x2)])) rfl rfl rfl ?_
    show Zr sc 50 17 [zp a0, zj x1, zj x2] [zj x1, zj (zgi oz x2)] w ov w' c s
    obtain ⟨hr_3, h⟩ := h
    refine Zr_br (p := (zgi oz x2) ≠ x1) rfl rfl (zcmp_j (cnd := .ne) hr_3.1 hr_3.2) (fun hp => ?_) (fun hp => ?_)
    · replace h := h.1 hp
      show Zr sc 50 22 [zp a0, zj x1, zj x2] [] w ov w' c s
      refine rl_inc rfl rfl rfl rfl ?_
      show Zr sc 50 25 [zp a0, zj x1, zj (x2 + 1)] [] w ov w' c s
      refine Zr_st (q := (2, [zp a0, zj x1, zj (x2 + 1)], [])) rfl rfl rfl ?_
      show Zr sc 50 2 [zp a0, zj x1, zj (x2 + 1)] [] w ov w' c s
      exact h
    · replace h := h.2 hp
      show Zr sc 50 20 [zp a0, zj x1, zj x2] [] w ov w' c s
      refine Zr_st (q := (21, [zp a0, zj x1, zj x2], [zj x2])) rfl rfl rfl ?_
      show Zr sc 50 21 [zp a0, zj x1, zj x2] [zj x2] w ov w' c s
      obtain ⟨h1, h2, h3, h4⟩ := h
      subst h1; subst h2; subst h3; subst h4
      exact Zr_ret (ins := .ireturn) rfl rfl

-- HeapwrightLab$Slabs.pagesOf(II)I
set_option maxRecDepth 100000 in
theorem V51_0 {sc : List Value} {w w' : List zE} {ov : Option Value} {c s : Nat} {a0 : Nat} {x1 : Int} {x2 : Int} (h : Zr sc 51 5 [zp a0, zj x1, zj x2, zj 0, zj 0] [] w ov w' c s) : Zr sc 51 0 [zp a0, zj x1, zj x2, zmk, zmk] [] w ov w' c s := by
  refine rl_ic rfl ?_
  show Zr sc 51 1 [zp a0, zj x1, zj x2, zmk, zmk] [zj 0] w ov w' c s
  refine Zr_st (q := (2, [zp a0, zj x1, zj x2, zj 0, zmk], [])) rfl rfl rfl ?_
  show Zr sc 51 2 [zp a0, zj x1, zj x2, zj 0, zmk] [] w ov w' c s
  refine rl_ic rfl ?_
  show Zr sc 51 3 [zp a0, zj x1, zj x2, zj 0, zmk] [zj 0] w ov w' c s
  refine Zr_st (q := (5, [zp a0, zj x1, zj x2, zj 0, zj 0], [])) rfl rfl rfl ?_
  show Zr sc 51 5 [zp a0, zj x1, zj x2, zj 0, zj 0] [] w ov w' c s
  exact h
set_option maxRecDepth 100000 in
theorem V51_5 {sc : List Value} {w w' : List zE} {ov : Option Value} {c s : Nat} {a0 : Nat} {x1 : Int} {x2 : Int} {x3 : Int} {x4 : Int} {wy : Int} {st : Int} {hd : Int} {hn : Int} {sn : Int} {nm : Int} {ar : Int} {pk : Int} {dn : Int} {pg : List Int} (L0 : w[a0]? = some (zob 4 [zp (a0 + 1), zp (a0 + 6), zj wy, zj st, zj hd, zj hn, zj sn, zp (a0 + 9), zp (a0 + 10), zj nm, zj ar, zj pk, zj dn, zp (a0 + 11)])) (L11 : w[(a0 + 11)]? = some (za pg)) (h : ((zrg x4 ∧ zrg 8) ∧ ((8 ≤ x4 → (ov = some (zj x3) ∧ w' = w ∧ c = 0 ∧ s = 0)) ∧ (¬ (8 ≤ x4) → ((zrg (x4 * 128) ∧ zrg x2) ∧ ((x2 < (x4 * 128) → (ov = some (zj x3) ∧ w' = w ∧ c = 0 ∧ s = 0)) ∧ (¬ (x2 < (x4 * 128)) → (((0 : Int) ≤ x4 ∧ x4 < (pg.length : Int) ∧ x4 ≤ (2147483647 : Int)) ∧ ((zrg (zgi pg x4) ∧ zrg x1) ∧ (((zgi pg x4) ≠ x1 → Zr sc 51 5 [zp a0, zj x1, zj x2, zj x3, zj (x4 + 1)] [] w ov w' c s) ∧ (¬ ((zgi pg x4) ≠ x1) → Zr sc 51 5 [zp a0, zj x1, zj x2, zj (x3 + 1), zj (x4 + 1)] [] w ov w' c s))))))))))) : Zr sc 51 5 [zp a0, zj x1, zj x2, zj x3, zj x4] [] w ov w' c s := by
  refine Zr_st (q := (7, [zp a0, zj x1, zj x2, zj x3, zj x4], [zj x4])) rfl rfl rfl ?_
  show Zr sc 51 7 [zp a0, zj x1, zj x2, zj x3, zj x4] [zj x4] w ov w' c s
  refine rl_bi rfl (by decide) ?_
  show Zr sc 51 9 [zp a0, zj x1, zj x2, zj x3, zj x4] [zj 8, zj x4] w ov w' c s
  obtain ⟨hr_1, h⟩ := h
  refine Zr_br (p := 8 ≤ x4) rfl rfl (zcmp_j (cnd := .ge) hr_1.1 hr_1.2) (fun hp => ?_) (fun hp => ?_)
  · replace h := h.1 hp
    show Zr sc 51 42 [zp a0, zj x1, zj x2, zj x3, zj x4] [] w ov w' c s
    refine Zr_st (q := (43, [zp a0, zj x1, zj x2, zj x3, zj x4], [zj x3])) rfl rfl rfl ?_
    show Zr sc 51 43 [zp a0, zj x1, zj x2, zj x3, zj x4] [zj x3] w ov w' c s
    obtain ⟨h1, h2, h3, h4⟩ := h
    subst h1; subst h2; subst h3; subst h4
    exact Zr_ret (ins := .ireturn) rfl rfl
  · replace h := h.2 hp
    show Zr sc 51 12 [zp a0, zj x1, zj x2, zj x3, zj x4] [] w ov w' c s
    refine Zr_st (q := (14, [zp a0, zj x1, zj x2, zj x3, zj x4], [zj x4])) rfl rfl rfl ?_
    show Zr sc 51 14 [zp a0, zj x1, zj x2, zj x3, zj x4] [zj x4] w ov w' c s
    refine rl_si rfl (by decide) ?_
    show Zr sc 51 17 [zp a0, zj x1, zj x2, zj x3, zj x4] [zj 128, zj x4] w ov w' c s
    refine rl_mul rfl ?_
    show Zr sc 51 18 [zp a0, zj x1, zj x2, zj x3, zj x4] [zj (x4 * 128)] w ov w' c s
    refine Zr_st (q := (19, [zp a0, zj x1, zj x2, zj x3, zj x4], [zj x2, zj (x4 * 128)])) rfl rfl rfl ?_
    show Zr sc 51 19 [zp a0, zj x1, zj x2, zj x3, zj x4] [zj x2, zj (x4 * 128)] w ov w' c s
    obtain ⟨hr_2, h⟩ := h
    refine Zr_br (p := x2 < (x4 * 128)) rfl rfl (zcmp_j (cnd := .gt) hr_2.1 hr_2.2) (fun hp => ?_) (fun hp => ?_)
    · replace h := h.1 hp
      show Zr sc 51 42 [zp a0, zj x1, zj x2, zj x3, zj x4] [] w ov w' c s
      refine Zr_st (q := (43, [zp a0, zj x1, zj x2, zj x3, zj x4], [zj x3])) rfl rfl rfl ?_
      show Zr sc 51 43 [zp a0, zj x1, zj x2, zj x3, zj x4] [zj x3] w ov w' c s
      obtain ⟨h1, h2, h3, h4⟩ := h
      subst h1; subst h2; subst h3; subst h4
      exact Zr_ret (ins := .ireturn) rfl rfl
    · replace h := h.2 hp
      show Zr sc 51 22 [zp a0, zj x1, zj x2, zj x3, zj x4] [] w ov w' c s
      refine Zr_st (q := (23, [zp a0, zj x1, zj x2, zj x3, zj x4], [zp a0])) rfl rfl rfl ?_
      show Zr sc 51 23 [zp a0, zj x1, zj x2, zj x3, zj x4] [zp a0] w ov w' c s
      refine rl_gf rfl L0 rfl rfl ?_
      show Zr sc 51 26 [zp a0, zj x1, zj x2, zj x3, zj x4] [zp (a0 + 11)] w ov w' c s
      refine Zr_st (q := (28, [zp a0, zj x1, zj x2, zj x3, zj x4], [zj x4, zp (a0 + 11)])) rfl rfl rfl ?_
      show Zr sc 51 28 [zp a0, zj x1, zj x2, zj x3, zj x4] [zj x4, zp (a0 + 11)] w ov w' c s
      obtain ⟨hi_3, h⟩ := h
      refine rl_ia rfl L11 hi_3.1 hi_3.2.1 hi_3.2.2 ?_
      show Zr sc 51 29 [zp a0, zj x1, zj x2, zj x3, zj x4] [zj (zgi pg x4)] w ov w' c s
      refine Zr_st (q := (30, [zp a0, zj x1, zj x2, zj x3, zj x4], [zj x1, zj (zgi pg x4)])) rfl rfl rfl ?_
      show Zr sc 51 30 [zp a0, zj x1, zj x2, zj x3, zj x4] [zj x1, zj (zgi pg x4)] w ov w' c s
      obtain ⟨hr_4, h⟩ := h
      refine Zr_br (p := (zgi pg x4) ≠ x1) rfl rfl (zcmp_j (cnd := .ne) hr_4.1 hr_4.2) (fun hp => ?_) (fun hp => ?_)
      · replace h := h.1 hp
        show Zr sc 51 36 [zp a0, zj x1, zj x2, zj x3, zj x4] [] w ov w' c s
        refine rl_inc rfl rfl rfl rfl ?_
        show Zr sc 51 39 [zp a0, zj x1, zj x2, zj x3, zj (x4 + 1)] [] w ov w' c s
        refine Zr_st (q := (5, [zp a0, zj x1, zj x2, zj x3, zj (x4 + 1)], [])) rfl rfl rfl ?_
        show Zr sc 51 5 [zp a0, zj x1, zj x2, zj x3, zj (x4 + 1)] [] w ov w' c s
        exact h
      · replace h := h.2 hp
        show Zr sc 51 33 [zp a0, zj x1, zj x2, zj x3, zj x4] [] w ov w' c s
        refine rl_inc rfl rfl rfl rfl ?_
        show Zr sc 51 36 [zp a0, zj x1, zj x2, zj (x3 + 1), zj x4] [] w ov w' c s
        refine rl_inc rfl rfl rfl rfl ?_
        show Zr sc 51 39 [zp a0, zj x1, zj x2, zj (x3 + 1), zj (x4 + 1)] [] w ov w' c s
        refine Zr_st (q := (5, [zp a0, zj x1, zj x2, zj (x3 + 1), zj (x4 + 1)], [])) rfl rfl rfl ?_
        show Zr sc 51 5 [zp a0, zj x1, zj x2, zj (x3 + 1), zj (x4 + 1)] [] w ov w' c s
        exact h

-- HeapwrightLab$Holes.firstWith(I)I
set_option maxRecDepth 100000 in
theorem V52_0 {sc : List Value} {w w' : List zE} {ov : Option Value} {c s : Nat} {a0 : Nat} {x1 : Int} (h : Zr sc 52 2 [zp a0, zj x1, zj 0] [] w ov w' c s) : Zr sc 52 0 [zp a0, zj x1, zmk] [] w ov w' c s := by
  refine rl_ic rfl ?_
  show Zr sc 52 1 [zp a0, zj x1, zmk] [zj 0] w ov w' c s
  refine Zr_st (q := (2, [zp a0, zj x1, zj 0], [])) rfl rfl rfl ?_
  show Zr sc 52 2 [zp a0, zj x1, zj 0] [] w ov w' c s
  exact h
set_option maxRecDepth 100000 in
theorem V52_2 {sc : List Value} {w w' : List zE} {ov : Option Value} {c s : Nat} {a0 : Nat} {x1 : Int} {x2 : Int} {ct : Int} {oz : List Int} (L0 : w[a0]? = some (zob 3 [zp (a0 + 1), zp (a0 + 2), zj ct])) (L2 : w[(a0 + 2)]? = some (za oz)) (h : ((zrg x2 ∧ zrg ct) ∧ ((ct ≤ x2 → (ov = some (zj (-1)) ∧ w' = w ∧ c = 0 ∧ s = 0)) ∧ (¬ (ct ≤ x2) → (((0 : Int) ≤ x2 ∧ x2 < (oz.length : Int) ∧ x2 ≤ (2147483647 : Int)) ∧ ((zrg (zgi oz x2) ∧ zrg x1) ∧ (((zgi oz x2) < x1 → Zr sc 52 2 [zp a0, zj x1, zj (x2 + 1)] [] w ov w' c s) ∧ (¬ ((zgi oz x2) < x1) → (ov = some (zj x2) ∧ w' = w ∧ c = 0 ∧ s = 0))))))))) : Zr sc 52 2 [zp a0, zj x1, zj x2] [] w ov w' c s := by
  refine Zr_st (q := (3, [zp a0, zj x1, zj x2], [zj x2])) rfl rfl rfl ?_
  show Zr sc 52 3 [zp a0, zj x1, zj x2] [zj x2] w ov w' c s
  refine Zr_st (q := (4, [zp a0, zj x1, zj x2], [zp a0, zj x2])) rfl rfl rfl ?_
  show Zr sc 52 4 [zp a0, zj x1, zj x2] [zp a0, zj x2] w ov w' c s
  refine rl_gf rfl L0 rfl rfl ?_
  show Zr sc 52 7 [zp a0, zj x1, zj x2] [zj ct, zj x2] w ov w' c s
  obtain ⟨hr_1, h⟩ := h
  refine Zr_br (p := ct ≤ x2) rfl rfl (zcmp_j (cnd := .ge) hr_1.1 hr_1.2) (fun hp => ?_) (fun hp => ?_)
  · replace h := h.1 hp
    show Zr sc 52 28 [zp a0, zj x1, zj x2] [] w ov w' c s
    refine rl_ic rfl ?_
    show Zr sc 52 29 [zp a0, zj x1, zj x2] [zj (-1)] w ov w' c s
    obtain ⟨h1, h2, h3, h4⟩ := h
    subst h1; subst h2; subst h3; subst h4
    exact Zr_ret (ins := .ireturn) rfl rfl
  · replace h := h.2 hp
    show Zr sc 52 10 [zp a0, zj x1, zj x2] [] w ov w' c s
    refine Zr_st (q := (11, [zp a0, zj x1, zj x2], [zp a0])) rfl rfl rfl ?_
    show Zr sc 52 11 [zp a0, zj x1, zj x2] [zp a0] w ov w' c s
    refine rl_gf rfl L0 rfl rfl ?_
    show Zr sc 52 14 [zp a0, zj x1, zj x2] [zp (a0 + 2)] w ov w' c s
    refine Zr_st (q := (15, [zp a0, zj x1, zj x2], [zj x2, zp (a0 + 2)])) rfl rfl rfl ?_
    show Zr sc 52 15 [zp a0, zj x1, zj x2] [zj x2, zp (a0 + 2)] w ov w' c s
    obtain ⟨hi_2, h⟩ := h
    refine rl_ia rfl L2 hi_2.1 hi_2.2.1 hi_2.2.2 ?_
    show Zr sc 52 16 [zp a0, zj x1, zj x2] [zj (zgi oz x2)] w ov w' c s
    refine Zr_st (q := (17, [zp a0, zj x1, zj x2], [zj x1, zj (zgi oz x2)])) rfl rfl rfl ?_
    show Zr sc 52 17 [zp a0, zj x1, zj x2] [zj x1, zj (zgi oz x2)] w ov w' c s
    obtain ⟨hr_3, h⟩ := h
    refine Zr_br (p := (zgi oz x2) < x1) rfl rfl (zcmp_j (cnd := .lt) hr_3.1 hr_3.2) (fun hp => ?_) (fun hp => ?_)
    · replace h := h.1 hp
      show Zr sc 52 22 [zp a0, zj x1, zj x2] [] w ov w' c s
      refine rl_inc rfl rfl rfl rfl ?_
      show Zr sc 52 25 [zp a0, zj x1, zj (x2 + 1)] [] w ov w' c s
      refine Zr_st (q := (2, [zp a0, zj x1, zj (x2 + 1)], [])) rfl rfl rfl ?_
      show Zr sc 52 2 [zp a0, zj x1, zj (x2 + 1)] [] w ov w' c s
      exact h
    · replace h := h.2 hp
      show Zr sc 52 20 [zp a0, zj x1, zj x2] [] w ov w' c s
      refine Zr_st (q := (21, [zp a0, zj x1, zj x2], [zj x2])) rfl rfl rfl ?_
      show Zr sc 52 21 [zp a0, zj x1, zj x2] [zj x2] w ov w' c s
      obtain ⟨h1, h2, h3, h4⟩ := h
      subst h1; subst h2; subst h3; subst h4
      exact Zr_ret (ins := .ireturn) rfl rfl

-- HeapwrightLab.greatest()I
set_option maxRecDepth 100000 in
theorem V53_0 {sc : List Value} {w w' : List zE} {ov : Option Value} {c s : Nat} {a0 : Nat} {wy : Int} (L0 : w[a0]? = some (zob 6 [zp (a0 + 1), zp (a0 + 5), zp (a0 + 16), zp (a0 + 27), zp (a0 + 38), zp (a0 + 49), zp (a0 + 60), zj wy])) (h : (∃ p_3 : Nat, Zc sc 1 [zp a0] w (some (zp p_3)) w 0 0 ∧ (∃ cn_4 : Nat, ∃ fs_5 : List Value, w[p_3]? = some (zob cn_4 fs_5) ∧ (cn_4 = 1 ∨ cn_4 = 2 ∨ cn_4 = 4) ∧ (∃ r_12 : Int, ∃ w_10 : List zE, Zc sc 54 [zp p_3] w (some (zj r_12)) w_10 0 0 ∧ (ov = some (zj r_12) ∧ w' = w_10 ∧ c = 0 ∧ s = 0))))) : Zr sc 53 0 [zp a0] [] w ov w' c s := by
  refine Zr_st (q := (1, [zp a0], [zp a0])) rfl rfl rfl ?_
  show Zr sc 53 1 [zp a0] [zp a0] w ov w' c s
  obtain ⟨p_3, hk_9, h⟩ := h
  refine rn_cal0 (ins := .invokevirtual 83) (rest := []) rfl rfl rfl rfl (zinv_v (fs := _) L0 rfl rfl rfl rfl) rfl rfl hk_9 ?_
  show Zr sc 53 4 [zp a0] [zp p_3] w ov w' c s
  obtain ⟨cn_4, fs_5, hw_6, hcn_7, h⟩ := h
  have hz_8 : ∃ kd, zinv 53 (.invokevirtual 192) [zp p_3] (false, w) = some (kd, 54, [zp p_3], []) ∧ decide (kd < 6) = true := by rcases hcn_7 with rfl | rfl | rfl <;> exact zinv_u hw_6 rfl rfl rfl rfl rfl rfl rfl
  obtain ⟨kd_9, hz_8⟩ := hz_8
  obtain ⟨r_12, w_10, hk_11, h⟩ := h
  refine rn_cal0 (ins := .invokevirtual 192) (rest := []) rfl rfl rfl rfl hz_8.1 rfl hz_8.2 hk_11 ?_
  show Zr sc 53 7 [zp a0] [zj r_12] w_10 ov w' c s
  obtain ⟨h1, h2, h3, h4⟩ := h
  subst h1; subst h2; subst h3; subst h4
  exact Zr_ret (ins := .ireturn) rfl rfl

-- HeapwrightLab$Memory.greatestSize()I
set_option maxRecDepth 100000 in
theorem V54_0_1 {sc : List Value} {w w' : List zE} {ov : Option Value} {c s : Nat} {a0 : Nat} {wy : Int} {st : Int} {hd : Int} {hn : Int} {sn : Int} {nm : Int} {ar : Int} {pk : Int} {dn : Int} (L0 : w[a0]? = some (zob 1 [zp (a0 + 1), zp (a0 + 6), zj wy, zj st, zj hd, zj hn, zj sn, zp (a0 + 9), zp (a0 + 10), zj nm, zj ar, zj pk, zj dn])) (h : (∃ fs_2 : List Value, w[(a0 + 6)]? = some (zob 3 fs_2) ∧ (∃ r_5 : Int, Zc sc 32 [zp (a0 + 6)] w (some (zj r_5)) w 0 0 ∧ Zr sc 54 12 [zp a0, zj r_5, zj 300] [] w ov w' c s))) : Zr sc 54 0 [zp a0, zmk, zmk] [] w ov w' c s := by
  refine Zr_st (q := (1, [zp a0, zmk, zmk], [zp a0])) rfl rfl rfl ?_
  show Zr sc 54 1 [zp a0, zmk, zmk] [zp a0] w ov w' c s
  refine rl_gf rfl L0 rfl rfl ?_
  show Zr sc 54 4 [zp a0, zmk, zmk] [zp (a0 + 6)] w ov w' c s
  obtain ⟨fs_2, hl_1, h⟩ := h
  obtain ⟨r_5, hk_9, h⟩ := h
  refine rn_cal0 (ins := .invokevirtual 121) (rest := []) rfl rfl rfl rfl (zinv_v (fs := _) hl_1 rfl rfl rfl rfl) rfl rfl hk_9 ?_
  show Zr sc 54 7 [zp a0, zmk, zmk] [zj r_5] w ov w' c s
  refine Zr_st (q := (8, [zp a0, zj r_5, zmk], [])) rfl rfl rfl ?_
  show Zr sc 54 8 [zp a0, zj r_5, zmk] [] w ov w' c s
  refine rl_si rfl (by decide) ?_
  show Zr sc 54 11 [zp a0, zj r_5, zmk] [zj 300] w ov w' c s
  refine Zr_st (q := (12, [zp a0, zj r_5, zj 300], [])) rfl rfl rfl ?_
  show Zr sc 54 12 [zp a0, zj r_5, zj 300] [] w ov w' c s
  exact h
set_option maxRecDepth 100000 in
theorem V54_12_1 {sc : List Value} {w w' : List zE} {ov : Option Value} {c s : Nat} {a0 : Nat} {x1 : Int} {x2 : Int} {wy : Int} {st : Int} {hd : Int} {hn : Int} {sn : Int} {nm : Int} {ar : Int} {pk : Int} {dn : Int} (L0 : w[a0]? = some (zob 1 [zp (a0 + 1), zp (a0 + 6), zj wy, zj st, zj hd, zj hn, zj sn, zp (a0 + 9), zp (a0 + 10), zj nm, zj ar, zj pk, zj dn])) (h : ((zrg x2 ∧ zrg 1) ∧ ((x2 < 1 → (ov = some (zj 0) ∧ w' = w ∧ c = 0 ∧ s = 0)) ∧ (¬ (x2 < 1) → (∃ r_4 : Int, Zc sc 39 [zp a0, zj x2] w (some (zj r_4)) w 0 0 ∧ ((zrg r_4 ∧ zrg x1) ∧ ((x1 < r_4 → Zr sc 54 12 [zp a0, zj x1, zj (x2 + (-1))] [] w ov w' c s) ∧ (¬ (x1 < r_4) → (∃ r_8 : Int, ∃ w_6 : List zE, Zc sc 38 [zp a0, zj x2] w (some (zj r_8)) w_6 0 0 ∧ ((zrg r_8) ∧ ((r_8 < 0 → Zr sc 54 12 [zp a0, zj x1, zj (x2 + (-1))] [] w_6 ov w' c s) ∧ (¬ (r_8 < 0) → (ov = some (zj x2) ∧ w' = w_6 ∧ c = 0 ∧ s = 0))))))))))))) : Zr sc 54 12 [zp a0, zj x1, zj x2] [] w ov w' c s := by
  refine Zr_st (q := (13, [zp a0, zj x1, zj x2], [zj x2])) rfl rfl rfl ?_
  show Zr sc 54 13 [zp a0, zj x1, zj x2] [zj x2] w ov w' c s
  refine rl_ic rfl ?_
  show Zr sc 54 14 [zp a0, zj x1, zj x2] [zj 1, zj x2] w ov w' c s
  obtain ⟨hr_1, h⟩ := h
  refine Zr_br (p := x2 < 1) rfl rfl (zcmp_j (cnd := .lt) hr_1.1 hr_1.2) (fun hp => ?_) (fun hp => ?_)
  · replace h := h.1 hp
    show Zr sc 54 42 [zp a0, zj x1, zj x2] [] w ov w' c s
    refine rl_ic rfl ?_
    show Zr sc 54 43 [zp a0, zj x1, zj x2] [zj 0] w ov w' c s
    obtain ⟨h1, h2, h3, h4⟩ := h
    subst h1; subst h2; subst h3; subst h4
    exact Zr_ret (ins := .ireturn) rfl rfl
  · replace h := h.2 hp
    show Zr sc 54 17 [zp a0, zj x1, zj x2] [] w ov w' c s
    refine Zr_st (q := (18, [zp a0, zj x1, zj x2], [zp a0])) rfl rfl rfl ?_
    show Zr sc 54 18 [zp a0, zj x1, zj x2] [zp a0] w ov w' c s
    refine Zr_st (q := (19, [zp a0, zj x1, zj x2], [zj x2, zp a0])) rfl rfl rfl ?_
    show Zr sc 54 19 [zp a0, zj x1, zj x2] [zj x2, zp a0] w ov w' c s
    obtain ⟨r_4, hk_9, h⟩ := h
    refine rn_cal0 (ins := .invokevirtual 124) (rest := []) rfl rfl rfl rfl (zinv_v (fs := _) L0 rfl rfl rfl rfl) rfl rfl hk_9 ?_
    show Zr sc 54 22 [zp a0, zj x1, zj x2] [zj r_4] w ov w' c s
    refine Zr_st (q := (23, [zp a0, zj x1, zj x2], [zj x1, zj r_4])) rfl rfl rfl ?_
    show Zr sc 54 23 [zp a0, zj x1, zj x2] [zj x1, zj r_4] w ov w' c s
    obtain ⟨hr_5, h⟩ := h
    refine Zr_br (p := x1 < r_4) rfl rfl (zcmp_j (cnd := .gt) hr_5.1 hr_5.2) (fun hp => ?_) (fun hp => ?_)
    · replace h := h.1 hp
      show Zr sc 54 36 [zp a0, zj x1, zj x2] [] w ov w' c s
      refine rl_inc rfl rfl rfl rfl ?_
      show Zr sc 54 39 [zp a0, zj x1, zj (x2 + (-1))] [] w ov w' c s
      refine Zr_st (q := (12, [zp a0, zj x1, zj (x2 + (-1))], [])) rfl rfl rfl ?_
      show Zr sc 54 12 [zp a0, zj x1, zj (x2 + (-1))] [] w ov w' c s
      exact h
    · replace h := h.2 hp
      show Zr sc 54 26 [zp a0, zj x1, zj x2] [] w ov w' c s
      refine Zr_st (q := (27, [zp a0, zj x1, zj x2], [zp a0])) rfl rfl rfl ?_
      show Zr sc 54 27 [zp a0, zj x1, zj x2] [zp a0] w ov w' c s
      refine Zr_st (q := (28, [zp a0, zj x1, zj x2], [zj x2, zp a0])) rfl rfl rfl ?_
      show Zr sc 54 28 [zp a0, zj x1, zj x2] [zj x2, zp a0] w ov w' c s
      obtain ⟨r_8, w_6, hk_7, h⟩ := h
      refine rn_cal0 (ins := .invokevirtual 133) (rest := []) rfl rfl rfl rfl (zinv_v (fs := _) L0 rfl rfl rfl rfl) rfl rfl hk_7 ?_
      show Zr sc 54 31 [zp a0, zj x1, zj x2] [zj r_8] w_6 ov w' c s
      obtain ⟨hr_9, h⟩ := h
      refine Zr_b0 (p := r_8 < 0) rfl rfl (zcmp_0 (cnd := .lt) hr_9) (fun hp => ?_) (fun hp => ?_)
      · replace h := h.1 hp
        show Zr sc 54 36 [zp a0, zj x1, zj x2] [] w_6 ov w' c s
        refine rl_inc rfl rfl rfl rfl ?_
        show Zr sc 54 39 [zp a0, zj x1, zj (x2 + (-1))] [] w_6 ov w' c s
        refine Zr_st (q := (12, [zp a0, zj x1, zj (x2 + (-1))], [])) rfl rfl rfl ?_
        show Zr sc 54 12 [zp a0, zj x1, zj (x2 + (-1))] [] w_6 ov w' c s
        exact h
      · replace h := h.2 hp
        show Zr sc 54 34 [zp a0, zj x1, zj x2] [] w_6 ov w' c s
        refine Zr_st (q := (35, [zp a0, zj x1, zj x2], [zj x2])) rfl rfl rfl ?_
        show Zr sc 54 35 [zp a0, zj x1, zj x2] [zj x2] w_6 ov w' c s
        obtain ⟨h1, h2, h3, h4⟩ := h
        subst h1; subst h2; subst h3; subst h4
        exact Zr_ret (ins := .ireturn) rfl rfl

-- HeapwrightLab$Memory.greatestSize()I
set_option maxRecDepth 100000 in
theorem V54_0_2 {sc : List Value} {w w' : List zE} {ov : Option Value} {c s : Nat} {a0 : Nat} {wy : Int} {st : Int} {hd : Int} {hn : Int} {sn : Int} {nm : Int} {ar : Int} {pk : Int} {dn : Int} (L0 : w[a0]? = some (zob 2 [zp (a0 + 1), zp (a0 + 6), zj wy, zj st, zj hd, zj hn, zj sn, zp (a0 + 9), zp (a0 + 10), zj nm, zj ar, zj pk, zj dn])) (h : (∃ fs_2 : List Value, w[(a0 + 6)]? = some (zob 3 fs_2) ∧ (∃ r_5 : Int, Zc sc 32 [zp (a0 + 6)] w (some (zj r_5)) w 0 0 ∧ Zr sc 54 12 [zp a0, zj r_5, zj 300] [] w ov w' c s))) : Zr sc 54 0 [zp a0, zmk, zmk] [] w ov w' c s := by
  refine Zr_st (q := (1, [zp a0, zmk, zmk], [zp a0])) rfl rfl rfl ?_
  show Zr sc 54 1 [zp a0, zmk, zmk] [zp a0] w ov w' c s
  refine rl_gf rfl L0 rfl rfl ?_
  show Zr sc 54 4 [zp a0, zmk, zmk] [zp (a0 + 6)] w ov w' c s
  obtain ⟨fs_2, hl_1, h⟩ := h
  obtain ⟨r_5, hk_9, h⟩ := h
  refine rn_cal0 (ins := .invokevirtual 121) (rest := []) rfl rfl rfl rfl (zinv_v (fs := _) hl_1 rfl rfl rfl rfl) rfl rfl hk_9 ?_
  show Zr sc 54 7 [zp a0, zmk, zmk] [zj r_5] w ov w' c s
  refine Zr_st (q := (8, [zp a0, zj r_5, zmk], [])) rfl rfl rfl ?_
  show Zr sc 54 8 [zp a0, zj r_5, zmk] [] w ov w' c s
  refine rl_si rfl (by decide) ?_
  show Zr sc 54 11 [zp a0, zj r_5, zmk] [zj 300] w ov w' c s
  refine Zr_st (q := (12, [zp a0, zj r_5, zj 300], [])) rfl rfl rfl ?_
  show Zr sc 54 12 [zp a0, zj r_5, zj 300] [] w ov w' c s
  exact h
set_option maxRecDepth 100000 in
theorem V54_12_2 {sc : List Value} {w w' : List zE} {ov : Option Value} {c s : Nat} {a0 : Nat} {x1 : Int} {x2 : Int} {wy : Int} {st : Int} {hd : Int} {hn : Int} {sn : Int} {nm : Int} {ar : Int} {pk : Int} {dn : Int} (L0 : w[a0]? = some (zob 2 [zp (a0 + 1), zp (a0 + 6), zj wy, zj st, zj hd, zj hn, zj sn, zp (a0 + 9), zp (a0 + 10), zj nm, zj ar, zj pk, zj dn])) (h : ((zrg x2 ∧ zrg 1) ∧ ((x2 < 1 → (ov = some (zj 0) ∧ w' = w ∧ c = 0 ∧ s = 0)) ∧ (¬ (x2 < 1) → (∃ r_4 : Int, Zc sc 40 [zp a0, zj x2] w (some (zj r_4)) w 0 0 ∧ ((zrg r_4 ∧ zrg x1) ∧ ((x1 < r_4 → Zr sc 54 12 [zp a0, zj x1, zj (x2 + (-1))] [] w ov w' c s) ∧ (¬ (x1 < r_4) → (∃ r_8 : Int, ∃ w_6 : List zE, Zc sc 38 [zp a0, zj x2] w (some (zj r_8)) w_6 0 0 ∧ ((zrg r_8) ∧ ((r_8 < 0 → Zr sc 54 12 [zp a0, zj x1, zj (x2 + (-1))] [] w_6 ov w' c s) ∧ (¬ (r_8 < 0) → (ov = some (zj x2) ∧ w' = w_6 ∧ c = 0 ∧ s = 0))))))))))))) : Zr sc 54 12 [zp a0, zj x1, zj x2] [] w ov w' c s := by
  refine Zr_st (q := (13, [zp a0, zj x1, zj x2], [zj x2])) rfl rfl rfl ?_
  show Zr sc 54 13 [zp a0, zj x1, zj x2] [zj x2] w ov w' c s
  refine rl_ic rfl ?_
  show Zr sc 54 14 [zp a0, zj x1, zj x2] [zj 1, zj x2] w ov w' c s
  obtain ⟨hr_1, h⟩ := h
  refine Zr_br (p := x2 < 1) rfl rfl (zcmp_j (cnd := .lt) hr_1.1 hr_1.2) (fun hp => ?_) (fun hp => ?_)
  · replace h := h.1 hp
    show Zr sc 54 42 [zp a0, zj x1, zj x2] [] w ov w' c s
    refine rl_ic rfl ?_
    show Zr sc 54 43 [zp a0, zj x1, zj x2] [zj 0] w ov w' c s
    obtain ⟨h1, h2, h3, h4⟩ := h
    subst h1; subst h2; subst h3; subst h4
    exact Zr_ret (ins := .ireturn) rfl rfl
  · replace h := h.2 hp
    show Zr sc 54 17 [zp a0, zj x1, zj x2] [] w ov w' c s
    refine Zr_st (q := (18, [zp a0, zj x1, zj x2], [zp a0])) rfl rfl rfl ?_
    show Zr sc 54 18 [zp a0, zj x1, zj x2] [zp a0] w ov w' c s
    refine Zr_st (q := (19, [zp a0, zj x1, zj x2], [zj x2, zp a0])) rfl rfl rfl ?_
    show Zr sc 54 19 [zp a0, zj x1, zj x2] [zj x2, zp a0] w ov w' c s
    obtain ⟨r_4, hk_9, h⟩ := h
    refine rn_cal0 (ins := .invokevirtual 124) (rest := []) rfl rfl rfl rfl (zinv_v (fs := _) L0 rfl rfl rfl rfl) rfl rfl hk_9 ?_
    show Zr sc 54 22 [zp a0, zj x1, zj x2] [zj r_4] w ov w' c s
    refine Zr_st (q := (23, [zp a0, zj x1, zj x2], [zj x1, zj r_4])) rfl rfl rfl ?_
    show Zr sc 54 23 [zp a0, zj x1, zj x2] [zj x1, zj r_4] w ov w' c s
    obtain ⟨hr_5, h⟩ := h
    refine Zr_br (p := x1 < r_4) rfl rfl (zcmp_j (cnd := .gt) hr_5.1 hr_5.2) (fun hp => ?_) (fun hp => ?_)
    · replace h := h.1 hp
      show Zr sc 54 36 [zp a0, zj x1, zj x2] [] w ov w' c s
      refine rl_inc rfl rfl rfl rfl ?_
      show Zr sc 54 39 [zp a0, zj x1, zj (x2 + (-1))] [] w ov w' c s
      refine Zr_st (q := (12, [zp a0, zj x1, zj (x2 + (-1))], [])) rfl rfl rfl ?_
      show Zr sc 54 12 [zp a0, zj x1, zj (x2 + (-1))] [] w ov w' c s
      exact h
    · replace h := h.2 hp
      show Zr sc 54 26 [zp a0, zj x1, zj x2] [] w ov w' c s
      refine Zr_st (q := (27, [zp a0, zj x1, zj x2], [zp a0])) rfl rfl rfl ?_
      show Zr sc 54 27 [zp a0, zj x1, zj x2] [zp a0] w ov w' c s
      refine Zr_st (q := (28, [zp a0, zj x1, zj x2], [zj x2, zp a0])) rfl rfl rfl ?_
      show Zr sc 54 28 [zp a0, zj x1, zj x2] [zj x2, zp a0] w ov w' c s
      obtain ⟨r_8, w_6, hk_7, h⟩ := h
      refine rn_cal0 (ins := .invokevirtual 133) (rest := []) rfl rfl rfl rfl (zinv_v (fs := _) L0 rfl rfl rfl rfl) rfl rfl hk_7 ?_
      show Zr sc 54 31 [zp a0, zj x1, zj x2] [zj r_8] w_6 ov w' c s
      obtain ⟨hr_9, h⟩ := h
      refine Zr_b0 (p := r_8 < 0) rfl rfl (zcmp_0 (cnd := .lt) hr_9) (fun hp => ?_) (fun hp => ?_)
      · replace h := h.1 hp
        show Zr sc 54 36 [zp a0, zj x1, zj x2] [] w_6 ov w' c s
        refine rl_inc rfl rfl rfl rfl ?_
        show Zr sc 54 39 [zp a0, zj x1, zj (x2 + (-1))] [] w_6 ov w' c s
        refine Zr_st (q := (12, [zp a0, zj x1, zj (x2 + (-1))], [])) rfl rfl rfl ?_
        show Zr sc 54 12 [zp a0, zj x1, zj (x2 + (-1))] [] w_6 ov w' c s
        exact h
      · replace h := h.2 hp
        show Zr sc 54 34 [zp a0, zj x1, zj x2] [] w_6 ov w' c s
        refine Zr_st (q := (35, [zp a0, zj x1, zj x2], [zj x2])) rfl rfl rfl ?_
        show Zr sc 54 35 [zp a0, zj x1, zj x2] [zj x2] w_6 ov w' c s
        obtain ⟨h1, h2, h3, h4⟩ := h
        subst h1; subst h2; subst h3; subst h4
        exact Zr_ret (ins := .ireturn) rfl rfl

-- HeapwrightLab$Memory.greatestSize()I
set_option maxRecDepth 100000 in
theorem V54_0_4 {sc : List Value} {w w' : List zE} {ov : Option Value} {c s : Nat} {a0 : Nat} {wy : Int} {st : Int} {hd : Int} {hn : Int} {sn : Int} {nm : Int} {ar : Int} {pk : Int} {dn : Int} (L0 : w[a0]? = some (zob 4 [zp (a0 + 1), zp (a0 + 6), zj wy, zj st, zj hd, zj hn, zj sn, zp (a0 + 9), zp (a0 + 10), zj nm, zj ar, zj pk, zj dn, zp (a0 + 11)])) (h : (∃ fs_2 : List Value, w[(a0 + 6)]? = some (zob 3 fs_2) ∧ (∃ r_5 : Int, Zc sc 32 [zp (a0 + 6)] w (some (zj r_5)) w 0 0 ∧ Zr sc 54 12 [zp a0, zj r_5, zj 300] [] w ov w' c s))) : Zr sc 54 0 [zp a0, zmk, zmk] [] w ov w' c s := by
  refine Zr_st (q := (1, [zp a0, zmk, zmk], [zp a0])) rfl rfl rfl ?_
  show Zr sc 54 1 [zp a0, zmk, zmk] [zp a0] w ov w' c s
  refine rl_gf rfl L0 rfl rfl ?_
  show Zr sc 54 4 [zp a0, zmk, zmk] [zp (a0 + 6)] w ov w' c s
  obtain ⟨fs_2, hl_1, h⟩ := h
  obtain ⟨r_5, hk_9, h⟩ := h
  refine rn_cal0 (ins := .invokevirtual 121) (rest := []) rfl rfl rfl rfl (zinv_v (fs := _) hl_1 rfl rfl rfl rfl) rfl rfl hk_9 ?_
  show Zr sc 54 7 [zp a0, zmk, zmk] [zj r_5] w ov w' c s
  refine Zr_st (q := (8, [zp a0, zj r_5, zmk], [])) rfl rfl rfl ?_
  show Zr sc 54 8 [zp a0, zj r_5, zmk] [] w ov w' c s
  refine rl_si rfl (by decide) ?_
  show Zr sc 54 11 [zp a0, zj r_5, zmk] [zj 300] w ov w' c s
  refine Zr_st (q := (12, [zp a0, zj r_5, zj 300], [])) rfl rfl rfl ?_
  show Zr sc 54 12 [zp a0, zj r_5, zj 300] [] w ov w' c s
  exact h
set_option maxRecDepth 100000 in
theorem V54_12_4 {sc : List Value} {w w' : List zE} {ov : Option Value} {c s : Nat} {a0 : Nat} {x1 : Int} {x2 : Int} {wy : Int} {st : Int} {hd : Int} {hn : Int} {sn : Int} {nm : Int} {ar : Int} {pk : Int} {dn : Int} (L0 : w[a0]? = some (zob 4 [zp (a0 + 1), zp (a0 + 6), zj wy, zj st, zj hd, zj hn, zj sn, zp (a0 + 9), zp (a0 + 10), zj nm, zj ar, zj pk, zj dn, zp (a0 + 11)])) (h : ((zrg x2 ∧ zrg 1) ∧ ((x2 < 1 → (ov = some (zj 0) ∧ w' = w ∧ c = 0 ∧ s = 0)) ∧ (¬ (x2 < 1) → (∃ r_4 : Int, Zc sc 42 [zp a0, zj x2] w (some (zj r_4)) w 0 0 ∧ ((zrg r_4 ∧ zrg x1) ∧ ((x1 < r_4 → Zr sc 54 12 [zp a0, zj x1, zj (x2 + (-1))] [] w ov w' c s) ∧ (¬ (x1 < r_4) → (∃ r_8 : Int, ∃ w_6 : List zE, Zc sc 38 [zp a0, zj x2] w (some (zj r_8)) w_6 0 0 ∧ ((zrg r_8) ∧ ((r_8 < 0 → Zr sc 54 12 [zp a0, zj x1, zj (x2 + (-1))] [] w_6 ov w' c s) ∧ (¬ (r_8 < 0) → (ov = some (zj x2) ∧ w' = w_6 ∧ c = 0 ∧ s = 0))))))))))))) : Zr sc 54 12 [zp a0, zj x1, zj x2] [] w ov w' c s := by
  refine Zr_st (q := (13, [zp a0, zj x1, zj x2], [zj x2])) rfl rfl rfl ?_
  show Zr sc 54 13 [zp a0, zj x1, zj x2] [zj x2] w ov w' c s
  refine rl_ic rfl ?_
  show Zr sc 54 14 [zp a0, zj x1, zj x2] [zj 1, zj x2] w ov w' c s
  obtain ⟨hr_1, h⟩ := h
  refine Zr_br (p := x2 < 1) rfl rfl (zcmp_j (cnd := .lt) hr_1.1 hr_1.2) (fun hp => ?_) (fun hp => ?_)
  · replace h := h.1 hp
    show Zr sc 54 42 [zp a0, zj x1, zj x2] [] w ov w' c s
    refine rl_ic rfl ?_
    show Zr sc 54 43 [zp a0, zj x1, zj x2] [zj 0] w ov w' c s
    obtain ⟨h1, h2, h3, h4⟩ := h
    subst h1; subst h2; subst h3; subst h4
    exact Zr_ret (ins := .ireturn) rfl rfl
  · replace h := h.2 hp
    show Zr sc 54 17 [zp a0, zj x1, zj x2] [] w ov w' c s
    refine Zr_st (q := (18, [zp a0, zj x1, zj x2], [zp a0])) rfl rfl rfl ?_
    show Zr sc 54 18 [zp a0, zj x1, zj x2] [zp a0] w ov w' c s
    refine Zr_st (q := (19, [zp a0, zj x1, zj x2], [zj x2, zp a0])) rfl rfl rfl ?_
    show Zr sc 54 19 [zp a0, zj x1, zj x2] [zj x2, zp a0] w ov w' c s
    obtain ⟨r_4, hk_9, h⟩ := h
    refine rn_cal0 (ins := .invokevirtual 124) (rest := []) rfl rfl rfl rfl (zinv_v (fs := _) L0 rfl rfl rfl rfl) rfl rfl hk_9 ?_
    show Zr sc 54 22 [zp a0, zj x1, zj x2] [zj r_4] w ov w' c s
    refine Zr_st (q := (23, [zp a0, zj x1, zj x2], [zj x1, zj r_4])) rfl rfl rfl ?_
    show Zr sc 54 23 [zp a0, zj x1, zj x2] [zj x1, zj r_4] w ov w' c s
    obtain ⟨hr_5, h⟩ := h
    refine Zr_br (p := x1 < r_4) rfl rfl (zcmp_j (cnd := .gt) hr_5.1 hr_5.2) (fun hp => ?_) (fun hp => ?_)
    · replace h := h.1 hp
      show Zr sc 54 36 [zp a0, zj x1, zj x2] [] w ov w' c s
      refine rl_inc rfl rfl rfl rfl ?_
      show Zr sc 54 39 [zp a0, zj x1, zj (x2 + (-1))] [] w ov w' c s
      refine Zr_st (q := (12, [zp a0, zj x1, zj (x2 + (-1))], [])) rfl rfl rfl ?_
      show Zr sc 54 12 [zp a0, zj x1, zj (x2 + (-1))] [] w ov w' c s
      exact h
    · replace h := h.2 hp
      show Zr sc 54 26 [zp a0, zj x1, zj x2] [] w ov w' c s
      refine Zr_st (q := (27, [zp a0, zj x1, zj x2], [zp a0])) rfl rfl rfl ?_
      show Zr sc 54 27 [zp a0, zj x1, zj x2] [zp a0] w ov w' c s
      refine Zr_st (q := (28, [zp a0, zj x1, zj x2], [zj x2, zp a0])) rfl rfl rfl ?_
      show Zr sc 54 28 [zp a0, zj x1, zj x2] [zj x2, zp a0] w ov w' c s
      obtain ⟨r_8, w_6, hk_7, h⟩ := h
      refine rn_cal0 (ins := .invokevirtual 133) (rest := []) rfl rfl rfl rfl (zinv_v (fs := _) L0 rfl rfl rfl rfl) rfl rfl hk_7 ?_
      show Zr sc 54 31 [zp a0, zj x1, zj x2] [zj r_8] w_6 ov w' c s
      obtain ⟨hr_9, h⟩ := h
      refine Zr_b0 (p := r_8 < 0) rfl rfl (zcmp_0 (cnd := .lt) hr_9) (fun hp => ?_) (fun hp => ?_)
      · replace h := h.1 hp
        show Zr sc 54 36 [zp a0, zj x1, zj x2] [] w_6 ov w' c s
        refine rl_inc rfl rfl rfl rfl ?_
        show Zr sc 54 39 [zp a0, zj x1, zj (x2 + (-1))] [] w_6 ov w' c s
        refine Zr_st (q := (12, [zp a0, zj x1, zj (x2 + (-1))], [])) rfl rfl rfl ?_
        show Zr sc 54 12 [zp a0, zj x1, zj (x2 + (-1))] [] w_6 ov w' c s
        exact h
      · replace h := h.2 hp
        show Zr sc 54 34 [zp a0, zj x1, zj x2] [] w_6 ov w' c s
        refine Zr_st (q := (35, [zp a0, zj x1, zj x2], [zj x2])) rfl rfl rfl ?_
        show Zr sc 54 35 [zp a0, zj x1, zj x2] [zj x2] w_6 ov w' c s
        obtain ⟨h1, h2, h3, h4⟩ := h
        subst h1; subst h2; subst h3; subst h4
        exact Zr_ret (ins := .ireturn) rfl rfl

-- HeapwrightLab.again(II)I
set_option maxRecDepth 100000 in
theorem V55_0 {sc : List Value} {w w' : List zE} {ov : Option Value} {c s : Nat} {a0 : Nat} {x1 : Int} {x2 : Int} {wy : Int} (L0 : w[a0]? = some (zob 6 [zp (a0 + 1), zp (a0 + 5), zp (a0 + 16), zp (a0 + 27), zp (a0 + 38), zp (a0 + 49), zp (a0 + 60), zj wy])) (h : (∃ r_3 : Int, Zc sc 56 [zj x1] w (some (zj r_3)) w 0 0 ∧ ((zrg r_3) ∧ ((r_3 ≠ 0 → ((zrg x2) ∧ ((x2 < 0 → False) ∧ (¬ (x2 < 0) → ((zrg x2 ∧ zrg 7) ∧ ((x2 ≤ 7 → (∃ p_9 : Nat, Zc sc 2 [zp a0, zj x1] w (some (zp p_9)) w 0 0 ∧ (∃ cn_10 : Nat, ∃ fs_11 : List Value, w[p_9]? = some (zob cn_10 fs_11) ∧ (cn_10 = 1 ∨ cn_10 = 2 ∨ cn_10 = 4) ∧ (∃ p_18 : Nat, ∃ w_16 : List zE, Zc sc 57 [zp p_9, zp (a0 + 1)] w (some (zp p_18)) w_16 0 0 ∧ (∃ cn_19 : Nat, ∃ fs_20 : List Value, w_16[p_18]? = some (zob cn_19 fs_20) ∧ (cn_19 = 1 ∨ cn_19 = 2 ∨ cn_19 = 4) ∧ (∃ r_27 : Int, Zc sc 34 [zp p_18, zj x2] w_16 (some (zj r_27)) w_16 0 0 ∧ (ov = some (zj r_27) ∧ w' = w_16 ∧ c = 0 ∧ s = 0))))))) ∧ (¬ (x2 ≤ 7) → False))))))) ∧ (¬ (r_3 ≠ 0) → False))))) : Zr sc 55 0 [zp a0, zj x1, zj x2] [] w ov w' c s := by
  refine Zr_st (q := (1, [zp a0, zj x1, zj x2], [zj x1])) rfl rfl rfl ?_
  show Zr sc 55 1 [zp a0, zj x1, zj x2] [zj x1] w ov w' c s
  obtain ⟨r_3, hk_9, h⟩ := h
  refine rn_cal0 (ins := .invokestatic 52) (rest := []) rfl rfl rfl rfl (zinv_t rfl rfl rfl rfl) rfl rfl hk_9 ?_
  show Zr sc 55 4 [zp a0, zj x1, zj x2] [zj r_3] w ov w' c s
  obtain ⟨hr_4, h⟩ := h
  refine Zr_b0 (p := r_3 ≠ 0) rfl rfl (zcmp_0 (cnd := .ne) hr_4) (fun hp => ?_) (fun hp => ?_)
  · replace h := h.1 hp
    show Zr sc 55 17 [zp a0, zj x1, zj x2] [] w ov w' c s
    refine Zr_st (q := (18, [zp a0, zj x1, zj x2], [zj x2])) rfl rfl rfl ?_
    show Zr sc 55 18 [zp a0, zj x1, zj x2] [zj x2] w ov w' c s
    obtain ⟨hr_5, h⟩ := h
    refine Zr_b0 (p := x2 < 0) rfl rfl (zcmp_0 (cnd := .lt) hr_5) (fun hp => ?_) (fun hp => ?_)
    · replace h := h.1 hp
      show Zr sc 55 27 [zp a0, zj x1, zj x2] [] w ov w' c s
      exact h.elim
    · replace h := h.2 hp
      show Zr sc 55 21 [zp a0, zj x1, zj x2] [] w ov w' c s
      refine Zr_st (q := (22, [zp a0, zj x1, zj x2], [zj x2])) rfl rfl rfl ?_
      show Zr sc 55 22 [zp a0, zj x1, zj x2] [zj x2] w ov w' c s
      refine rl_bi rfl (by decide) ?_
      show Zr sc 55 24 [zp a0, zj x1, zj x2] [zj 7, zj x2] w ov w' c s
      obtain ⟨hr_6, h⟩ := h
      refine Zr_br (p := x2 ≤ 7) rfl rfl (zcmp_j (cnd := .le) hr_6.1 hr_6.2) (fun hp => ?_) (fun hp => ?_)
      · replace h := h.1 hp
        show Zr sc 55 37 [zp a0, zj x1, zj x2] [] w ov w' c s
        refine Zr_st (q := (38, [zp a0, zj x1, zj x2], [zp a0])) rfl rfl rfl ?_
        show Zr sc 55 38 [zp a0, zj x1, zj x2] [zp a0] w ov w' c s
        refine Zr_st (q := (39, [zp a0, zj x1, zj x2], [zj x1, zp a0])) rfl rfl rfl ?_
        show Zr sc 55 39 [zp a0, zj x1, zj x2] [zj x1, zp a0] w ov w' c s
        obtain ⟨p_9, hk_9, h⟩ := h
        refine rn_cal0 (ins := .invokevirtual 70) (rest := []) rfl rfl rfl rfl (zinv_v (fs := _) L0 rfl rfl rfl rfl) rfl rfl hk_9 ?_
        show Zr sc 55 42 [zp a0, zj x1, zj x2] [zp p_9] w ov w' c s
        refine Zr_st (q := (43, [zp a0, zj x1, zj x2], [zp a0, zp p_9])) rfl rfl rfl ?_
        show Zr sc 55 43 [zp a0, zj x1, zj x2] [zp a0, zp p_9] w ov w' c s
        refine rl_gf rfl L0 rfl rfl ?_
        show Zr sc 55 46 [zp a0, zj x1, zj x2] [zp (a0 + 1), zp p_9] w ov w' c s
        obtain ⟨cn_10, fs_11, hw_12, hcn_13, h⟩ := h
        have hz_14 : ∃ kd, zinv 55 (.invokevirtual 103) [zp (a0 + 1), zp p_9] (false, w) = some (kd, 57, [zp p_9, zp (a0 + 1)], []) ∧ decide (kd < 6) = true := by rcases hcn_13 with rfl | rfl | rfl <;> exact zinv_u hw_12 rfl rfl rfl rfl rfl rfl rfl
        obtain ⟨kd_15, hz_14⟩ := hz_14
        obtain ⟨p_18, w_16, hk_17, h⟩ := h
        refine rn_cal0 (ins := .invokevirtual 103) (rest := []) rfl rfl rfl rfl hz_14.1 rfl hz_14.2 hk_17 ?_
        show Zr sc 55 49 [zp a0, zj x1, zj x2] [zp p_18] w_16 ov w' c s
        refine Zr_st (q := (50, [zp a0, zj x1, zj x2], [zj x2, zp p_18])) rfl rfl rfl ?_
        show Zr sc 55 50 [zp a0, zj x1, zj x2] [zj x2, zp p_18] w_16 ov w' c s
        obtain ⟨cn_19, fs_20, hw_21, hcn_22, h⟩ := h
        have hz_23 : ∃ kd, zinv 55 (.invokevirtual 128) [zj x2, zp p_18] (false, w_16) = some (kd, 34, [zp p_18, zj x2], []) ∧ decide (kd < 6) = true := by rcases hcn_22 with rfl | rfl | rfl <;> exact zinv_u hw_21 rfl rfl rfl rfl rfl rfl rfl
        obtain ⟨kd_24, hz_23⟩ := hz_23
        obtain ⟨r_27, hk_9, h⟩ := h
        refine rn_cal0 (ins := .invokevirtual 128) (rest := []) rfl rfl rfl rfl hz_23.1 rfl hz_23.2 hk_9 ?_
        show Zr sc 55 53 [zp a0, zj x1, zj x2] [zj r_27] w_16 ov w' c s
        obtain ⟨h1, h2, h3, h4⟩ := h
        subst h1; subst h2; subst h3; subst h4
        exact Zr_ret (ins := .ireturn) rfl rfl
      · replace h := h.2 hp
        show Zr sc 55 27 [zp a0, zj x1, zj x2] [] w ov w' c s
        exact h.elim
  · replace h := h.2 hp
    show Zr sc 55 7 [zp a0, zj x1, zj x2] [] w ov w' c s
    exact h.elim

-- HeapwrightLab.isWay(I)Z
set_option maxRecDepth 100000 in
theorem V56_0 {sc : List Value} {w w' : List zE} {ov : Option Value} {c s : Nat} {x0 : Int} (h : ((zrg x0) ∧ ((x0 < 0 → (ov = some (zj 0) ∧ w' = w ∧ c = 0 ∧ s = 0)) ∧ (¬ (x0 < 0) → ((zrg x0 ∧ zrg 6) ∧ ((6 ≤ x0 → (ov = some (zj 0) ∧ w' = w ∧ c = 0 ∧ s = 0)) ∧ (¬ (6 ≤ x0) → (ov = some (zj 1) ∧ w' = w ∧ c = 0 ∧ s = 0)))))))) : Zr sc 56 0 [zj x0] [] w ov w' c s := by
  refine Zr_st (q := (1, [zj x0], [zj x0])) rfl rfl rfl ?_
  show Zr sc 56 1 [zj x0] [zj x0] w ov w' c s
  obtain ⟨hr_1, h⟩ := h
  refine Zr_b0 (p := x0 < 0) rfl rfl (zcmp_0 (cnd := .lt) hr_1) (fun hp => ?_) (fun hp => ?_)
  · replace h := h.1 hp
    show Zr sc 56 14 [zj x0] [] w ov w' c s
    refine rl_ic rfl ?_
    show Zr sc 56 15 [zj x0] [zj 0] w ov w' c s
    obtain ⟨h1, h2, h3, h4⟩ := h
    subst h1; subst h2; subst h3; subst h4
    exact Zr_ret (ins := .ireturn) rfl rfl
  · replace h := h.2 hp
    show Zr sc 56 4 [zj x0] [] w ov w' c s
    refine Zr_st (q := (5, [zj x0], [zj x0])) rfl rfl rfl ?_
    show Zr sc 56 5 [zj x0] [zj x0] w ov w' c s
    refine rl_bi rfl (by decide) ?_
    show Zr sc 56 7 [zj x0] [zj 6, zj x0] w ov w' c s
    obtain ⟨hr_2, h⟩ := h
    refine Zr_br (p := 6 ≤ x0) rfl rfl (zcmp_j (cnd := .ge) hr_2.1 hr_2.2) (fun hp => ?_) (fun hp => ?_)
    · replace h := h.1 hp
      show Zr sc 56 14 [zj x0] [] w ov w' c s
      refine rl_ic rfl ?_
      show Zr sc 56 15 [zj x0] [zj 0] w ov w' c s
      obtain ⟨h1, h2, h3, h4⟩ := h
      subst h1; subst h2; subst h3; subst h4
      exact Zr_ret (ins := .ireturn) rfl rfl
    · replace h := h.2 hp
      show Zr sc 56 10 [zj x0] [] w ov w' c s
      refine rl_ic rfl ?_
      show Zr sc 56 11 [zj x0] [zj 1] w ov w' c s
      refine Zr_st (q := (15, [zj x0], [zj 1])) rfl rfl rfl ?_
      show Zr sc 56 15 [zj x0] [zj 1] w ov w' c s
      obtain ⟨h1, h2, h3, h4⟩ := h
      subst h1; subst h2; subst h3; subst h4
      exact Zr_ret (ins := .ireturn) rfl rfl

-- HeapwrightLab$Memory.follow(LHeapwrightLab$Trace;)LHeapwrightLab$Memory;
set_option maxRecDepth 100000 in
theorem V57_0_1 {sc : List Value} {w w' : List zE} {ov : Option Value} {c s : Nat} {a0 : Nat} {a1 : Nat} {wy : Int} {st : Int} {hd : Int} {hn : Int} {sn : Int} {nm : Int} {ar : Int} {pk : Int} {dn : Int} (L0 : w[a0]? = some (zob 1 [zp (a0 + 1), zp (a0 + 6), zj wy, zj st, zj hd, zj hn, zj sn, zp (a0 + 9), zp (a0 + 10), zj nm, zj ar, zj pk, zj dn])) (h : Zr sc 57 5 [zp a0, zp a1, zj dn] [] w ov w' c s) : Zr sc 57 0 [zp a0, zp a1, zmk] [] w ov w' c s := by
  refine Zr_st (q := (1, [zp a0, zp a1, zmk], [zp a0])) rfl rfl rfl ?_
  show Zr sc 57 1 [zp a0, zp a1, zmk] [zp a0] w ov w' c s
  refine rl_gf rfl L0 rfl rfl ?_
  show Zr sc 57 4 [zp a0, zp a1, zmk] [zj dn] w ov w' c s
  refine Zr_st (q := (5, [zp a0, zp a1, zj dn], [])) rfl rfl rfl ?_
  show Zr sc 57 5 [zp a0, zp a1, zj dn] [] w ov w' c s
  exact h
set_option maxRecDepth 100000 in
theorem V57_5_1 {sc : List Value} {w w' : List zE} {ov : Option Value} {c s : Nat} {a0 : Nat} {a1 : Nat} {x2 : Int} {wy : Int} {st : Int} {hd : Int} {hn : Int} {sn : Int} {nm : Int} {ar : Int} {pk : Int} {dn : Int} (L0 : w[a0]? = some (zob 1 [zp (a0 + 1), zp (a0 + 6), zj wy, zj st, zj hd, zj hn, zj sn, zp (a0 + 9), zp (a0 + 10), zj nm, zj ar, zj pk, zj dn])) (h : (∃ fs_2 : List Value, w[a1]? = some (zob 5 fs_2) ∧ (∃ r_5 : Int, Zc sc 58 [zp a1] w (some (zj r_5)) w 0 0 ∧ ((zrg x2 ∧ zrg r_5) ∧ ((r_5 ≤ x2 → (∃ r_9 : Int, Zc sc 58 [zp a1] w (some (zj r_9)) w 0 0 ∧ (ov = some (zp a0) ∧ w' = (w.set a0 (zob 1 [zp (a0 + 1), zp (a0 + 6), zj wy, zj st, zj hd, zj hn, zj sn, zp (a0 + 9), zp (a0 + 10), zj nm, zj ar, zj pk, zj r_9])) ∧ c = 0 ∧ s = 0))) ∧ (¬ (r_5 ≤ x2) → (∃ r_12 : Int, Zc sc 59 [zp a1, zj x2] w (some (zj r_12)) w 0 0 ∧ ((zrg r_12) ∧ (((r_12 < 0 ∨ 5 < r_12) → (∃ fs_15 : List Value, w[(a0 + 1)]? = some (zob 0 fs_15) ∧ (∃ r_18 : Int, Zc sc 28 [zp (a0 + 1)] w (some (zj r_18)) w 0 0 ∧ ((zrg pk ∧ zrg r_18) ∧ Zr sc 57 5 [zp a0, zp a1, zj (x2 + 1)] [] (w.set a0 (zob 1 [zp (a0 + 1), zp (a0 + 6), zj wy, zj st, zj hd, zj hn, zj sn, zp (a0 + 9), zp (a0 + 10), zj nm, zj ar, zj (max pk r_18), zj dn])) ov w' c s)))) ∧ (r_12 = 0 → (∃ r_22 : Int, Zc sc 61 [zp a1, zj x2] w (some (zj r_22)) w 0 0 ∧ (∃ w_23 : List zE, Zc sc 62 [zp a0, zj r_22] w none w_23 0 0 ∧ (∃ wy_26 : Int, ∃ st_27 : Int, ∃ hd_28 : Int, ∃ hn_29 : Int, ∃ sn_30 : Int, ∃ nm_31 : Int, ∃ ar_32 : Int, ∃ pk_33 : Int, ∃ dn_34 : Int, w_23[a0]? = some (zob 1 [zp (a0 + 1), zp (a0 + 6), zj wy_26, zj st_27, zj hd_28, zj hn_29, zj sn_30, zp (a0 + 9), zp (a0 + 10), zj nm_31, zj ar_32, zj pk_33, zj dn_34]) ∧ (∃ fs_36 : List Value, w_23[(a0 + 1)]? = some (zob 0 fs_36) ∧ (∃ r_39 : Int, Zc sc 28 [zp (a0 + 1)] w_23 (some (zj r_39)) w_23 0 0 ∧ ((zrg pk_33 ∧ zrg r_39) ∧ Zr sc 57 5 [zp a0, zp a1, zj (x2 + 1)] [] (w_23.set a0 (zob 1 [zp (a0 + 1), zp (a0 + 6), zj wy_26, zj st_27, zj hd_28, zj hn_29, zj sn_30, zp (a0 + 9), zp (a0 + 10), zj nm_31, zj ar_32, zj (max pk_33 r_39), zj dn_34])) ov w' c s))))))) ∧ (r_12 = 1 → (∃ r_43 : Int, Zc sc 82 [zp a1, zj x2] w (some (zj r_43)) w 0 0 ∧ (∃ w_44 : List zE, Zc sc 83 [zp a0, zj r_43] w none w_44 0 0 ∧ (∃ wy_47 : Int, ∃ st_48 : Int, ∃ hd_49 : Int, ∃ hn_50 : Int, ∃ sn_51 : Int, ∃ nm_52 : Int, ∃ ar_53 : Int, ∃ pk_54 : Int, ∃ dn_55 : Int, w_44[a0]? = some (zob 1 [zp (a0 + 1), zp (a0 + 6), zj wy_47, zj st_48, zj hd_49, zj hn_50, zj sn_51, zp (a0 + 9), zp (a0 + 10), zj nm_52, zj ar_53, zj pk_54, zj dn_55]) ∧ (∃ fs_57 : List Value, w_44[(a0 + 1)]? = some (zob 0 fs_57) ∧ (∃ r_60 : Int, Zc sc 28 [zp (a0 + 1)] w_44 (some (zj r_60)) w_44 0 0 ∧ ((zrg pk_54 ∧ zrg r_60) ∧ Zr sc 57 5 [zp a0, zp a1, zj (x2 + 1)] [] (w_44.set a0 (zob 1 [zp (a0 + 1), zp (a0 + 6), zj wy_47, zj st_48, zj hd_49, zj hn_50, zj sn_51, zp (a0 + 9), zp (a0 + 10), zj nm_52, zj ar_53, zj (max pk_54 r_60), zj dn_55])) ov w' c s))))))) ∧ (r_12 = 2 → (∃ r_64 : Int, Zc sc 82 [zp a1, zj x2] w (some (zj r_64)) w 0 0 ∧ (∃ r_67 : Int, Zc sc 61 [zp a1, zj x2] w (some (zj r_67)) w 0 0 ∧ (∃ w_68 : List zE, Zc sc 88 [zp a0, zj r_64, zj r_67] w none w_68 0 0 ∧ (∃ wy_71 : Int, ∃ st_72 : Int, ∃ hd_73 : Int, ∃ hn_74 : Int, ∃ sn_75 : Int, ∃ nm_76 : Int, ∃ ar_77 : Int, ∃ pk_78 : Int, ∃ dn_79 : Int, w_68[a0]? = some (zob 1 [zp (a0 + 1), zp (a0 + 6), zj wy_71, zj st_72, zj hd_73, zj hn_74, zj sn_75, zp (a0 + 9), zp (a0 + 10), zj nm_76, zj ar_77, zj pk_78, zj dn_79]) ∧ (∃ fs_81 : List Value, w_68[(a0 + 1)]? = some (zob 0 fs_81) ∧ (∃ r_84 : Int, Zc sc 28 [zp (a0 + 1)] w_68 (some (zj r_84)) w_68 0 0 ∧ ((zrg pk_78 ∧ zrg r_84) ∧ Zr sc 57 5 [zp a0, zp a1, zj (x2 + 1)] [] (w_68.set a0 (zob 1 [zp (a0 + 1), zp (a0 + 6), zj wy_71, zj st_72, zj hd_73, zj hn_74, zj sn_75, zp (a0 + 9), zp (a0 + 10), zj nm_76, zj ar_77, zj (max pk_78 r_84), zj dn_79])) ov w' c s)))))))) ∧ (r_12 = 3 → ((Zc sc 96 [zp a0] w none w 0 0) ∧ (∃ fs_89 : List Value, w[(a0 + 1)]? = some (zob 0 fs_89) ∧ (∃ r_92 : Int, Zc sc 28 [zp (a0 + 1)] w (some (zj r_92)) w 0 0 ∧ ((zrg pk ∧ zrg r_92) ∧ Zr sc 57 5 [zp a0, zp a1, zj (x2 + 1)] [] (w.set a0 (zob 1 [zp (a0 + 1), zp (a0 + 6), zj wy, zj st, zj hd, zj hn, zj sn, zp (a0 + 9), zp (a0 + 10), zj nm, zj ar, zj (max pk r_92), zj dn])) ov w' c s))))) ∧ (r_12 = 4 → (∃ fs_95 : List Value, w[(a0 + 1)]? = some (zob 0 fs_95) ∧ (∃ r_98 : Int, Zc sc 28 [zp (a0 + 1)] (w.set a0 (zob 1 [zp (a0 + 1), zp (a0 + 6), zj wy, zj st, zj hd, zj hn, zj sn, zp (a0 + 9), zp (a0 + 10), zj nm, zj (ar + 1), zj pk, zj dn])) (some (zj r_98)) (w.set a0 (zob 1 [zp (a0 + 1), zp (a0 + 6), zj wy, zj st, zj hd, zj hn, zj sn, zp (a0 + 9), zp (a0 + 10), zj nm, zj (ar + 1), zj pk, zj dn])) 0 0 ∧ ((zrg pk ∧ zrg r_98) ∧ Zr sc 57 5 [zp a0, zp a1, zj (x2 + 1)] [] ((w.set a0 (zob 1 [zp (a0 + 1), zp (a0 + 6), zj wy, zj st, zj hd, zj hn, zj sn, zp (a0 + 9), zp (a0 + 10), zj nm, zj (ar + 1), zj pk, zj dn])).set a0 (zob 1 [zp (a0 + 1), zp (a0 + 6), zj wy, zj st, zj hd, zj hn, zj sn, zp (a0 + 9), zp (a0 + 10), zj nm, zj (ar + 1), zj (max pk r_98), zj dn])) ov w' c s)))) ∧ (r_12 = 5 → (∃ w_100 : List zE, Zc sc 97 [zp a0] w none w_100 0 0 ∧ (∃ wy_103 : Int, ∃ st_104 : Int, ∃ hd_105 : Int, ∃ hn_106 : Int, ∃ sn_107 : Int, ∃ nm_108 : Int, ∃ ar_109 : Int, ∃ pk_110 : Int, ∃ dn_111 : Int, w_100[a0]? = some (zob 1 [zp (a0 + 1), zp (a0 + 6), zj wy_103, zj st_104, zj hd_105, zj hn_106, zj sn_107, zp (a0 + 9), zp (a0 + 10), zj nm_108, zj ar_109, zj pk_110, zj dn_111]) ∧ (∃ fs_113 : List Value, w_100[(a0 + 1)]? = some (zob 0 fs_113) ∧ (∃ r_116 : Int, Zc sc 28 [zp (a0 + 1)] w_100 (some (zj r_116)) w_100 0 0 ∧ ((zrg pk_110 ∧ zrg r_116) ∧ Zr sc 57 5 [zp a0, zp a1, zj (x2 + 1)] [] (w_100.set a0 (zob 1 [zp (a0 + 1), zp (a0 + 6), zj wy_103, zj st_104, zj hd_105, zj hn_106, zj sn_107, zp (a0 + 9), zp (a0 + 10), zj nm_108, zj ar_109, zj (max pk_110 r_116), zj dn_111])) ov w' c s))))))))))))))) : Zr sc 57 5 [zp a0, zp a1, zj x2] [] w ov w' c s := by
  refine Zr_st (q := (6, [zp a0, zp a1, zj x2], [zj x2])) rfl rfl rfl ?_
  show Zr sc 57 6 [zp a0, zp a1, zj x2] [zj x2] w ov w' c s
  refine Zr_st (q := (7, [zp a0, zp a1, zj x2], [zp a1, zj x2])) rfl rfl rfl ?_
  show Zr sc 57 7 [zp a0, zp a1, zj x2] [zp a1, zj x2] w ov w' c s
  obtain ⟨fs_2, hl_1, h⟩ := h
  obtain ⟨r_5, hk_9, h⟩ := h
  refine rn_cal0 (ins := .invokevirtual 80) (rest := [zj x2]) rfl rfl rfl rfl (zinv_v (fs := _) hl_1 rfl rfl rfl rfl) rfl rfl hk_9 ?_
  show Zr sc 57 10 [zp a0, zp a1, zj x2] [zj r_5, zj x2] w ov w' c s
  obtain ⟨hr_6, h⟩ := h
  refine Zr_br (p := r_5 ≤ x2) rfl rfl (zcmp_j (cnd := .ge) hr_6.1 hr_6.2) (fun hp => ?_) (fun hp => ?_)
  · replace h := h.1 hp
    show Zr sc 57 148 [zp a0, zp a1, zj x2] [] w ov w' c s
    refine Zr_st (q := (149, [zp a0, zp a1, zj x2], [zp a0])) rfl rfl rfl ?_
    show Zr sc 57 149 [zp a0, zp a1, zj x2] [zp a0] w ov w' c s
    refine Zr_st (q := (150, [zp a0, zp a1, zj x2], [zp a1, zp a0])) rfl rfl rfl ?_
    show Zr sc 57 150 [zp a0, zp a1, zj x2] [zp a1, zp a0] w ov w' c s
    obtain ⟨r_9, hk_9, h⟩ := h
    refine rn_cal0 (ins := .invokevirtual 80) (rest := [zp a0]) rfl rfl rfl rfl (zinv_v (fs := _) hl_1 rfl rfl rfl rfl) rfl rfl hk_9 ?_
    show Zr sc 57 153 [zp a0, zp a1, zj x2] [zj r_9, zp a0] w ov w' c s
    refine rl_pf rfl L0 rfl rfl rfl ?_
    show Zr sc 57 156 [zp a0, zp a1, zj x2] [] (w.set a0 (zob 1 [zp (a0 + 1), zp (a0 + 6), zj wy, zj st, zj hd, zj hn, zj sn, zp (a0 + 9), zp (a0 + 10), zj nm, zj ar, zj pk, zj r_9])) ov w' c s
    refine Zr_st (q := (157, [zp a0, zp a1, zj x2], [zp a0])) rfl rfl rfl ?_
    show Zr sc 57 157 [zp a0, zp a1, zj x2] [zp a0] (w.set a0 (zob 1 [zp (a0 + 1), zp (a0 + 6), zj wy, zj st, zj hd, zj hn, zj sn, zp (a0 + 9), zp (a0 + 10), zj nm, zj ar, zj pk, zj r_9])) ov w' c s
    obtain ⟨h1, h2, h3, h4⟩ := h
    subst h1; subst h2; subst h3; subst h4
    exact Zr_ret (ins := .areturn) rfl rfl
  · replace h := h.2 hp
    show Zr sc 57 13 [zp a0, zp a1, zj x2] [] w ov w' c s
    refine Zr_st (q := (14, [zp a0, zp a1, zj x2], [zp a1])) rfl rfl rfl ?_
    show Zr sc 57 14 [zp a0, zp a1, zj x2] [zp a1] w ov w' c s
    refine Zr_st (q := (15, [zp a0, zp a1, zj x2], [zj x2, zp a1])) rfl rfl rfl ?_
    show Zr sc 57 15 [zp a0, zp a1, zj x2] [zj x2, zp a1] w ov w' c s
    obtain ⟨r_12, hk_9, h⟩ := h
    refine rn_cal0 (ins := .invokevirtual 86) (rest := []) rfl rfl rfl rfl (zinv_v (fs := _) hl_1 rfl rfl rfl rfl) rfl rfl hk_9 ?_
    show Zr sc 57 18 [zp a0, zp a1, zj x2] [zj r_12] w ov w' c s
    obtain ⟨hr_13, h⟩ := h
    have hsw : (r_12 < 0 ∨ 5 < r_12) ∨ r_12 = 0 ∨ r_12 = 1 ∨ r_12 = 2 ∨ r_12 = 3 ∨ r_12 = 4 ∨ r_12 = 5 := by omega
    rcases hsw with hp | hp | hp | hp | hp | hp | hp
    · replace h := h.1 hp
      refine rl_sw (t := 124) rfl hr_13 (zsw_d hp rfl) ?_
      show Zr sc 57 124 [zp a0, zp a1, zj x2] [] w ov w' c s
      refine Zr_st (q := (125, [zp a0, zp a1, zj x2], [zp a0])) rfl rfl rfl ?_
      show Zr sc 57 125 [zp a0, zp a1, zj x2] [zp a0] w ov w' c s
      refine Zr_st (q := (126, [zp a0, zp a1, zj x2], [zp a0, zp a0])) rfl rfl rfl ?_
      show Zr sc 57 126 [zp a0, zp a1, zj x2] [zp a0, zp a0] w ov w' c s
      refine rl_gf rfl L0 rfl rfl ?_
      show Zr sc 57 129 [zp a0, zp a1, zj x2] [zj pk, zp a0] w ov w' c s
      refine Zr_st (q := (130, [zp a0, zp a1, zj x2], [zp a0, zj pk, zp a0])) rfl rfl rfl ?_
      show Zr sc 57 130 [zp a0, zp a1, zj x2] [zp a0, zj pk, zp a0] w ov w' c s
      refine rl_gf rfl L0 rfl rfl ?_
      show Zr sc 57 133 [zp a0, zp a1, zj x2] [zp (a0 + 1), zj pk, zp a0] w ov w' c s
      obtain ⟨fs_15, hl_14, h⟩ := h
      obtain ⟨r_18, hk_9, h⟩ := h
      refine rn_cal0 (ins := .invokevirtual 110) (rest := [zj pk, zp a0]) rfl rfl rfl rfl (zinv_v (fs := _) hl_14 rfl rfl rfl rfl) rfl rfl hk_9 ?_
      show Zr sc 57 136 [zp a0, zp a1, zj x2] [zj r_18, zj pk, zp a0] w ov w' c s
      obtain ⟨hm_19, h⟩ := h
      refine Zr_mx (b := true) (ins := .invokestatic 113) (rest := [zp a0]) rfl rfl rfl rfl (zinv_t2 (rest := [zp a0]) rfl rfl rfl rfl rfl) rfl (zmx_j hm_19.1 hm_19.2) ?_
      show Zr sc 57 139 [zp a0, zp a1, zj x2] [zj (max pk r_18), zp a0] w ov w' c s
      refine rl_pf rfl L0 rfl rfl rfl ?_
      show Zr sc 57 142 [zp a0, zp a1, zj x2] [] (w.set a0 (zob 1 [zp (a0 + 1), zp (a0 + 6), zj wy, zj st, zj hd, zj hn, zj sn, zp (a0 + 9), zp (a0 + 10), zj nm, zj ar, zj (max pk r_18), zj dn])) ov w' c s
      refine rl_inc rfl rfl rfl rfl ?_
      show Zr sc 57 145 [zp a0, zp a1, zj (x2 + 1)] [] (w.set a0 (zob 1 [zp (a0 + 1), zp (a0 + 6), zj wy, zj st, zj hd, zj hn, zj sn, zp (a0 + 9), zp (a0 + 10), zj nm, zj ar, zj (max pk r_18), zj dn])) ov w' c s
      refine Zr_st (q := (5, [zp a0, zp a1, zj (x2 + 1)], [])) rfl rfl rfl ?_
      show Zr sc 57 5 [zp a0, zp a1, zj (x2 + 1)] [] (w.set a0 (zob 1 [zp (a0 + 1), zp (a0 + 6), zj wy, zj st, zj hd, zj hn, zj sn, zp (a0 + 9), zp (a0 + 10), zj nm, zj ar, zj (max pk r_18), zj dn])) ov w' c s
      exact h
    · replace h := h.2.1 hp
      refine rl_sw (t := 56) rfl hr_13 (by rw [hp]; rfl) ?_
      show Zr sc 57 56 [zp a0, zp a1, zj x2] [] w ov w' c s
      refine Zr_st (q := (57, [zp a0, zp a1, zj x2], [zp a0])) rfl rfl rfl ?_
      show Zr sc 57 57 [zp a0, zp a1, zj x2] [zp a0] w ov w' c s
      refine Zr_st (q := (58, [zp a0, zp a1, zj x2], [zp a1, zp a0])) rfl rfl rfl ?_
      show Zr sc 57 58 [zp a0, zp a1, zj x2] [zp a1, zp a0] w ov w' c s
      refine Zr_st (q := (59, [zp a0, zp a1, zj x2], [zj x2, zp a1, zp a0])) rfl rfl rfl ?_
      show Zr sc 57 59 [zp a0, zp a1, zj x2] [zj x2, zp a1, zp a0] w ov w' c s
      obtain ⟨r_22, hk_9, h⟩ := h
      refine rn_cal0 (ins := .invokevirtual 89) (rest := [zp a0]) rfl rfl rfl rfl (zinv_v (fs := _) hl_1 rfl rfl rfl rfl) rfl rfl hk_9 ?_
      show Zr sc 57 62 [zp a0, zp a1, zj x2] [zj r_22, zp a0] w ov w' c s
      obtain ⟨w_23, hk_24, h⟩ := h
      refine rn_cal0 (ins := .invokevirtual 90) (rest := []) rfl rfl rfl rfl (zinv_v (fs := _) L0 rfl rfl rfl rfl) rfl rfl hk_24 ?_
      show Zr sc 57 65 [zp a0, zp a1, zj x2] [] w_23 ov w' c s
      refine Zr_st (q := (124, [zp a0, zp a1, zj x2], [])) rfl rfl rfl ?_
      show Zr sc 57 124 [zp a0, zp a1, zj x2] [] w_23 ov w' c s
      refine Zr_st (q := (125, [zp a0, zp a1, zj x2], [zp a0])) rfl rfl rfl ?_
      show Zr sc 57 125 [zp a0, zp a1, zj x2] [zp a0] w_23 ov w' c s
      refine Zr_st (q := (126, [zp a0, zp a1, zj x2], [zp a0, zp a0])) rfl rfl rfl ?_
      show Zr sc 57 126 [zp a0, zp a1, zj x2] [zp a0, zp a0] w_23 ov w' c s
      obtain ⟨wy_26, st_27, hd_28, hn_29, sn_30, nm_31, ar_32, pk_33, dn_34, hw_25, h⟩ := h
      refine rl_gf rfl hw_25 rfl rfl ?_
      show Zr sc 57 129 [zp a0, zp a1, zj x2] [zj pk_33, zp a0] w_23 ov w' c s
      refine Zr_st (q := (130, [zp a0, zp a1, zj x2], [zp a0, zj pk_33, zp a0])) rfl rfl rfl ?_
      show Zr sc 57 130 [zp a0, zp a1, zj x2] [zp a0, zj pk_33, zp a0] w_23 ov w' c s
      refine rl_gf rfl hw_25 rfl rfl ?_
      show Zr sc 57 133 [zp a0, zp a1, zj x2] [zp (a0 + 1), zj pk_33, zp a0] w_23 ov w' c s
      obtain ⟨fs_36, hl_35, h⟩ := h
      obtain ⟨r_39, hk_9, h⟩ := h
      refine rn_cal0 (ins := .invokevirtual 110) (rest := [zj pk_33, zp a0]) rfl rfl rfl rfl (zinv_v (fs := _) hl_35 rfl rfl rfl rfl) rfl rfl hk_9 ?_
      show Zr sc 57 136 [zp a0, zp a1, zj x2] [zj r_39, zj pk_33, zp a0] w_23 ov w' c s
      obtain ⟨hm_40, h⟩ := h
      refine Zr_mx (b := true) (ins := .invokestatic 113) (rest := [zp a0]) rfl rfl rfl rfl (zinv_t2 (rest := [zp a0]) rfl rfl rfl rfl rfl) rfl (zmx_j hm_40.1 hm_40.2) ?_
      show Zr sc 57 139 [zp a0, zp a1, zj x2] [zj (max pk_33 r_39), zp a0] w_23 ov w' c s
      refine rl_pf rfl hw_25 rfl rfl rfl ?_
      show Zr sc 57 142 [zp a0, zp a1, zj x2] [] (w_23.set a0 (zob 1 [zp (a0 + 1), zp (a0 + 6), zj wy_26, zj st_27, zj hd_28, zj hn_29, zj sn_30, zp (a0 + 9), zp (a0 + 10), zj nm_31, zj ar_32, zj (max pk_33 r_39), zj dn_34])) ov w' c s
      refine rl_inc rfl rfl rfl rfl ?_
      show Zr sc 57 145 [zp a0, zp a1, zj (x2 + 1)] [] (w_23.set a0 (zob 1 [zp (a0 + 1), zp (a0 + 6), zj wy_26, zj st_27, zj hd_28, zj hn_29, zj sn_30, zp (a0 + 9), zp (a0 + 10), zj nm_31, zj ar_32, zj (max pk_33 r_39), zj dn_34])) ov w' c s
      refine Zr_st (q := (5, [zp a0, zp a1, zj (x2 + 1)], [])) rfl rfl rfl ?_
      show Zr sc 57 5 [zp a0, zp a1, zj (x2 + 1)] [] (w_23.set a0 (zob 1 [zp (a0 + 1), zp (a0 + 6), zj wy_26, zj st_27, zj hd_28, zj hn_29, zj sn_30, zp (a0 + 9), zp (a0 + 10), zj nm_31, zj ar_32, zj (max pk_33 r_39), zj dn_34])) ov w' c s
      exact h
    · replace h := h.2.2.1 hp
      refine rl_sw (t := 68) rfl hr_13 (by rw [hp]; rfl) ?_
      show Zr sc 57 68 [zp a0, zp a1, zj x2] [] w ov w' c s
      refine Zr_st (q := (69, [zp a0, zp a1, zj x2], [zp a0])) rfl rfl rfl ?_
      show Zr sc 57 69 [zp a0, zp a1, zj x2] [zp a0] w ov w' c s
      refine Zr_st (q := (70, [zp a0, zp a1, zj x2], [zp a1, zp a0])) rfl rfl rfl ?_
      show Zr sc 57 70 [zp a0, zp a1, zj x2] [zp a1, zp a0] w ov w' c s
      refine Zr_st (q := (71, [zp a0, zp a1, zj x2], [zj x2, zp a1, zp a0])) rfl rfl rfl ?_
      show Zr sc 57 71 [zp a0, zp a1, zj x2] [zj x2, zp a1, zp a0] w ov w' c s
      obtain ⟨r_43, hk_9, h⟩ := h
      refine rn_cal0 (ins := .invokevirtual 94) (rest := [zp a0]) rfl rfl rfl rfl (zinv_v (fs := _) hl_1 rfl rfl rfl rfl) rfl rfl hk_9 ?_
      show Zr sc 57 74 [zp a0, zp a1, zj x2] [zj r_43, zp a0] w ov w' c s
      obtain ⟨w_44, hk_45, h⟩ := h
      refine rn_cal0 (ins := .invokevirtual 97) (rest := []) rfl rfl rfl rfl (zinv_v (fs := _) L0 rfl rfl rfl rfl) rfl rfl hk_45 ?_
      show Zr sc 57 77 [zp a0, zp a1, zj x2] [] w_44 ov w' c s
      refine Zr_st (q := (124, [zp a0, zp a1, zj x2], [])) rfl rfl rfl ?_
      show Zr sc 57 124 [zp a0, zp a1, zj x2] [] w_44 ov w' c s
      refine Zr_st (q := (125, [zp a0, zp a1, zj x2], [zp a0])) rfl rfl rfl ?_
      show Zr sc 57 125 [zp a0, zp a1, zj x2] [zp a0] w_44 ov w' c s
      refine Zr_st (q := (126, [zp a0, zp a1, zj x2], [zp a0, zp a0])) rfl rfl rfl ?_
      show Zr sc 57 126 [zp a0, zp a1, zj x2] [zp a0, zp a0] w_44 ov w' c s
      obtain ⟨wy_47, st_48, hd_49, hn_50, sn_51, nm_52, ar_53, pk_54, dn_55, hw_46, h⟩ := h
      refine rl_gf rfl hw_46 rfl rfl ?_
      show Zr sc 57 129 [zp a0, zp a1, zj x2] [zj pk_54, zp a0] w_44 ov w' c s
      refine Zr_st (q := (130, [zp a0, zp a1, zj x2], [zp a0, zj pk_54, zp a0])) rfl rfl rfl ?_
      show Zr sc 57 130 [zp a0, zp a1, zj x2] [zp a0, zj pk_54, zp a0] w_44 ov w' c s
      refine rl_gf rfl hw_46 rfl rfl ?_
      show Zr sc 57 133 [zp a0, zp a1, zj x2] [zp (a0 + 1), zj pk_54, zp a0] w_44 ov w' c s
      obtain ⟨fs_57, hl_56, h⟩ := h
      obtain ⟨r_60, hk_9, h⟩ := h
      refine rn_cal0 (ins := .invokevirtual 110) (rest := [zj pk_54, zp a0]) rfl rfl rfl rfl (zinv_v (fs := _) hl_56 rfl rfl rfl rfl) rfl rfl hk_9 ?_
      show Zr sc 57 136 [zp a0, zp a1, zj x2] [zj r_60, zj pk_54, zp a0] w_44 ov w' c s
      obtain ⟨hm_61, h⟩ := h
      refine Zr_mx (b := true) (ins := .invokestatic 113) (rest := [zp a0]) rfl rfl rfl rfl (zinv_t2 (rest := [zp a0]) rfl rfl rfl rfl rfl) rfl (zmx_j hm_61.1 hm_61.2) ?_
      show Zr sc 57 139 [zp a0, zp a1, zj x2] [zj (max pk_54 r_60), zp a0] w_44 ov w' c s
      refine rl_pf rfl hw_46 rfl rfl rfl ?_
      show Zr sc 57 142 [zp a0, zp a1, zj x2] [] (w_44.set a0 (zob 1 [zp (a0 + 1), zp (a0 + 6), zj wy_47, zj st_48, zj hd_49, zj hn_50, zj sn_51, zp (a0 + 9), zp (a0 + 10), zj nm_52, zj ar_53, zj (max pk_54 r_60), zj dn_55])) ov w' c s
      refine rl_inc rfl rfl rfl rfl ?_
      show Zr sc 57 145 [zp a0, zp a1, zj (x2 + 1)] [] (w_44.set a0 (zob 1 [zp (a0 + 1), zp (a0 + 6), zj wy_47, zj st_48, zj hd_49, zj hn_50, zj sn_51, zp (a0 + 9), zp (a0 + 10), zj nm_52, zj ar_53, zj (max pk_54 r_60), zj dn_55])) ov w' c s
      refine Zr_st (q := (5, [zp a0, zp a1, zj (x2 + 1)], [])) rfl rfl rfl ?_
      show Zr sc 57 5 [zp a0, zp a1, zj (x2 + 1)] [] (w_44.set a0 (zob 1 [zp (a0 + 1), zp (a0 + 6), zj wy_47, zj st_48, zj hd_49, zj hn_50, zj sn_51, zp (a0 + 9), zp (a0 + 10), zj nm_52, zj ar_53, zj (max pk_54 r_60), zj dn_55])) ov w' c s
      exact h
    · replace h := h.2.2.2.1 hp
      refine rl_sw (t := 80) rfl hr_13 (by rw [hp]; rfl) ?_
      show Zr sc 57 80 [zp a0, zp a1, zj x2] [] w ov w' c s
      refine Zr_st (q := (81, [zp a0, zp a1, zj x2], [zp a0])) rfl rfl rfl ?_
      show Zr sc 57 81 [zp a0, zp a1, zj x2] [zp a0] w ov w' c s
      refine Zr_st (q := (82, [zp a0, zp a1, zj x2], [zp a1, zp a0])) rfl rfl rfl ?_
      show Zr sc 57 82 [zp a0, zp a1, zj x2] [zp a1, zp a0] w ov w' c s
      refine Zr_st (q := (83, [zp a0, zp a1, zj x2], [zj x2, zp a1, zp a0])) rfl rfl rfl ?_
      show Zr sc 57 83 [zp a0, zp a1, zj x2] [zj x2, zp a1, zp a0] w ov w' c s
      obtain ⟨r_64, hk_9, h⟩ := h
      refine rn_cal0 (ins := .invokevirtual 94) (rest := [zp a0]) rfl rfl rfl rfl (zinv_v (fs := _) hl_1 rfl rfl rfl rfl) rfl rfl hk_9 ?_
      show Zr sc 57 86 [zp a0, zp a1, zj x2] [zj r_64, zp a0] w ov w' c s
      refine Zr_st (q := (87, [zp a0, zp a1, zj x2], [zp a1, zj r_64, zp a0])) rfl rfl rfl ?_
      show Zr sc 57 87 [zp a0, zp a1, zj x2] [zp a1, zj r_64, zp a0] w ov w' c s
      refine Zr_st (q := (88, [zp a0, zp a1, zj x2], [zj x2, zp a1, zj r_64, zp a0])) rfl rfl rfl ?_
      show Zr sc 57 88 [zp a0, zp a1, zj x2] [zj x2, zp a1, zj r_64, zp a0] w ov w' c s
      obtain ⟨r_67, hk_9, h⟩ := h
      refine rn_cal0 (ins := .invokevirtual 89) (rest := [zj r_64, zp a0]) rfl rfl rfl rfl (zinv_v (fs := _) hl_1 rfl rfl rfl rfl) rfl rfl hk_9 ?_
      show Zr sc 57 91 [zp a0, zp a1, zj x2] [zj r_67, zj r_64, zp a0] w ov w' c s
      obtain ⟨w_68, hk_69, h⟩ := h
      refine rn_cal0 (ins := .invokevirtual 100) (rest := []) rfl rfl rfl rfl (zinv_v (fs := _) L0 rfl rfl rfl rfl) rfl rfl hk_69 ?_
      show Zr sc 57 94 [zp a0, zp a1, zj x2] [] w_68 ov w' c s
      refine Zr_st (q := (124, [zp a0, zp a1, zj x2], [])) rfl rfl rfl ?_
      show Zr sc 57 124 [zp a0, zp a1, zj x2] [] w_68 ov w' c s
      refine Zr_st (q := (125, [zp a0, zp a1, zj x2], [zp a0])) rfl rfl rfl ?_
      show Zr sc 57 125 [zp a0, zp a1, zj x2] [zp a0] w_68 ov w' c s
      refine Zr_st (q := (126, [zp a0, zp a1, zj x2], [zp a0, zp a0])) rfl rfl rfl ?_
      show Zr sc 57 126 [zp a0, zp a1, zj x2] [zp a0, zp a0] w_68 ov w' c s
      obtain ⟨wy_71, st_72, hd_73, hn_74, sn_75, nm_76, ar_77, pk_78, dn_79, hw_70, h⟩ := h
      refine rl_gf rfl hw_70 rfl rfl ?_
      show Zr sc 57 129 [zp a0, zp a1, zj x2] [zj pk_78, zp a0] w_68 ov w' c s
      refine Zr_st (q := (130, [zp a0, zp a1, zj x2], [zp a0, zj pk_78, zp a0])) rfl rfl rfl ?_
      show Zr sc 57 130 [zp a0, zp a1, zj x2] [zp a0, zj pk_78, zp a0] w_68 ov w' c s
      refine rl_gf rfl hw_70 rfl rfl ?_
      show Zr sc 57 133 [zp a0, zp a1, zj x2] [zp (a0 + 1), zj pk_78, zp a0] w_68 ov w' c s
      obtain ⟨fs_81, hl_80, h⟩ := h
      obtain ⟨r_84, hk_9, h⟩ := h
      refine rn_cal0 (ins := .invokevirtual 110) (rest := [zj pk_78, zp a0]) rfl rfl rfl rfl (zinv_v (fs := _) hl_80 rfl rfl rfl rfl) rfl rfl hk_9 ?_
      show Zr sc 57 136 [zp a0, zp a1, zj x2] [zj r_84, zj pk_78, zp a0] w_68 ov w' c s
      obtain ⟨hm_85, h⟩ := h
      refine Zr_mx (b := true) (ins := .invokestatic 113) (rest := [zp a0]) rfl rfl rfl rfl (zinv_t2 (rest := [zp a0]) rfl rfl rfl rfl rfl) rfl (zmx_j hm_85.1 hm_85.2) ?_
      show Zr sc 57 139 [zp a0, zp a1, zj x2] [zj (max pk_78 r_84), zp a0] w_68 ov w' c s
      refine rl_pf rfl hw_70 rfl rfl rfl ?_
      show Zr sc 57 142 [zp a0, zp a1, zj x2] [] (w_68.set a0 (zob 1 [zp (a0 + 1), zp (a0 + 6), zj wy_71, zj st_72, zj hd_73, zj hn_74, zj sn_75, zp (a0 + 9), zp (a0 + 10), zj nm_76, zj ar_77, zj (max pk_78 r_84), zj dn_79])) ov w' c s
      refine rl_inc rfl rfl rfl rfl ?_
      show Zr sc 57 145 [zp a0, zp a1, zj (x2 + 1)] [] (w_68.set a0 (zob 1 [zp (a0 + 1), zp (a0 + 6), zj wy_71, zj st_72, zj hd_73, zj hn_74, zj sn_75, zp (a0 + 9), zp (a0 + 10), zj nm_76, zj ar_77, zj (max pk_78 r_84), zj dn_79])) ov w' c s
      refine Zr_st (q := (5, [zp a0, zp a1, zj (x2 + 1)], [])) rfl rfl rfl ?_
      show Zr sc 57 5 [zp a0, zp a1, zj (x2 + 1)] [] (w_68.set a0 (zob 1 [zp (a0 + 1), zp (a0 + 6), zj wy_71, zj st_72, zj hd_73, zj hn_74, zj sn_75, zp (a0 + 9), zp (a0 + 10), zj nm_76, zj ar_77, zj (max pk_78 r_84), zj dn_79])) ov w' c s
      exact h
    · replace h := h.2.2.2.2.1 hp
      refine rl_sw (t := 97) rfl hr_13 (by rw [hp]; rfl) ?_
      show Zr sc 57 97 [zp a0, zp a1, zj x2] [] w ov w' c s
      refine Zr_st (q := (98, [zp a0, zp a1, zj x2], [zp a0])) rfl rfl rfl ?_
      show Zr sc 57 98 [zp a0, zp a1, zj x2] [zp a0] w ov w' c s
      obtain ⟨hk_9, h⟩ := h
      refine rn_cal0 (ins := .invokevirtual 104) (rest := []) rfl rfl rfl rfl (zinv_v (fs := _) L0 rfl rfl rfl rfl) rfl rfl hk_9 ?_
      show Zr sc 57 101 [zp a0, zp a1, zj x2] [] w ov w' c s
      refine Zr_st (q := (124, [zp a0, zp a1, zj x2], [])) rfl rfl rfl ?_
      show Zr sc 57 124 [zp a0, zp a1, zj x2] [] w ov w' c s
      refine Zr_st (q := (125, [zp a0, zp a1, zj x2], [zp a0])) rfl rfl rfl ?_
      show Zr sc 57 125 [zp a0, zp a1, zj x2] [zp a0] w ov w' c s
      refine Zr_st (q := (126, [zp a0, zp a1, zj x2], [zp a0, zp a0])) rfl rfl rfl ?_
      show Zr sc 57 126 [zp a0, zp a1, zj x2] [zp a0, zp a0] w ov w' c s
      refine rl_gf rfl L0 rfl rfl ?_
      show Zr sc 57 129 [zp a0, zp a1, zj x2] [zj pk, zp a0] w ov w' c s
      refine Zr_st (q := (130, [zp a0, zp a1, zj x2], [zp a0, zj pk, zp a0])) rfl rfl rfl ?_
      show Zr sc 57 130 [zp a0, zp a1, zj x2] [zp a0, zj pk, zp a0] w ov w' c s
      refine rl_gf rfl L0 rfl rfl ?_
      show Zr sc 57 133 [zp a0, zp a1, zj x2] [zp (a0 + 1), zj pk, zp a0] w ov w' c s
      obtain ⟨fs_89, hl_88, h⟩ := h
      obtain ⟨r_92, hk_9, h⟩ := h
      refine rn_cal0 (ins := .invokevirtual 110) (rest := [zj pk, zp a0]) rfl rfl rfl rfl (zinv_v (fs := _) hl_88 rfl rfl rfl rfl) rfl rfl hk_9 ?_
      show Zr sc 57 136 [zp a0, zp a1, zj x2] [zj r_92, zj pk, zp a0] w ov w' c s
      obtain ⟨hm_93, h⟩ := h
      refine Zr_mx (b := true) (ins := .invokestatic 113) (rest := [zp a0]) rfl rfl rfl rfl (zinv_t2 (rest := [zp a0]) rfl rfl rfl rfl rfl) rfl (zmx_j hm_93.1 hm_93.2) ?_
      show Zr sc 57 139 [zp a0, zp a1, zj x2] [zj (max pk r_92), zp a0] w ov w' c s
      refine rl_pf rfl L0 rfl rfl rfl ?_
      show Zr sc 57 142 [zp a0, zp a1, zj x2] [] (w.set a0 (zob 1 [zp (a0 + 1), zp (a0 + 6), zj wy, zj st, zj hd, zj hn, zj sn, zp (a0 + 9), zp (a0 + 10), zj nm, zj ar, zj (max pk r_92), zj dn])) ov w' c s
      refine rl_inc rfl rfl rfl rfl ?_
      show Zr sc 57 145 [zp a0, zp a1, zj (x2 + 1)] [] (w.set a0 (zob 1 [zp (a0 + 1), zp (a0 + 6), zj wy, zj st, zj hd, zj hn, zj sn, zp (a0 + 9), zp (a0 + 10), zj nm, zj ar, zj (max pk r_92), zj dn])) ov w' c s
      refine Zr_st (q := (5, [zp a0, zp a1, zj (x2 + 1)], [])) rfl rfl rfl ?_
      show Zr sc 57 5 [zp a0, zp a1, zj (x2 + 1)] [] (w.set a0 (zob 1 [zp (a0 + 1), zp (a0 + 6), zj wy, zj st, zj hd, zj hn, zj sn, zp (a0 + 9), zp (a0 + 10), zj nm, zj ar, zj (max pk r_92), zj dn])) ov w' c s
      exact h
    · replace h := h.2.2.2.2.2.1 hp
      refine rl_sw (t := 104) rfl hr_13 (by rw [hp]; rfl) ?_
      show Zr sc 57 104 [zp a0, zp a1, zj x2] [] w ov w' c s
      refine Zr_st (q := (105, [zp a0, zp a1, zj x2], [zp a0])) rfl rfl rfl ?_
      show Zr sc 57 105 [zp a0, zp a1, zj x2] [zp a0] w ov w' c s
      refine Zr_st (q := (106, [zp a0, zp a1, zj x2], [zp a0, zp a0])) rfl rfl rfl ?_
      show Zr sc 57 106 [zp a0, zp a1, zj x2] [zp a0, zp a0] w ov w' c s
      refine rl_gf rfl L0 rfl rfl ?_
      show Zr sc 57 109 [zp a0, zp a1, zj x2] [zj ar, zp a0] w ov w' c s
      refine rl_ic rfl ?_
      show Zr sc 57 110 [zp a0, zp a1, zj x2] [zj 1, zj ar, zp a0] w ov w' c s
      refine rl_add rfl ?_
      show Zr sc 57 111 [zp a0, zp a1, zj x2] [zj (ar + 1), zp a0] w ov w' c s
      refine rl_pf rfl L0 rfl rfl rfl ?_
      show Zr sc 57 114 [zp a0, zp a1, zj x2] [] (w.set a0 (zob 1 [zp (a0 + 1), zp (a0 + 6), zj wy, zj st, zj hd, zj hn, zj sn, zp (a0 + 9), zp (a0 + 10), zj nm, zj (ar + 1), zj pk, zj dn])) ov w' c s
      refine Zr_st (q := (124, [zp a0, zp a1, zj x2], [])) rfl rfl rfl ?_
      show Zr sc 57 124 [zp a0, zp a1, zj x2] [] (w.set a0 (zob 1 [zp (a0 + 1), zp (a0 + 6), zj wy, zj st, zj hd, zj hn, zj sn, zp (a0 + 9), zp (a0 + 10), zj nm, zj (ar + 1), zj pk, zj dn])) ov w' c s
      refine Zr_st (q := (125, [zp a0, zp a1, zj x2], [zp a0])) rfl rfl rfl ?_
      show Zr sc 57 125 [zp a0, zp a1, zj x2] [zp a0] (w.set a0 (zob 1 [zp (a0 + 1), zp (a0 + 6), zj wy, zj st, zj hd, zj hn, zj sn, zp (a0 + 9), zp (a0 + 10), zj nm, zj (ar + 1), zj pk, zj dn])) ov w' c s
      refine Zr_st (q := (126, [zp a0, zp a1, zj x2], [zp a0, zp a0])) rfl rfl rfl ?_
      show Zr sc 57 126 [zp a0, zp a1, zj x2] [zp a0, zp a0] (w.set a0 (zob 1 [zp (a0 + 1), zp (a0 + 6), zj wy, zj st, zj hd, zj hn, zj sn, zp (a0 + 9), zp (a0 + 10), zj nm, zj (ar + 1), zj pk, zj dn])) ov w' c s
      refine rl_gf rfl (zw_s L0) rfl rfl ?_
      show Zr sc 57 129 [zp a0, zp a1, zj x2] [zj pk, zp a0] (w.set a0 (zob 1 [zp (a0 + 1), zp (a0 + 6), zj wy, zj st, zj hd, zj hn, zj sn, zp (a0 + 9), zp (a0 + 10), zj nm, zj (ar + 1), zj pk, zj dn])) ov w' c s
      refine Zr_st (q := (130, [zp a0, zp a1, zj x2], [zp a0, zj pk, zp a0])) rfl rfl rfl ?_
      show Zr sc 57 130 [zp a0, zp a1, zj x2] [zp a0, zj pk, zp a0] (w.set a0 (zob 1 [zp (a0 + 1), zp (a0 + 6), zj wy, zj st, zj hd, zj hn, zj sn, zp (a0 + 9), zp (a0 + 10), zj nm, zj (ar + 1), zj pk, zj dn])) ov w' c s
      refine rl_gf rfl (zw_s L0) rfl rfl ?_
      show Zr sc 57 133 [zp a0, zp a1, zj x2] [zp (a0 + 1), zj pk, zp a0] (w.set a0 (zob 1 [zp (a0 + 1), zp (a0 + 6), zj wy, zj st, zj hd, zj hn, zj sn, zp (a0 + 9), zp (a0 + 10), zj nm, zj (ar + 1), zj pk, zj dn])) ov w' c s
      obtain ⟨fs_95, hl_94, h⟩ := h
      obtain ⟨r_98, hk_9, h⟩ := h
      refine rn_cal0 (ins := .invokevirtual 110) (rest := [zj pk, zp a0]) rfl rfl rfl rfl (zinv_v (fs := _) (zw_o (by omega) hl_94) rfl rfl rfl rfl) rfl rfl hk_9 ?_
      show Zr sc 57 136 [zp a0, zp a1, zj x2] [zj r_98, zj pk, zp a0] (w.set a0 (zob 1 [zp (a0 + 1), zp (a0 + 6), zj wy, zj st, zj hd, zj hn, zj sn, zp (a0 + 9), zp (a0 + 10), zj nm, zj (ar + 1), zj pk, zj dn])) ov w' c s
      obtain ⟨hm_99, h⟩ := h
      refine Zr_mx (b := true) (ins := .invokestatic 113) (rest := [zp a0]) rfl rfl rfl rfl (zinv_t2 (rest := [zp a0]) rfl rfl rfl rfl rfl) rfl (zmx_j hm_99.1 hm_99.2) ?_
      show Zr sc 57 139 [zp a0, zp a1, zj x2] [zj (max pk r_98), zp a0] (w.set a0 (zob 1 [zp (a0 + 1), zp (a0 + 6), zj wy, zj st, zj hd, zj hn, zj sn, zp (a0 + 9), zp (a0 + 10), zj nm, zj (ar + 1), zj pk, zj dn])) ov w' c s
      refine rl_pf rfl (zw_s L0) rfl rfl rfl ?_
      show Zr sc 57 142 [zp a0, zp a1, zj x2] [] ((w.set a0 (zob 1 [zp (a0 + 1), zp (a0 + 6), zj wy, zj st, zj hd, zj hn, zj sn, zp (a0 + 9), zp (a0 + 10), zj nm, zj (ar + 1), zj pk, zj dn])).set a0 (zob 1 [zp (a0 + 1), zp (a0 + 6), zj wy, zj st, zj hd, zj hn, zj sn, zp (a0 + 9), zp (a0 + 10), zj nm, zj (ar + 1), zj (max pk r_98), zj dn])) ov w' c s
      refine rl_inc rfl rfl rfl rfl ?_
      show Zr sc 57 145 [zp a0, zp a1, zj (x2 + 1)] [] ((w.set a0 (zob 1 [zp (a0 + 1), zp (a0 + 6), zj wy, zj st, zj hd, zj hn, zj sn, zp (a0 + 9), zp (a0 + 10), zj nm, zj (ar + 1), zj pk, zj dn])).set a0 (zob 1 [zp (a0 + 1), zp (a0 + 6), zj wy, zj st, zj hd, zj hn, zj sn, zp (a0 + 9), zp (a0 + 10), zj nm, zj (ar + 1), zj (max pk r_98), zj dn])) ov w' c s
      refine Zr_st (q := (5, [zp a0, zp a1, zj (x2 + 1)], [])) rfl rfl rfl ?_
      show Zr sc 57 5 [zp a0, zp a1, zj (x2 + 1)] [] ((w.set a0 (zob 1 [zp (a0 + 1), zp (a0 + 6), zj wy, zj st, zj hd, zj hn, zj sn, zp (a0 + 9), zp (a0 + 10), zj nm, zj (ar + 1), zj pk, zj dn])).set a0 (zob 1 [zp (a0 + 1), zp (a0 + 6), zj wy, zj st, zj hd, zj hn, zj sn, zp (a0 + 9), zp (a0 + 10), zj nm, zj (ar + 1), zj (max pk r_98), zj dn])) ov w' c s
      exact h
    · replace h := h.2.2.2.2.2.2 hp
      refine rl_sw (t := 117) rfl hr_13 (by rw [hp]; rfl) ?_
      show Zr sc 57 117 [zp a0, zp a1, zj x2] [] w ov w' c s
      refine Zr_st (q := (118, [zp a0, zp a1, zj x2], [zp a0])) rfl rfl rfl ?_
      show Zr sc 57 118 [zp a0, zp a1, zj x2] [zp a0] w ov w' c s
      obtain ⟨w_100, hk_101, h⟩ := h
      refine rn_cal0 (ins := .invokevirtual 107) (rest := []) rfl rfl rfl rfl (zinv_v (fs := _) L0 rfl rfl rfl rfl) rfl rfl hk_101 ?_
      show Zr sc 57 121 [zp a0, zp a1, zj x2] [] w_100 ov w' c s
      refine Zr_st (q := (124, [zp a0, zp a1, zj x2], [])) rfl rfl rfl ?_
      show Zr sc 57 124 [zp a0, zp a1, zj x2] [] w_100 ov w' c s
      refine Zr_st (q := (125, [zp a0, zp a1, zj x2], [zp a0])) rfl rfl rfl ?_
      show Zr sc 57 125 [zp a0, zp a1, zj x2] [zp a0] w_100 ov w' c s
      refine Zr_st (q := (126, [zp a0, zp a1, zj x2], [zp a0, zp a0])) rfl rfl rfl ?_
      show Zr sc 57 126 [zp a0, zp a1, zj x2] [zp a0, zp a0] w_100 ov w' c s
      obtain ⟨wy_103, st_104, hd_105, hn_106, sn_107, nm_108, ar_109, pk_110, dn_111, hw_102, h⟩ := h
      refine rl_gf rfl hw_102 rfl rfl ?_
      show Zr sc 57 129 [zp a0, zp a1, zj x2] [zj pk_110, zp a0] w_100 ov w' c s
      refine Zr_st (q := (130, [zp a0, zp a1, zj x2], [zp a0, zj pk_110, zp a0])) rfl rfl rfl ?_
      show Zr sc 57 130 [zp a0, zp a1, zj x2] [zp a0, zj pk_110, zp a0] w_100 ov w' c s
      refine rl_gf rfl hw_102 rfl rfl ?_
      show Zr sc 57 133 [zp a0, zp a1, zj x2] [zp (a0 + 1), zj pk_110, zp a0] w_100 ov w' c s
      obtain ⟨fs_113, hl_112, h⟩ := h
      obtain ⟨r_116, hk_9, h⟩ := h
      refine rn_cal0 (ins := .invokevirtual 110) (rest := [zj pk_110, zp a0]) rfl rfl rfl rfl (zinv_v (fs := _) hl_112 rfl rfl rfl rfl) rfl rfl hk_9 ?_
      show Zr sc 57 136 [zp a0, zp a1, zj x2] [zj r_116, zj pk_110, zp a0] w_100 ov w' c s
      obtain ⟨hm_117, h⟩ := h
      refine Zr_mx (b := true) (ins := .invokestatic 113) (rest := [zp a0]) rfl rfl rfl rfl (zinv_t2 (rest := [zp a0]) rfl rfl rfl rfl rfl) rfl (zmx_j hm_117.1 hm_117.2) ?_
      show Zr sc 57 139 [zp a0, zp a1, zj x2] [zj (max pk_110 r_116), zp a0] w_100 ov w' c s
      refine rl_pf rfl hw_102 rfl rfl rfl ?_
      show Zr sc 57 142 [zp a0, zp a1, zj x2] [] (w_100.set a0 (zob 1 [zp (a0 + 1), zp (a0 + 6), zj wy_103, zj st_104, zj hd_105, zj hn_106, zj sn_107, zp (a0 + 9), zp (a0 + 10), zj nm_108, zj ar_109, zj (max pk_110 r_116), zj dn_111])) ov w' c s
      refine rl_inc rfl rfl rfl rfl ?_
      show Zr sc 57 145 [zp a0, zp a1, zj (x2 + 1)] [] (w_100.set a0 (zob 1 [zp (a0 + 1), zp (a0 + 6), zj wy_103, zj st_104, zj hd_105, zj hn_106, zj sn_107, zp (a0 + 9), zp (a0 + 10), zj nm_108, zj ar_109, zj (max pk_110 r_116), zj dn_111])) ov w' c s
      refine Zr_st (q := (5, [zp a0, zp a1, zj (x2 + 1)], [])) rfl rfl rfl ?_
      show Zr sc 57 5 [zp a0, zp a1, zj (x2 + 1)] [] (w_100.set a0 (zob 1 [zp (a0 + 1), zp (a0 + 6), zj wy_103, zj st_104, zj hd_105, zj hn_106, zj sn_107, zp (a0 + 9), zp (a0 + 10), zj nm_108, zj ar_109, zj (max pk_110 r_116), zj dn_111])) ov w' c s
      exact h

-- HeapwrightLab$Memory.follow(LHeapwrightLab$Trace;)LHeapwrightLab$Memory;
set_option maxRecDepth 100000 in
theorem V57_0_2 {sc : List Value} {w w' : List zE} {ov : Option Value} {c s : Nat} {a0 : Nat} {a1 : Nat} {wy : Int} {st : Int} {hd : Int} {hn : Int} {sn : Int} {nm : Int} {ar : Int} {pk : Int} {dn : Int} (L0 : w[a0]? = some (zob 2 [zp (a0 + 1), zp (a0 + 6), zj wy, zj st, zj hd, zj hn, zj sn, zp (a0 + 9), zp (a0 + 10), zj nm, zj ar, zj pk, zj dn])) (h : Zr sc 57 5 [zp a0, zp a1, zj dn] [] w ov w' c s) : Zr sc 57 0 [zp a0, zp a1, zmk] [] w ov w' c s := by
  refine Zr_st (q := (1, [zp a0, zp a1, zmk], [zp a0])) rfl rfl rfl ?_
  show Zr sc 57 1 [zp a0, zp a1, zmk] [zp a0] w ov w' c s
  refine rl_gf rfl L0 rfl rfl ?_
  show Zr sc 57 4 [zp a0, zp a1, zmk] [zj dn] w ov w' c s
  refine Zr_st (q := (5, [zp a0, zp a1, zj dn], [])) rfl rfl rfl ?_
  show Zr sc 57 5 [zp a0, zp a1, zj dn] [] w ov w' c s
  exact h
set_option maxRecDepth 100000 in
theorem V57_5_2 {sc : List Value} {w w' : List zE} {ov : Option Value} {c s : Nat} {a0 : Nat} {a1 : Nat} {x2 : Int} {wy : Int} {st : Int} {hd : Int} {hn : Int} {sn : Int} {nm : Int} {ar : Int} {pk : Int} {dn : Int} (L0 : w[a0]? = some (zob 2 [zp (a0 + 1), zp (a0 + 6), zj wy, zj st, zj hd, zj hn, zj sn, zp (a0 + 9), zp (a0 + 10), zj nm, zj ar, zj pk, zj dn])) (h : (∃ fs_2 : List Value, w[a1]? = some (zob 5 fs_2) ∧ (∃ r_5 : Int, Zc sc 58 [zp a1] w (some (zj r_5)) w 0 0 ∧ ((zrg x2 ∧ zrg r_5) ∧ ((r_5 ≤ x2 → (∃ r_9 : Int, Zc sc 58 [zp a1] w (some (zj r_9)) w 0 0 ∧ (ov = some (zp a0) ∧ w' = (w.set a0 (zob 2 [zp (a0 + 1), zp (a0 + 6), zj wy, zj st, zj hd, zj hn, zj sn, zp (a0 + 9), zp (a0 + 10), zj nm, zj ar, zj pk, zj r_9])) ∧ c = 0 ∧ s = 0))) ∧ (¬ (r_5 ≤ x2) → (∃ r_12 : Int, Zc sc 59 [zp a1, zj x2] w (some (zj r_12)) w 0 0 ∧ ((zrg r_12) ∧ (((r_12 < 0 ∨ 5 < r_12) → (∃ fs_15 : List Value, w[(a0 + 1)]? = some (zob 0 fs_15) ∧ (∃ r_18 : Int, Zc sc 28 [zp (a0 + 1)] w (some (zj r_18)) w 0 0 ∧ ((zrg pk ∧ zrg r_18) ∧ Zr sc 57 5 [zp a0, zp a1, zj (x2 + 1)] [] (w.set a0 (zob 2 [zp (a0 + 1), zp (a0 + 6), zj wy, zj st, zj hd, zj hn, zj sn, zp (a0 + 9), zp (a0 + 10), zj nm, zj ar, zj (max pk r_18), zj dn])) ov w' c s)))) ∧ (r_12 = 0 → (∃ r_22 : Int, Zc sc 61 [zp a1, zj x2] w (some (zj r_22)) w 0 0 ∧ (∃ w_23 : List zE, Zc sc 62 [zp a0, zj r_22] w none w_23 0 0 ∧ (∃ wy_26 : Int, ∃ st_27 : Int, ∃ hd_28 : Int, ∃ hn_29 : Int, ∃ sn_30 : Int, ∃ nm_31 : Int, ∃ ar_32 : Int, ∃ pk_33 : Int, ∃ dn_34 : Int, w_23[a0]? = some (zob 2 [zp (a0 + 1), zp (a0 + 6), zj wy_26, zj st_27, zj hd_28, zj hn_29, zj sn_30, zp (a0 + 9), zp (a0 + 10), zj nm_31, zj ar_32, zj pk_33, zj dn_34]) ∧ (∃ fs_36 : List Value, w_23[(a0 + 1)]? = some (zob 0 fs_36) ∧ (∃ r_39 : Int, Zc sc 28 [zp (a0 + 1)] w_23 (some (zj r_39)) w_23 0 0 ∧ ((zrg pk_33 ∧ zrg r_39) ∧ Zr sc 57 5 [zp a0, zp a1, zj (x2 + 1)] [] (w_23.set a0 (zob 2 [zp (a0 + 1), zp (a0 + 6), zj wy_26, zj st_27, zj hd_28, zj hn_29, zj sn_30, zp (a0 + 9), zp (a0 + 10), zj nm_31, zj ar_32, zj (max pk_33 r_39), zj dn_34])) ov w' c s))))))) ∧ (r_12 = 1 → (∃ r_43 : Int, Zc sc 82 [zp a1, zj x2] w (some (zj r_43)) w 0 0 ∧ (∃ w_44 : List zE, Zc sc 83 [zp a0, zj r_43] w none w_44 0 0 ∧ (∃ wy_47 : Int, ∃ st_48 : Int, ∃ hd_49 : Int, ∃ hn_50 : Int, ∃ sn_51 : Int, ∃ nm_52 : Int, ∃ ar_53 : Int, ∃ pk_54 : Int, ∃ dn_55 : Int, w_44[a0]? = some (zob 2 [zp (a0 + 1), zp (a0 + 6), zj wy_47, zj st_48, zj hd_49, zj hn_50, zj sn_51, zp (a0 + 9), zp (a0 + 10), zj nm_52, zj ar_53, zj pk_54, zj dn_55]) ∧ (∃ fs_57 : List Value, w_44[(a0 + 1)]? = some (zob 0 fs_57) ∧ (∃ r_60 : Int, Zc sc 28 [zp (a0 + 1)] w_44 (some (zj r_60)) w_44 0 0 ∧ ((zrg pk_54 ∧ zrg r_60) ∧ Zr sc 57 5 [zp a0, zp a1, zj (x2 + 1)] [] (w_44.set a0 (zob 2 [zp (a0 + 1), zp (a0 + 6), zj wy_47, zj st_48, zj hd_49, zj hn_50, zj sn_51, zp (a0 + 9), zp (a0 + 10), zj nm_52, zj ar_53, zj (max pk_54 r_60), zj dn_55])) ov w' c s))))))) ∧ (r_12 = 2 → (∃ r_64 : Int, Zc sc 82 [zp a1, zj x2] w (some (zj r_64)) w 0 0 ∧ (∃ r_67 : Int, Zc sc 61 [zp a1, zj x2] w (some (zj r_67)) w 0 0 ∧ (∃ w_68 : List zE, Zc sc 88 [zp a0, zj r_64, zj r_67] w none w_68 0 0 ∧ (∃ wy_71 : Int, ∃ st_72 : Int, ∃ hd_73 : Int, ∃ hn_74 : Int, ∃ sn_75 : Int, ∃ nm_76 : Int, ∃ ar_77 : Int, ∃ pk_78 : Int, ∃ dn_79 : Int, w_68[a0]? = some (zob 2 [zp (a0 + 1), zp (a0 + 6), zj wy_71, zj st_72, zj hd_73, zj hn_74, zj sn_75, zp (a0 + 9), zp (a0 + 10), zj nm_76, zj ar_77, zj pk_78, zj dn_79]) ∧ (∃ fs_81 : List Value, w_68[(a0 + 1)]? = some (zob 0 fs_81) ∧ (∃ r_84 : Int, Zc sc 28 [zp (a0 + 1)] w_68 (some (zj r_84)) w_68 0 0 ∧ ((zrg pk_78 ∧ zrg r_84) ∧ Zr sc 57 5 [zp a0, zp a1, zj (x2 + 1)] [] (w_68.set a0 (zob 2 [zp (a0 + 1), zp (a0 + 6), zj wy_71, zj st_72, zj hd_73, zj hn_74, zj sn_75, zp (a0 + 9), zp (a0 + 10), zj nm_76, zj ar_77, zj (max pk_78 r_84), zj dn_79])) ov w' c s)))))))) ∧ (r_12 = 3 → (∃ w_86 : List zE, Zc sc 94 [zp a0] w none w_86 0 0 ∧ (∃ wy_89 : Int, ∃ st_90 : Int, ∃ hd_91 : Int, ∃ hn_92 : Int, ∃ sn_93 : Int, ∃ nm_94 : Int, ∃ ar_95 : Int, ∃ pk_96 : Int, ∃ dn_97 : Int, w_86[a0]? = some (zob 2 [zp (a0 + 1), zp (a0 + 6), zj wy_89, zj st_90, zj hd_91, zj hn_92, zj sn_93, zp (a0 + 9), zp (a0 + 10), zj nm_94, zj ar_95, zj pk_96, zj dn_97]) ∧ (∃ fs_99 : List Value, w_86[(a0 + 1)]? = some (zob 0 fs_99) ∧ (∃ r_102 : Int, Zc sc 28 [zp (a0 + 1)] w_86 (some (zj r_102)) w_86 0 0 ∧ ((zrg pk_96 ∧ zrg r_102) ∧ Zr sc 57 5 [zp a0, zp a1, zj (x2 + 1)] [] (w_86.set a0 (zob 2 [zp (a0 + 1), zp (a0 + 6), zj wy_89, zj st_90, zj hd_91, zj hn_92, zj sn_93, zp (a0 + 9), zp (a0 + 10), zj nm_94, zj ar_95, zj (max pk_96 r_102), zj dn_97])) ov w' c s)))))) ∧ (r_12 = 4 → (∃ fs_105 : List Value, w[(a0 + 1)]? = some (zob 0 fs_105) ∧ (∃ r_108 : Int, Zc sc 28 [zp (a0 + 1)] (w.set a0 (zob 2 [zp (a0 + 1), zp (a0 + 6), zj wy, zj st, zj hd, zj hn, zj sn, zp (a0 + 9), zp (a0 + 10), zj nm, zj (ar + 1), zj pk, zj dn])) (some (zj r_108)) (w.set a0 (zob 2 [zp (a0 + 1), zp (a0 + 6), zj wy, zj st, zj hd, zj hn, zj sn, zp (a0 + 9), zp (a0 + 10), zj nm, zj (ar + 1), zj pk, zj dn])) 0 0 ∧ ((zrg pk ∧ zrg r_108) ∧ Zr sc 57 5 [zp a0, zp a1, zj (x2 + 1)] [] ((w.set a0 (zob 2 [zp (a0 + 1), zp (a0 + 6), zj wy, zj st, zj hd, zj hn, zj sn, zp (a0 + 9), zp (a0 + 10), zj nm, zj (ar + 1), zj pk, zj dn])).set a0 (zob 2 [zp (a0 + 1), zp (a0 + 6), zj wy, zj st, zj hd, zj hn, zj sn, zp (a0 + 9), zp (a0 + 10), zj nm, zj (ar + 1), zj (max pk r_108), zj dn])) ov w' c s)))) ∧ (r_12 = 5 → (∃ w_110 : List zE, Zc sc 97 [zp a0] w none w_110 0 0 ∧ (∃ wy_113 : Int, ∃ st_114 : Int, ∃ hd_115 : Int, ∃ hn_116 : Int, ∃ sn_117 : Int, ∃ nm_118 : Int, ∃ ar_119 : Int, ∃ pk_120 : Int, ∃ dn_121 : Int, w_110[a0]? = some (zob 2 [zp (a0 + 1), zp (a0 + 6), zj wy_113, zj st_114, zj hd_115, zj hn_116, zj sn_117, zp (a0 + 9), zp (a0 + 10), zj nm_118, zj ar_119, zj pk_120, zj dn_121]) ∧ (∃ fs_123 : List Value, w_110[(a0 + 1)]? = some (zob 0 fs_123) ∧ (∃ r_126 : Int, Zc sc 28 [zp (a0 + 1)] w_110 (some (zj r_126)) w_110 0 0 ∧ ((zrg pk_120 ∧ zrg r_126) ∧ Zr sc 57 5 [zp a0, zp a1, zj (x2 + 1)] [] (w_110.set a0 (zob 2 [zp (a0 + 1), zp (a0 + 6), zj wy_113, zj st_114, zj hd_115, zj hn_116, zj sn_117, zp (a0 + 9), zp (a0 + 10), zj nm_118, zj ar_119, zj (max pk_120 r_126), zj dn_121])) ov w' c s))))))))))))))) : Zr sc 57 5 [zp a0, zp a1, zj x2] [] w ov w' c s := by
  refine Zr_st (q := (6, [zp a0, zp a1, zj x2], [zj x2])) rfl rfl rfl ?_
  show Zr sc 57 6 [zp a0, zp a1, zj x2] [zj x2] w ov w' c s
  refine Zr_st (q := (7, [zp a0, zp a1, zj x2], [zp a1, zj x2])) rfl rfl rfl ?_
  show Zr sc 57 7 [zp a0, zp a1, zj x2] [zp a1, zj x2] w ov w' c s
  obtain ⟨fs_2, hl_1, h⟩ := h
  obtain ⟨r_5, hk_9, h⟩ := h
  refine rn_cal0 (ins := .invokevirtual 80) (rest := [zj x2]) rfl rfl rfl rfl (zinv_v (fs := _) hl_1 rfl rfl rfl rfl) rfl rfl hk_9 ?_
  show Zr sc 57 10 [zp a0, zp a1, zj x2] [zj r_5, zj x2] w ov w' c s
  obtain ⟨hr_6, h⟩ := h
  refine Zr_br (p := r_5 ≤ x2) rfl rfl (zcmp_j (cnd := .ge) hr_6.1 hr_6.2) (fun hp => ?_) (fun hp => ?_)
  · replace h := h.1 hp
    show Zr sc 57 148 [zp a0, zp a1, zj x2] [] w ov w' c s
    refine Zr_st (q := (149, [zp a0, zp a1, zj x2], [zp a0])) rfl rfl rfl ?_
    show Zr sc 57 149 [zp a0, zp a1, zj x2] [zp a0] w ov w' c s
    refine Zr_st (q := (150, [zp a0, zp a1, zj x2], [zp a1, zp a0])) rfl rfl rfl ?_
    show Zr sc 57 150 [zp a0, zp a1, zj x2] [zp a1, zp a0] w ov w' c s
    obtain ⟨r_9, hk_9, h⟩ := h
    refine rn_cal0 (ins := .invokevirtual 80) (rest := [zp a0]) rfl rfl rfl rfl (zinv_v (fs := _) hl_1 rfl rfl rfl rfl) rfl rfl hk_9 ?_
    show Zr sc 57 153 [zp a0, zp a1, zj x2] [zj r_9, zp a0] w ov w' c s
    refine rl_pf rfl L0 rfl rfl rfl ?_
    show Zr sc 57 156 [zp a0, zp a1, zj x2] [] (w.set a0 (zob 2 [zp (a0 + 1), zp (a0 + 6), zj wy, zj st, zj hd, zj hn, zj sn, zp (a0 + 9), zp (a0 + 10), zj nm, zj ar, zj pk, zj r_9])) ov w' c s
    refine Zr_st (q := (157, [zp a0, zp a1, zj x2], [zp a0])) rfl rfl rfl ?_
    show Zr sc 57 157 [zp a0, zp a1, zj x2] [zp a0] (w.set a0 (zob 2 [zp (a0 + 1), zp (a0 + 6), zj wy, zj st, zj hd, zj hn, zj sn, zp (a0 + 9), zp (a0 + 10), zj nm, zj ar, zj pk, zj r_9])) ov w' c s
    obtain ⟨h1, h2, h3, h4⟩ := h
    subst h1; subst h2; subst h3; subst h4
    exact Zr_ret (ins := .areturn) rfl rfl
  · replace h := h.2 hp
    show Zr sc 57 13 [zp a0, zp a1, zj x2] [] w ov w' c s
    refine Zr_st (q := (14, [zp a0, zp a1, zj x2], [zp a1])) rfl rfl rfl ?_
    show Zr sc 57 14 [zp a0, zp a1, zj x2] [zp a1] w ov w' c s
    refine Zr_st (q := (15, [zp a0, zp a1, zj x2], [zj x2, zp a1])) rfl rfl rfl ?_
    show Zr sc 57 15 [zp a0, zp a1, zj x2] [zj x2, zp a1] w ov w' c s
    obtain ⟨r_12, hk_9, h⟩ := h
    refine rn_cal0 (ins := .invokevirtual 86) (rest := []) rfl rfl rfl rfl (zinv_v (fs := _) hl_1 rfl rfl rfl rfl) rfl rfl hk_9 ?_
    show Zr sc 57 18 [zp a0, zp a1, zj x2] [zj r_12] w ov w' c s
    obtain ⟨hr_13, h⟩ := h
    have hsw : (r_12 < 0 ∨ 5 < r_12) ∨ r_12 = 0 ∨ r_12 = 1 ∨ r_12 = 2 ∨ r_12 = 3 ∨ r_12 = 4 ∨ r_12 = 5 := by omega
    rcases hsw with hp | hp | hp | hp | hp | hp | hp
    · replace h := h.1 hp
      refine rl_sw (t := 124) rfl hr_13 (zsw_d hp rfl) ?_
      show Zr sc 57 124 [zp a0, zp a1, zj x2] [] w ov w' c s
      refine Zr_st (q := (125, [zp a0, zp a1, zj x2], [zp a0])) rfl rfl rfl ?_
      show Zr sc 57 125 [zp a0, zp a1, zj x2] [zp a0] w ov w' c s
      refine Zr_st (q := (126, [zp a0, zp a1, zj x2], [zp a0, zp a0])) rfl rfl rfl ?_
      show Zr sc 57 126 [zp a0, zp a1, zj x2] [zp a0, zp a0] w ov w' c s
      refine rl_gf rfl L0 rfl rfl ?_
      show Zr sc 57 129 [zp a0, zp a1, zj x2] [zj pk, zp a0] w ov w' c s
      refine Zr_st (q := (130, [zp a0, zp a1, zj x2], [zp a0, zj pk, zp a0])) rfl rfl rfl ?_
      show Zr sc 57 130 [zp a0, zp a1, zj x2] [zp a0, zj pk, zp a0] w ov w' c s
      refine rl_gf rfl L0 rfl rfl ?_
      show Zr sc 57 133 [zp a0, zp a1, zj x2] [zp (a0 + 1), zj pk, zp a0] w ov w' c s
      obtain ⟨fs_15, hl_14, h⟩ := h
      obtain ⟨r_18, hk_9, h⟩ := h
      refine rn_cal0 (ins := .invokevirtual 110) (rest := [zj pk, zp a0]) rfl rfl rfl rfl (zinv_v (fs := _) hl_14 rfl rfl rfl rfl) rfl rfl hk_9 ?_
      show Zr sc 57 136 [zp a0, zp a1, zj x2] [zj r_18, zj pk, zp a0] w ov w' c s
      obtain ⟨hm_19, h⟩ := h
      refine Zr_mx (b := true) (ins := .invokestatic 113) (rest := [zp a0]) rfl rfl rfl rfl (zinv_t2 (rest := [zp a0]) rfl rfl rfl rfl rfl) rfl (zmx_j hm_19.1 hm_19.2) ?_
      show Zr sc 57 139 [zp a0, zp a1, zj x2] [zj (max pk r_18), zp a0] w ov w' c s
      refine rl_pf rfl L0 rfl rfl rfl ?_
      show Zr sc 57 142 [zp a0, zp a1, zj x2] [] (w.set a0 (zob 2 [zp (a0 + 1), zp (a0 + 6), zj wy, zj st, zj hd, zj hn, zj sn, zp (a0 + 9), zp (a0 + 10), zj nm, zj ar, zj (max pk r_18), zj dn])) ov w' c s
      refine rl_inc rfl rfl rfl rfl ?_
      show Zr sc 57 145 [zp a0, zp a1, zj (x2 + 1)] [] (w.set a0 (zob 2 [zp (a0 + 1), zp (a0 + 6), zj wy, zj st, zj hd, zj hn, zj sn, zp (a0 + 9), zp (a0 + 10), zj nm, zj ar, zj (max pk r_18), zj dn])) ov w' c s
      refine Zr_st (q := (5, [zp a0, zp a1, zj (x2 + 1)], [])) rfl rfl rfl ?_
      show Zr sc 57 5 [zp a0, zp a1, zj (x2 + 1)] [] (w.set a0 (zob 2 [zp (a0 + 1), zp (a0 + 6), zj wy, zj st, zj hd, zj hn, zj sn, zp (a0 + 9), zp (a0 + 10), zj nm, zj ar, zj (max pk r_18), zj dn])) ov w' c s
      exact h
    · replace h := h.2.1 hp
      refine rl_sw (t := 56) rfl hr_13 (by rw [hp]; rfl) ?_
      show Zr sc 57 56 [zp a0, zp a1, zj x2] [] w ov w' c s
      refine Zr_st (q := (57, [zp a0, zp a1, zj x2], [zp a0])) rfl rfl rfl ?_
      show Zr sc 57 57 [zp a0, zp a1, zj x2] [zp a0] w ov w' c s
      refine Zr_st (q := (58, [zp a0, zp a1, zj x2], [zp a1, zp a0])) rfl rfl rfl ?_
      show Zr sc 57 58 [zp a0, zp a1, zj x2] [zp a1, zp a0] w ov w' c s
      refine Zr_st (q := (59, [zp a0, zp a1, zj x2], [zj x2, zp a1, zp a0])) rfl rfl rfl ?_
      show Zr sc 57 59 [zp a0, zp a1, zj x2] [zj x2, zp a1, zp a0] w ov w' c s
      obtain ⟨r_22, hk_9, h⟩ := h
      refine rn_cal0 (ins := .invokevirtual 89) (rest := [zp a0]) rfl rfl rfl rfl (zinv_v (fs := _) hl_1 rfl rfl rfl rfl) rfl rfl hk_9 ?_
      show Zr sc 57 62 [zp a0, zp a1, zj x2] [zj r_22, zp a0] w ov w' c s
      obtain ⟨w_23, hk_24, h⟩ := h
      refine rn_cal0 (ins := .invokevirtual 90) (rest := []) rfl rfl rfl rfl (zinv_v (fs := _) L0 rfl rfl rfl rfl) rfl rfl hk_24 ?_
      show Zr sc 57 65 [zp a0, zp a1, zj x2] [] w_23 ov w' c s
      refine Zr_st (q := (124, [zp a0, zp a1, zj x2], [])) rfl rfl rfl ?_
      show Zr sc 57 124 [zp a0, zp a1, zj x2] [] w_23 ov w' c s
      refine Zr_st (q := (125, [zp a0, zp a1, zj x2], [zp a0])) rfl rfl rfl ?_
      show Zr sc 57 125 [zp a0, zp a1, zj x2] [zp a0] w_23 ov w' c s
      refine Zr_st (q := (126, [zp a0, zp a1, zj x2], [zp a0, zp a0])) rfl rfl rfl ?_
      show Zr sc 57 126 [zp a0, zp a1, zj x2] [zp a0, zp a0] w_23 ov w' c s
      obtain ⟨wy_26, st_27, hd_28, hn_29, sn_30, nm_31, ar_32, pk_33, dn_34, hw_25, h⟩ := h
      refine rl_gf rfl hw_25 rfl rfl ?_
      show Zr sc 57 129 [zp a0, zp a1, zj x2] [zj pk_33, zp a0] w_23 ov w' c s
      refine Zr_st (q := (130, [zp a0, zp a1, zj x2], [zp a0, zj pk_33, zp a0])) rfl rfl rfl ?_
      show Zr sc 57 130 [zp a0, zp a1, zj x2] [zp a0, zj pk_33, zp a0] w_23 ov w' c s
      refine rl_gf rfl hw_25 rfl rfl ?_
      show Zr sc 57 133 [zp a0, zp a1, zj x2] [zp (a0 + 1), zj pk_33, zp a0] w_23 ov w' c s
      obtain ⟨fs_36, hl_35, h⟩ := h
      obtain ⟨r_39, hk_9, h⟩ := h
      refine rn_cal0 (ins := .invokevirtual 110) (rest := [zj pk_33, zp a0]) rfl rfl rfl rfl (zinv_v (fs := _) hl_35 rfl rfl rfl rfl) rfl rfl hk_9 ?_
      show Zr sc 57 136 [zp a0, zp a1, zj x2] [zj r_39, zj pk_33, zp a0] w_23 ov w' c s
      obtain ⟨hm_40, h⟩ := h
      refine Zr_mx (b := true) (ins := .invokestatic 113) (rest := [zp a0]) rfl rfl rfl rfl (zinv_t2 (rest := [zp a0]) rfl rfl rfl rfl rfl) rfl (zmx_j hm_40.1 hm_40.2) ?_
      show Zr sc 57 139 [zp a0, zp a1, zj x2] [zj (max pk_33 r_39), zp a0] w_23 ov w' c s
      refine rl_pf rfl hw_25 rfl rfl rfl ?_
      show Zr sc 57 142 [zp a0, zp a1, zj x2] [] (w_23.set a0 (zob 2 [zp (a0 + 1), zp (a0 + 6), zj wy_26, zj st_27, zj hd_28, zj hn_29, zj sn_30, zp (a0 + 9), zp (a0 + 10), zj nm_31, zj ar_32, zj (max pk_33 r_39), zj dn_34])) ov w' c s
      refine rl_inc rfl rfl rfl rfl ?_
      show Zr sc 57 145 [zp a0, zp a1, zj (x2 + 1)] [] (w_23.set a0 (zob 2 [zp (a0 + 1), zp (a0 + 6), zj wy_26, zj st_27, zj hd_28, zj hn_29, zj sn_30, zp (a0 + 9), zp (a0 + 10), zj nm_31, zj ar_32, zj (max pk_33 r_39), zj dn_34])) ov w' c s
      refine Zr_st (q := (5, [zp a0, zp a1, zj (x2 + 1)], [])) rfl rfl rfl ?_
      show Zr sc 57 5 [zp a0, zp a1, zj (x2 + 1)] [] (w_23.set a0 (zob 2 [zp (a0 + 1), zp (a0 + 6), zj wy_26, zj st_27, zj hd_28, zj hn_29, zj sn_30, zp (a0 + 9), zp (a0 + 10), zj nm_31, zj ar_32, zj (max pk_33 r_39), zj dn_34])) ov w' c s
      exact h
    · replace h := h.2.2.1 hp
      refine rl_sw (t := 68) rfl hr_13 (by rw [hp]; rfl) ?_
      show Zr sc 57 68 [zp a0, zp a1, zj x2] [] w ov w' c s
      refine Zr_st (q := (69, [zp a0, zp a1, zj x2], [zp a0])) rfl rfl rfl ?_
      show Zr sc 57 69 [zp a0, zp a1, zj x2] [zp a0] w ov w' c s
      refine Zr_st (q := (70, [zp a0, zp a1, zj x2], [zp a1, zp a0])) rfl rfl rfl ?_
      show Zr sc 57 70 [zp a0, zp a1, zj x2] [zp a1, zp a0] w ov w' c s
      refine Zr_st (q := (71, [zp a0, zp a1, zj x2], [zj x2, zp a1, zp a0])) rfl rfl rfl ?_
      show Zr sc 57 71 [zp a0, zp a1, zj x2] [zj x2, zp a1, zp a0] w ov w' c s
      obtain ⟨r_43, hk_9, h⟩ := h
      refine rn_cal0 (ins := .invokevirtual 94) (rest := [zp a0]) rfl rfl rfl rfl (zinv_v (fs := _) hl_1 rfl rfl rfl rfl) rfl rfl hk_9 ?_
      show Zr sc 57 74 [zp a0, zp a1, zj x2] [zj r_43, zp a0] w ov w' c s
      obtain ⟨w_44, hk_45, h⟩ := h
      refine rn_cal0 (ins := .invokevirtual 97) (rest := []) rfl rfl rfl rfl (zinv_v (fs := _) L0 rfl rfl rfl rfl) rfl rfl hk_45 ?_
      show Zr sc 57 77 [zp a0, zp a1, zj x2] [] w_44 ov w' c s
      refine Zr_st (q := (124, [zp a0, zp a1, zj x2], [])) rfl rfl rfl ?_
      show Zr sc 57 124 [zp a0, zp a1, zj x2] [] w_44 ov w' c s
      refine Zr_st (q := (125, [zp a0, zp a1, zj x2], [zp a0])) rfl rfl rfl ?_
      show Zr sc 57 125 [zp a0, zp a1, zj x2] [zp a0] w_44 ov w' c s
      refine Zr_st (q := (126, [zp a0, zp a1, zj x2], [zp a0, zp a0])) rfl rfl rfl ?_
      show Zr sc 57 126 [zp a0, zp a1, zj x2] [zp a0, zp a0] w_44 ov w' c s
      obtain ⟨wy_47, st_48, hd_49, hn_50, sn_51, nm_52, ar_53, pk_54, dn_55, hw_46, h⟩ := h
      refine rl_gf rfl hw_46 rfl rfl ?_
      show Zr sc 57 129 [zp a0, zp a1, zj x2] [zj pk_54, zp a0] w_44 ov w' c s
      refine Zr_st (q := (130, [zp a0, zp a1, zj x2], [zp a0, zj pk_54, zp a0])) rfl rfl rfl ?_
      show Zr sc 57 130 [zp a0, zp a1, zj x2] [zp a0, zj pk_54, zp a0] w_44 ov w' c s
      refine rl_gf rfl hw_46 rfl rfl ?_
      show Zr sc 57 133 [zp a0, zp a1, zj x2] [zp (a0 + 1), zj pk_54, zp a0] w_44 ov w' c s
      obtain ⟨fs_57, hl_56, h⟩ := h
      obtain ⟨r_60, hk_9, h⟩ := h
      refine rn_cal0 (ins := .invokevirtual 110) (rest := [zj pk_54, zp a0]) rfl rfl rfl rfl (zinv_v (fs := _) hl_56 rfl rfl rfl rfl) rfl rfl hk_9 ?_
      show Zr sc 57 136 [zp a0, zp a1, zj x2] [zj r_60, zj pk_54, zp a0] w_44 ov w' c s
      obtain ⟨hm_61, h⟩ := h
      refine Zr_mx (b := true) (ins := .invokestatic 113) (rest := [zp a0]) rfl rfl rfl rfl (zinv_t2 (rest := [zp a0]) rfl rfl rfl rfl rfl) rfl (zmx_j hm_61.1 hm_61.2) ?_
      show Zr sc 57 139 [zp a0, zp a1, zj x2] [zj (max pk_54 r_60), zp a0] w_44 ov w' c s
      refine rl_pf rfl hw_46 rfl rfl rfl ?_
      show Zr sc 57 142 [zp a0, zp a1, zj x2] [] (w_44.set a0 (zob 2 [zp (a0 + 1), zp (a0 + 6), zj wy_47, zj st_48, zj hd_49, zj hn_50, zj sn_51, zp (a0 + 9), zp (a0 + 10), zj nm_52, zj ar_53, zj (max pk_54 r_60), zj dn_55])) ov w' c s
      refine rl_inc rfl rfl rfl rfl ?_
      show Zr sc 57 145 [zp a0, zp a1, zj (x2 + 1)] [] (w_44.set a0 (zob 2 [zp (a0 + 1), zp (a0 + 6), zj wy_47, zj st_48, zj hd_49, zj hn_50, zj sn_51, zp (a0 + 9), zp (a0 + 10), zj nm_52, zj ar_53, zj (max pk_54 r_60), zj dn_55])) ov w' c s
      refine Zr_st (q := (5, [zp a0, zp a1, zj (x2 + 1)], [])) rfl rfl rfl ?_
      show Zr sc 57 5 [zp a0, zp a1, zj (x2 + 1)] [] (w_44.set a0 (zob 2 [zp (a0 + 1), zp (a0 + 6), zj wy_47, zj st_48, zj hd_49, zj hn_50, zj sn_51, zp (a0 + 9), zp (a0 + 10), zj nm_52, zj ar_53, zj (max pk_54 r_60), zj dn_55])) ov w' c s
      exact h
    · replace h := h.2.2.2.1 hp
      refine rl_sw (t := 80) rfl hr_13 (by rw [hp]; rfl) ?_
      show Zr sc 57 80 [zp a0, zp a1, zj x2] [] w ov w' c s
      refine Zr_st (q := (81, [zp a0, zp a1, zj x2], [zp a0])) rfl rfl rfl ?_
      show Zr sc 57 81 [zp a0, zp a1, zj x2] [zp a0] w ov w' c s
      refine Zr_st (q := (82, [zp a0, zp a1, zj x2], [zp a1, zp a0])) rfl rfl rfl ?_
      show Zr sc 57 82 [zp a0, zp a1, zj x2] [zp a1, zp a0] w ov w' c s
      refine Zr_st (q := (83, [zp a0, zp a1, zj x2], [zj x2, zp a1, zp a0])) rfl rfl rfl ?_
      show Zr sc 57 83 [zp a0, zp a1, zj x2] [zj x2, zp a1, zp a0] w ov w' c s
      obtain ⟨r_64, hk_9, h⟩ := h
      refine rn_cal0 (ins := .invokevirtual 94) (rest := [zp a0]) rfl rfl rfl rfl (zinv_v (fs := _) hl_1 rfl rfl rfl rfl) rfl rfl hk_9 ?_
      show Zr sc 57 86 [zp a0, zp a1, zj x2] [zj r_64, zp a0] w ov w' c s
      refine Zr_st (q := (87, [zp a0, zp a1, zj x2], [zp a1, zj r_64, zp a0])) rfl rfl rfl ?_
      show Zr sc 57 87 [zp a0, zp a1, zj x2] [zp a1, zj r_64, zp a0] w ov w' c s
      refine Zr_st (q := (88, [zp a0, zp a1, zj x2], [zj x2, zp a1, zj r_64, zp a0])) rfl rfl rfl ?_
      show Zr sc 57 88 [zp a0, zp a1, zj x2] [zj x2, zp a1, zj r_64, zp a0] w ov w' c s
      obtain ⟨r_67, hk_9, h⟩ := h
      refine rn_cal0 (ins := .invokevirtual 89) (rest := [zj r_64, zp a0]) rfl rfl rfl rfl (zinv_v (fs := _) hl_1 rfl rfl rfl rfl) rfl rfl hk_9 ?_
      show Zr sc 57 91 [zp a0, zp a1, zj x2] [zj r_67, zj r_64, zp a0] w ov w' c s
      obtain ⟨w_68, hk_69, h⟩ := h
      refine rn_cal0 (ins := .invokevirtual 100) (rest := []) rfl rfl rfl rfl (zinv_v (fs := _) L0 rfl rfl rfl rfl) rfl rfl hk_69 ?_
      show Zr sc 57 94 [zp a0, zp a1, zj x2] [] w_68 ov w' c s
      refine Zr_st (q := (124, [zp a0, zp a1, zj x2], [])) rfl rfl rfl ?_
      show Zr sc 57 124 [zp a0, zp a1, zj x2] [] w_68 ov w' c s
      refine Zr_st (q := (125, [zp a0, zp a1, zj x2], [zp a0])) rfl rfl rfl ?_
      show Zr sc 57 125 [zp a0, zp a1, zj x2] [zp a0] w_68 ov w' c s
      refine Zr_st (q := (126, [zp a0, zp a1, zj x2], [zp a0, zp a0])) rfl rfl rfl ?_
      show Zr sc 57 126 [zp a0, zp a1, zj x2] [zp a0, zp a0] w_68 ov w' c s
      obtain ⟨wy_71, st_72, hd_73, hn_74, sn_75, nm_76, ar_77, pk_78, dn_79, hw_70, h⟩ := h
      refine rl_gf rfl hw_70 rfl rfl ?_
      show Zr sc 57 129 [zp a0, zp a1, zj x2] [zj pk_78, zp a0] w_68 ov w' c s
      refine Zr_st (q := (130, [zp a0, zp a1, zj x2], [zp a0, zj pk_78, zp a0])) rfl rfl rfl ?_
      show Zr sc 57 130 [zp a0, zp a1, zj x2] [zp a0, zj pk_78, zp a0] w_68 ov w' c s
      refine rl_gf rfl hw_70 rfl rfl ?_
      show Zr sc 57 133 [zp a0, zp a1, zj x2] [zp (a0 + 1), zj pk_78, zp a0] w_68 ov w' c s
      obtain ⟨fs_81, hl_80, h⟩ := h
      obtain ⟨r_84, hk_9, h⟩ := h
      refine rn_cal0 (ins := .invokevirtual 110) (rest := [zj pk_78, zp a0]) rfl rfl rfl rfl (zinv_v (fs := _) hl_80 rfl rfl rfl rfl) rfl rfl hk_9 ?_
      show Zr sc 57 136 [zp a0, zp a1, zj x2] [zj r_84, zj pk_78, zp a0] w_68 ov w' c s
      obtain ⟨hm_85, h⟩ := h
      refine Zr_mx (b := true) (ins := .invokestatic 113) (rest := [zp a0]) rfl rfl rfl rfl (zinv_t2 (rest := [zp a0]) rfl rfl rfl rfl rfl) rfl (zmx_j hm_85.1 hm_85.2) ?_
      show Zr sc 57 139 [zp a0, zp a1, zj x2] [zj (max pk_78 r_84), zp a0] w_68 ov w' c s
      refine rl_pf rfl hw_70 rfl rfl rfl ?_
      show Zr sc 57 142 [zp a0, zp a1, zj x2] [] (w_68.set a0 (zob 2 [zp (a0 + 1), zp (a0 + 6), zj wy_71, zj st_72, zj hd_73, zj hn_74, zj sn_75, zp (a0 + 9), zp (a0 + 10), zj nm_76, zj ar_77, zj (max pk_78 r_84), zj dn_79])) ov w' c s
      refine rl_inc rfl rfl rfl rfl ?_
      show Zr sc 57 145 [zp a0, zp a1, zj (x2 + 1)] [] (w_68.set a0 (zob 2 [zp (a0 + 1), zp (a0 + 6), zj wy_71, zj st_72, zj hd_73, zj hn_74, zj sn_75, zp (a0 + 9), zp (a0 + 10), zj nm_76, zj ar_77, zj (max pk_78 r_84), zj dn_79])) ov w' c s
      refine Zr_st (q := (5, [zp a0, zp a1, zj (x2 + 1)], [])) rfl rfl rfl ?_
      show Zr sc 57 5 [zp a0, zp a1, zj (x2 + 1)] [] (w_68.set a0 (zob 2 [zp (a0 + 1), zp (a0 + 6), zj wy_71, zj st_72, zj hd_73, zj hn_74, zj sn_75, zp (a0 + 9), zp (a0 + 10), zj nm_76, zj ar_77, zj (max pk_78 r_84), zj dn_79])) ov w' c s
      exact h
    · replace h := h.2.2.2.2.1 hp
      refine rl_sw (t := 97) rfl hr_13 (by rw [hp]; rfl) ?_
      show Zr sc 57 97 [zp a0, zp a1, zj x2] [] w ov w' c s
      refine Zr_st (q := (98, [zp a0, zp a1, zj x2], [zp a0])) rfl rfl rfl ?_
      show Zr sc 57 98 [zp a0, zp a1, zj x2] [zp a0] w ov w' c s
      obtain ⟨w_86, hk_87, h⟩ := h
      refine rn_cal0 (ins := .invokevirtual 104) (rest := []) rfl rfl rfl rfl (zinv_v (fs := _) L0 rfl rfl rfl rfl) rfl rfl hk_87 ?_
      show Zr sc 57 101 [zp a0, zp a1, zj x2] [] w_86 ov w' c s
      refine Zr_st (q := (124, [zp a0, zp a1, zj x2], [])) rfl rfl rfl ?_
      show Zr sc 57 124 [zp a0, zp a1, zj x2] [] w_86 ov w' c s
      refine Zr_st (q := (125, [zp a0, zp a1, zj x2], [zp a0])) rfl rfl rfl ?_
      show Zr sc 57 125 [zp a0, zp a1, zj x2] [zp a0] w_86 ov w' c s
      refine Zr_st (q := (126, [zp a0, zp a1, zj x2], [zp a0, zp a0])) rfl rfl rfl ?_
      show Zr sc 57 126 [zp a0, zp a1, zj x2] [zp a0, zp a0] w_86 ov w' c s
      obtain ⟨wy_89, st_90, hd_91, hn_92, sn_93, nm_94, ar_95, pk_96, dn_97, hw_88, h⟩ := h
      refine rl_gf rfl hw_88 rfl rfl ?_
      show Zr sc 57 129 [zp a0, zp a1, zj x2] [zj pk_96, zp a0] w_86 ov w' c s
      refine Zr_st (q := (130, [zp a0, zp a1, zj x2], [zp a0, zj pk_96, zp a0])) rfl rfl rfl ?_
      show Zr sc 57 130 [zp a0, zp a1, zj x2] [zp a0, zj pk_96, zp a0] w_86 ov w' c s
      refine rl_gf rfl hw_88 rfl rfl ?_
      show Zr sc 57 133 [zp a0, zp a1, zj x2] [zp (a0 + 1), zj pk_96, zp a0] w_86 ov w' c s
      obtain ⟨fs_99, hl_98, h⟩ := h
      obtain ⟨r_102, hk_9, h⟩ := h
      refine rn_cal0 (ins := .invokevirtual 110) (rest := [zj pk_96, zp a0]) rfl rfl rfl rfl (zinv_v (fs := _) hl_98 rfl rfl rfl rfl) rfl rfl hk_9 ?_
      show Zr sc 57 136 [zp a0, zp a1, zj x2] [zj r_102, zj pk_96, zp a0] w_86 ov w' c s
      obtain ⟨hm_103, h⟩ := h
      refine Zr_mx (b := true) (ins := .invokestatic 113) (rest := [zp a0]) rfl rfl rfl rfl (zinv_t2 (rest := [zp a0]) rfl rfl rfl rfl rfl) rfl (zmx_j hm_103.1 hm_103.2) ?_
      show Zr sc 57 139 [zp a0, zp a1, zj x2] [zj (max pk_96 r_102), zp a0] w_86 ov w' c s
      refine rl_pf rfl hw_88 rfl rfl rfl ?_
      show Zr sc 57 142 [zp a0, zp a1, zj x2] [] (w_86.set a0 (zob 2 [zp (a0 + 1), zp (a0 + 6), zj wy_89, zj st_90, zj hd_91, zj hn_92, zj sn_93, zp (a0 + 9), zp (a0 + 10), zj nm_94, zj ar_95, zj (max pk_96 r_102), zj dn_97])) ov w' c s
      refine rl_inc rfl rfl rfl rfl ?_
      show Zr sc 57 145 [zp a0, zp a1, zj (x2 + 1)] [] (w_86.set a0 (zob 2 [zp (a0 + 1), zp (a0 + 6), zj wy_89, zj st_90, zj hd_91, zj hn_92, zj sn_93, zp (a0 + 9), zp (a0 + 10), zj nm_94, zj ar_95, zj (max pk_96 r_102), zj dn_97])) ov w' c s
      refine Zr_st (q := (5, [zp a0, zp a1, zj (x2 + 1)], [])) rfl rfl rfl ?_
      show Zr sc 57 5 [zp a0, zp a1, zj (x2 + 1)] [] (w_86.set a0 (zob 2 [zp (a0 + 1), zp (a0 + 6), zj wy_89, zj st_90, zj hd_91, zj hn_92, zj sn_93, zp (a0 + 9), zp (a0 + 10), zj nm_94, zj ar_95, zj (max pk_96 r_102), zj dn_97])) ov w' c s
      exact h
    · replace h := h.2.2.2.2.2.1 hp
      refine rl_sw (t := 104) rfl hr_13 (by rw [hp]; rfl) ?_
      show Zr sc 57 104 [zp a0, zp a1, zj x2] [] w ov w' c s
      refine Zr_st (q := (105, [zp a0, zp a1, zj x2], [zp a0])) rfl rfl rfl ?_
      show Zr sc 57 105 [zp a0, zp a1, zj x2] [zp a0] w ov w' c s
      refine Zr_st (q := (106, [zp a0, zp a1, zj x2], [zp a0, zp a0])) rfl rfl rfl ?_
      show Zr sc 57 106 [zp a0, zp a1, zj x2] [zp a0, zp a0] w ov w' c s
      refine rl_gf rfl L0 rfl rfl ?_
      show Zr sc 57 109 [zp a0, zp a1, zj x2] [zj ar, zp a0] w ov w' c s
      refine rl_ic rfl ?_
      show Zr sc 57 110 [zp a0, zp a1, zj x2] [zj 1, zj ar, zp a0] w ov w' c s
      refine rl_add rfl ?_
      show Zr sc 57 111 [zp a0, zp a1, zj x2] [zj (ar + 1), zp a0] w ov w' c s
      refine rl_pf rfl L0 rfl rfl rfl ?_
      show Zr sc 57 114 [zp a0, zp a1, zj x2] [] (w.set a0 (zob 2 [zp (a0 + 1), zp (a0 + 6), zj wy, zj st, zj hd, zj hn, zj sn, zp (a0 + 9), zp (a0 + 10), zj nm, zj (ar + 1), zj pk, zj dn])) ov w' c s
      refine Zr_st (q := (124, [zp a0, zp a1, zj x2], [])) rfl rfl rfl ?_
      show Zr sc 57 124 [zp a0, zp a1, zj x2] [] (w.set a0 (zob 2 [zp (a0 + 1), zp (a0 + 6), zj wy, zj st, zj hd, zj hn, zj sn, zp (a0 + 9), zp (a0 + 10), zj nm, zj (ar + 1), zj pk, zj dn])) ov w' c s
      refine Zr_st (q := (125, [zp a0, zp a1, zj x2], [zp a0])) rfl rfl rfl ?_
      show Zr sc 57 125 [zp a0, zp a1, zj x2] [zp a0] (w.set a0 (zob 2 [zp (a0 + 1), zp (a0 + 6), zj wy, zj st, zj hd, zj hn, zj sn, zp (a0 + 9), zp (a0 + 10), zj nm, zj (ar + 1), zj pk, zj dn])) ov w' c s
      refine Zr_st (q := (126, [zp a0, zp a1, zj x2], [zp a0, zp a0])) rfl rfl rfl ?_
      show Zr sc 57 126 [zp a0, zp a1, zj x2] [zp a0, zp a0] (w.set a0 (zob 2 [zp (a0 + 1), zp (a0 + 6), zj wy, zj st, zj hd, zj hn, zj sn, zp (a0 + 9), zp (a0 + 10), zj nm, zj (ar + 1), zj pk, zj dn])) ov w' c s
      refine rl_gf rfl (zw_s L0) rfl rfl ?_
      show Zr sc 57 129 [zp a0, zp a1, zj x2] [zj pk, zp a0] (w.set a0 (zob 2 [zp (a0 + 1), zp (a0 + 6), zj wy, zj st, zj hd, zj hn, zj sn, zp (a0 + 9), zp (a0 + 10), zj nm, zj (ar + 1), zj pk, zj dn])) ov w' c s
      refine Zr_st (q := (130, [zp a0, zp a1, zj x2], [zp a0, zj pk, zp a0])) rfl rfl rfl ?_
      show Zr sc 57 130 [zp a0, zp a1, zj x2] [zp a0, zj pk, zp a0] (w.set a0 (zob 2 [zp (a0 + 1), zp (a0 + 6), zj wy, zj st, zj hd, zj hn, zj sn, zp (a0 + 9), zp (a0 + 10), zj nm, zj (ar + 1), zj pk, zj dn])) ov w' c s
      refine rl_gf rfl (zw_s L0) rfl rfl ?_
      show Zr sc 57 133 [zp a0, zp a1, zj x2] [zp (a0 + 1), zj pk, zp a0] (w.set a0 (zob 2 [zp (a0 + 1), zp (a0 + 6), zj wy, zj st, zj hd, zj hn, zj sn, zp (a0 + 9), zp (a0 + 10), zj nm, zj (ar + 1), zj pk, zj dn])) ov w' c s
      obtain ⟨fs_105, hl_104, h⟩ := h
      obtain ⟨r_108, hk_9, h⟩ := h
      refine rn_cal0 (ins := .invokevirtual 110) (rest := [zj pk, zp a0]) rfl rfl rfl rfl (zinv_v (fs := _) (zw_o (by omega) hl_104) rfl rfl rfl rfl) rfl rfl hk_9 ?_
      show Zr sc 57 136 [zp a0, zp a1, zj x2] [zj r_108, zj pk, zp a0] (w.set a0 (zob 2 [zp (a0 + 1), zp (a0 + 6), zj wy, zj st, zj hd, zj hn, zj sn, zp (a0 + 9), zp (a0 + 10), zj nm, zj (ar + 1), zj pk, zj dn])) ov w' c s
      obtain ⟨hm_109, h⟩ := h
      refine Zr_mx (b := true) (ins := .invokestatic 113) (rest := [zp a0]) rfl rfl rfl rfl (zinv_t2 (rest := [zp a0]) rfl rfl rfl rfl rfl) rfl (zmx_j hm_109.1 hm_109.2) ?_
      show Zr sc 57 139 [zp a0, zp a1, zj x2] [zj (max pk r_108), zp a0] (w.set a0 (zob 2 [zp (a0 + 1), zp (a0 + 6), zj wy, zj st, zj hd, zj hn, zj sn, zp (a0 + 9), zp (a0 + 10), zj nm, zj (ar + 1), zj pk, zj dn])) ov w' c s
      refine rl_pf rfl (zw_s L0) rfl rfl rfl ?_
      show Zr sc 57 142 [zp a0, zp a1, zj x2] [] ((w.set a0 (zob 2 [zp (a0 + 1), zp (a0 + 6), zj wy, zj st, zj hd, zj hn, zj sn, zp (a0 + 9), zp (a0 + 10), zj nm, zj (ar + 1), zj pk, zj dn])).set a0 (zob 2 [zp (a0 + 1), zp (a0 + 6), zj wy, zj st, zj hd, zj hn, zj sn, zp (a0 + 9), zp (a0 + 10), zj nm, zj (ar + 1), zj (max pk r_108), zj dn])) ov w' c s
      refine rl_inc rfl rfl rfl rfl ?_
      show Zr sc 57 145 [zp a0, zp a1, zj (x2 + 1)] [] ((w.set a0 (zob 2 [zp (a0 + 1), zp (a0 + 6), zj wy, zj st, zj hd, zj hn, zj sn, zp (a0 + 9), zp (a0 + 10), zj nm, zj (ar + 1), zj pk, zj dn])).set a0 (zob 2 [zp (a0 + 1), zp (a0 + 6), zj wy, zj st, zj hd, zj hn, zj sn, zp (a0 + 9), zp (a0 + 10), zj nm, zj (ar + 1), zj (max pk r_108), zj dn])) ov w' c s
      refine Zr_st (q := (5, [zp a0, zp a1, zj (x2 + 1)], [])) rfl rfl rfl ?_
      show Zr sc 57 5 [zp a0, zp a1, zj (x2 + 1)] [] ((w.set a0 (zob 2 [zp (a0 + 1), zp (a0 + 6), zj wy, zj st, zj hd, zj hn, zj sn, zp (a0 + 9), zp (a0 + 10), zj nm, zj (ar + 1), zj pk, zj dn])).set a0 (zob 2 [zp (a0 + 1), zp (a0 + 6), zj wy, zj st, zj hd, zj hn, zj sn, zp (a0 + 9), zp (a0 + 10), zj nm, zj (ar + 1), zj (max pk r_108), zj dn])) ov w' c s
      exact h
    · replace h := h.2.2.2.2.2.2 hp
      refine rl_sw (t := 117) rfl hr_13 (by rw [hp]; rfl) ?_
      show Zr sc 57 117 [zp a0, zp a1, zj x2] [] w ov w' c s
      refine Zr_st (q := (118, [zp a0, zp a1, zj x2], [zp a0])) rfl rfl rfl ?_
      show Zr sc 57 118 [zp a0, zp a1, zj x2] [zp a0] w ov w' c s
      obtain ⟨w_110, hk_111, h⟩ := h
      refine rn_cal0 (ins := .invokevirtual 107) (rest := []) rfl rfl rfl rfl (zinv_v (fs := _) L0 rfl rfl rfl rfl) rfl rfl hk_111 ?_
      show Zr sc 57 121 [zp a0, zp a1, zj x2] [] w_110 ov w' c s
      refine Zr_st (q := (124, [zp a0, zp a1, zj x2], [])) rfl rfl rfl ?_
      show Zr sc 57 124 [zp a0, zp a1, zj x2] [] w_110 ov w' c s
      refine Zr_st (q := (125, [zp a0, zp a1, zj x2], [zp a0])) rfl rfl rfl ?_
      show Zr sc 57 125 [zp a0, zp a1, zj x2] [zp a0] w_110 ov w' c s
      refine Zr_st (q := (126, [zp a0, zp a1, zj x2], [zp a0, zp a0])) rfl rfl rfl ?_
      show Zr sc 57 126 [zp a0, zp a1, zj x2] [zp a0, zp a0] w_110 ov w' c s
      obtain ⟨wy_113, st_114, hd_115, hn_116, sn_117, nm_118, ar_119, pk_120, dn_121, hw_112, h⟩ := h
      refine rl_gf rfl hw_112 rfl rfl ?_
      show Zr sc 57 129 [zp a0, zp a1, zj x2] [zj pk_120, zp a0] w_110 ov w' c s
      refine Zr_st (q := (130, [zp a0, zp a1, zj x2], [zp a0, zj pk_120, zp a0])) rfl rfl rfl ?_
      show Zr sc 57 130 [zp a0, zp a1, zj x2] [zp a0, zj pk_120, zp a0] w_110 ov w' c s
      refine rl_gf rfl hw_112 rfl rfl ?_
      show Zr sc 57 133 [zp a0, zp a1, zj x2] [zp (a0 + 1), zj pk_120, zp a0] w_110 ov w' c s
      obtain ⟨fs_123, hl_122, h⟩ := h
      obtain ⟨r_126, hk_9, h⟩ := h
      refine rn_cal0 (ins := .invokevirtual 110) (rest := [zj pk_120, zp a0]) rfl rfl rfl rfl (zinv_v (fs := _) hl_122 rfl rfl rfl rfl) rfl rfl hk_9 ?_
      show Zr sc 57 136 [zp a0, zp a1, zj x2] [zj r_126, zj pk_120, zp a0] w_110 ov w' c s
      obtain ⟨hm_127, h⟩ := h
      refine Zr_mx (b := true) (ins := .invokestatic 113) (rest := [zp a0]) rfl rfl rfl rfl (zinv_t2 (rest := [zp a0]) rfl rfl rfl rfl rfl) rfl (zmx_j hm_127.1 hm_127.2) ?_
      show Zr sc 57 139 [zp a0, zp a1, zj x2] [zj (max pk_120 r_126), zp a0] w_110 ov w' c s
      refine rl_pf rfl hw_112 rfl rfl rfl ?_
      show Zr sc 57 142 [zp a0, zp a1, zj x2] [] (w_110.set a0 (zob 2 [zp (a0 + 1), zp (a0 + 6), zj wy_113, zj st_114, zj hd_115, zj hn_116, zj sn_117, zp (a0 + 9), zp (a0 + 10), zj nm_118, zj ar_119, zj (max pk_120 r_126), zj dn_121])) ov w' c s
      refine rl_inc rfl rfl rfl rfl ?_
      show Zr sc 57 145 [zp a0, zp a1, zj (x2 + 1)] [] (w_110.set a0 (zob 2 [zp (a0 + 1), zp (a0 + 6), zj wy_113, zj st_114, zj hd_115, zj hn_116, zj sn_117, zp (a0 + 9), zp (a0 + 10), zj nm_118, zj ar_119, zj (max pk_120 r_126), zj dn_121])) ov w' c s
      refine Zr_st (q := (5, [zp a0, zp a1, zj (x2 + 1)], [])) rfl rfl rfl ?_
      show Zr sc 57 5 [zp a0, zp a1, zj (x2 + 1)] [] (w_110.set a0 (zob 2 [zp (a0 + 1), zp (a0 + 6), zj wy_113, zj st_114, zj hd_115, zj hn_116, zj sn_117, zp (a0 + 9), zp (a0 + 10), zj nm_118, zj ar_119, zj (max pk_120 r_126), zj dn_121])) ov w' c s
      exact h

-- HeapwrightLab$Memory.follow(LHeapwrightLab$Trace;)LHeapwrightLab$Memory;
set_option maxRecDepth 100000 in
theorem V57_0_4 {sc : List Value} {w w' : List zE} {ov : Option Value} {c s : Nat} {a0 : Nat} {a1 : Nat} {wy : Int} {st : Int} {hd : Int} {hn : Int} {sn : Int} {nm : Int} {ar : Int} {pk : Int} {dn : Int} (L0 : w[a0]? = some (zob 4 [zp (a0 + 1), zp (a0 + 6), zj wy, zj st, zj hd, zj hn, zj sn, zp (a0 + 9), zp (a0 + 10), zj nm, zj ar, zj pk, zj dn, zp (a0 + 11)])) (h : Zr sc 57 5 [zp a0, zp a1, zj dn] [] w ov w' c s) : Zr sc 57 0 [zp a0, zp a1, zmk] [] w ov w' c s := by
  refine Zr_st (q := (1, [zp a0, zp a1, zmk], [zp a0])) rfl rfl rfl ?_
  show Zr sc 57 1 [zp a0, zp a1, zmk] [zp a0] w ov w' c s
  refine rl_gf rfl L0 rfl rfl ?_
  show Zr sc 57 4 [zp a0, zp a1, zmk] [zj dn] w ov w' c s
  refine Zr_st (q := (5, [zp a0, zp a1, zj dn], [])) rfl rfl rfl ?_
  show Zr sc 57 5 [zp a0, zp a1, zj dn] [] w ov w' c s
  exact h
set_option maxRecDepth 100000 in
theorem V57_5_4 {sc : List Value} {w w' : List zE} {ov : Option Value} {c s : Nat} {a0 : Nat} {a1 : Nat} {x2 : Int} {wy : Int} {st : Int} {hd : Int} {hn : Int} {sn : Int} {nm : Int} {ar : Int} {pk : Int} {dn : Int} (L0 : w[a0]? = some (zob 4 [zp (a0 + 1), zp (a0 + 6), zj wy, zj st, zj hd, zj hn, zj sn, zp (a0 + 9), zp (a0 + 10), zj nm, zj ar, zj pk, zj dn, zp (a0 + 11)])) (h : (∃ fs_2 : List Value, w[a1]? = some (zob 5 fs_2) ∧ (∃ r_5 : Int, Zc sc 58 [zp a1] w (some (zj r_5)) w 0 0 ∧ ((zrg x2 ∧ zrg r_5) ∧ ((r_5 ≤ x2 → (∃ r_9 : Int, Zc sc 58 [zp a1] w (some (zj r_9)) w 0 0 ∧ (ov = some (zp a0) ∧ w' = (w.set a0 (zob 4 [zp (a0 + 1), zp (a0 + 6), zj wy, zj st, zj hd, zj hn, zj sn, zp (a0 + 9), zp (a0 + 10), zj nm, zj ar, zj pk, zj r_9, zp (a0 + 11)])) ∧ c = 0 ∧ s = 0))) ∧ (¬ (r_5 ≤ x2) → (∃ r_12 : Int, Zc sc 59 [zp a1, zj x2] w (some (zj r_12)) w 0 0 ∧ ((zrg r_12) ∧ (((r_12 < 0 ∨ 5 < r_12) → (∃ fs_15 : List Value, w[(a0 + 1)]? = some (zob 0 fs_15) ∧ (∃ r_18 : Int, Zc sc 28 [zp (a0 + 1)] w (some (zj r_18)) w 0 0 ∧ ((zrg pk ∧ zrg r_18) ∧ Zr sc 57 5 [zp a0, zp a1, zj (x2 + 1)] [] (w.set a0 (zob 4 [zp (a0 + 1), zp (a0 + 6), zj wy, zj st, zj hd, zj hn, zj sn, zp (a0 + 9), zp (a0 + 10), zj nm, zj ar, zj (max pk r_18), zj dn, zp (a0 + 11)])) ov w' c s)))) ∧ (r_12 = 0 → (∃ r_22 : Int, Zc sc 61 [zp a1, zj x2] w (some (zj r_22)) w 0 0 ∧ (∃ w_23 : List zE, Zc sc 62 [zp a0, zj r_22] w none w_23 0 0 ∧ (∃ wy_26 : Int, ∃ st_27 : Int, ∃ hd_28 : Int, ∃ hn_29 : Int, ∃ sn_30 : Int, ∃ nm_31 : Int, ∃ ar_32 : Int, ∃ pk_33 : Int, ∃ dn_34 : Int, w_23[a0]? = some (zob 4 [zp (a0 + 1), zp (a0 + 6), zj wy_26, zj st_27, zj hd_28, zj hn_29, zj sn_30, zp (a0 + 9), zp (a0 + 10), zj nm_31, zj ar_32, zj pk_33, zj dn_34, zp (a0 + 11)]) ∧ (∃ fs_36 : List Value, w_23[(a0 + 1)]? = some (zob 0 fs_36) ∧ (∃ r_39 : Int, Zc sc 28 [zp (a0 + 1)] w_23 (some (zj r_39)) w_23 0 0 ∧ ((zrg pk_33 ∧ zrg r_39) ∧ Zr sc 57 5 [zp a0, zp a1, zj (x2 + 1)] [] (w_23.set a0 (zob 4 [zp (a0 + 1), zp (a0 + 6), zj wy_26, zj st_27, zj hd_28, zj hn_29, zj sn_30, zp (a0 + 9), zp (a0 + 10), zj nm_31, zj ar_32, zj (max pk_33 r_39), zj dn_34, zp (a0 + 11)])) ov w' c s))))))) ∧ (r_12 = 1 → (∃ r_43 : Int, Zc sc 82 [zp a1, zj x2] w (some (zj r_43)) w 0 0 ∧ (∃ w_44 : List zE, Zc sc 83 [zp a0, zj r_43] w none w_44 0 0 ∧ (∃ wy_47 : Int, ∃ st_48 : Int, ∃ hd_49 : Int, ∃ hn_50 : Int, ∃ sn_51 : Int, ∃ nm_52 : Int, ∃ ar_53 : Int, ∃ pk_54 : Int, ∃ dn_55 : Int, w_44[a0]? = some (zob 4 [zp (a0 + 1), zp (a0 + 6), zj wy_47, zj st_48, zj hd_49, zj hn_50, zj sn_51, zp (a0 + 9), zp (a0 + 10), zj nm_52, zj ar_53, zj pk_54, zj dn_55, zp (a0 + 11)]) ∧ (∃ fs_57 : List Value, w_44[(a0 + 1)]? = some (zob 0 fs_57) ∧ (∃ r_60 : Int, Zc sc 28 [zp (a0 + 1)] w_44 (some (zj r_60)) w_44 0 0 ∧ ((zrg pk_54 ∧ zrg r_60) ∧ Zr sc 57 5 [zp a0, zp a1, zj (x2 + 1)] [] (w_44.set a0 (zob 4 [zp (a0 + 1), zp (a0 + 6), zj wy_47, zj st_48, zj hd_49, zj hn_50, zj sn_51, zp (a0 + 9), zp (a0 + 10), zj nm_52, zj ar_53, zj (max pk_54 r_60), zj dn_55, zp (a0 + 11)])) ov w' c s))))))) ∧ (r_12 = 2 → (∃ r_64 : Int, Zc sc 82 [zp a1, zj x2] w (some (zj r_64)) w 0 0 ∧ (∃ r_67 : Int, Zc sc 61 [zp a1, zj x2] w (some (zj r_67)) w 0 0 ∧ (∃ w_68 : List zE, Zc sc 88 [zp a0, zj r_64, zj r_67] w none w_68 0 0 ∧ (∃ wy_71 : Int, ∃ st_72 : Int, ∃ hd_73 : Int, ∃ hn_74 : Int, ∃ sn_75 : Int, ∃ nm_76 : Int, ∃ ar_77 : Int, ∃ pk_78 : Int, ∃ dn_79 : Int, w_68[a0]? = some (zob 4 [zp (a0 + 1), zp (a0 + 6), zj wy_71, zj st_72, zj hd_73, zj hn_74, zj sn_75, zp (a0 + 9), zp (a0 + 10), zj nm_76, zj ar_77, zj pk_78, zj dn_79, zp (a0 + 11)]) ∧ (∃ fs_81 : List Value, w_68[(a0 + 1)]? = some (zob 0 fs_81) ∧ (∃ r_84 : Int, Zc sc 28 [zp (a0 + 1)] w_68 (some (zj r_84)) w_68 0 0 ∧ ((zrg pk_78 ∧ zrg r_84) ∧ Zr sc 57 5 [zp a0, zp a1, zj (x2 + 1)] [] (w_68.set a0 (zob 4 [zp (a0 + 1), zp (a0 + 6), zj wy_71, zj st_72, zj hd_73, zj hn_74, zj sn_75, zp (a0 + 9), zp (a0 + 10), zj nm_76, zj ar_77, zj (max pk_78 r_84), zj dn_79, zp (a0 + 11)])) ov w' c s)))))))) ∧ (r_12 = 3 → ((Zc sc 96 [zp a0] w none w 0 0) ∧ (∃ fs_89 : List Value, w[(a0 + 1)]? = some (zob 0 fs_89) ∧ (∃ r_92 : Int, Zc sc 28 [zp (a0 + 1)] w (some (zj r_92)) w 0 0 ∧ ((zrg pk ∧ zrg r_92) ∧ Zr sc 57 5 [zp a0, zp a1, zj (x2 + 1)] [] (w.set a0 (zob 4 [zp (a0 + 1), zp (a0 + 6), zj wy, zj st, zj hd, zj hn, zj sn, zp (a0 + 9), zp (a0 + 10), zj nm, zj ar, zj (max pk r_92), zj dn, zp (a0 + 11)])) ov w' c s))))) ∧ (r_12 = 4 → (∃ fs_95 : List Value, w[(a0 + 1)]? = some (zob 0 fs_95) ∧ (∃ r_98 : Int, Zc sc 28 [zp (a0 + 1)] (w.set a0 (zob 4 [zp (a0 + 1), zp (a0 + 6), zj wy, zj st, zj hd, zj hn, zj sn, zp (a0 + 9), zp (a0 + 10), zj nm, zj (ar + 1), zj pk, zj dn, zp (a0 + 11)])) (some (zj r_98)) (w.set a0 (zob 4 [zp (a0 + 1), zp (a0 + 6), zj wy, zj st, zj hd, zj hn, zj sn, zp (a0 + 9), zp (a0 + 10), zj nm, zj (ar + 1), zj pk, zj dn, zp (a0 + 11)])) 0 0 ∧ ((zrg pk ∧ zrg r_98) ∧ Zr sc 57 5 [zp a0, zp a1, zj (x2 + 1)] [] ((w.set a0 (zob 4 [zp (a0 + 1), zp (a0 + 6), zj wy, zj st, zj hd, zj hn, zj sn, zp (a0 + 9), zp (a0 + 10), zj nm, zj (ar + 1), zj pk, zj dn, zp (a0 + 11)])).set a0 (zob 4 [zp (a0 + 1), zp (a0 + 6), zj wy, zj st, zj hd, zj hn, zj sn, zp (a0 + 9), zp (a0 + 10), zj nm, zj (ar + 1), zj (max pk r_98), zj dn, zp (a0 + 11)])) ov w' c s)))) ∧ (r_12 = 5 → (∃ w_100 : List zE, Zc sc 97 [zp a0] w none w_100 0 0 ∧ (∃ wy_103 : Int, ∃ st_104 : Int, ∃ hd_105 : Int, ∃ hn_106 : Int, ∃ sn_107 : Int, ∃ nm_108 : Int, ∃ ar_109 : Int, ∃ pk_110 : Int, ∃ dn_111 : Int, w_100[a0]? = some (zob 4 [zp (a0 + 1), zp (a0 + 6), zj wy_103, zj st_104, zj hd_105, zj hn_106, zj sn_107, zp (a0 + 9), zp (a0 + 10), zj nm_108, zj ar_109, zj pk_110, zj dn_111, zp (a0 + 11)]) ∧ (∃ fs_113 : List Value, w_100[(a0 + 1)]? = some (zob 0 fs_113) ∧ (∃ r_116 : Int, Zc sc 28 [zp (a0 + 1)] w_100 (some (zj r_116)) w_100 0 0 ∧ ((zrg pk_110 ∧ zrg r_116) ∧ Zr sc 57 5 [zp a0, zp a1, zj (x2 + 1)] [] (w_100.set a0 (zob 4 [zp (a0 + 1), zp (a0 + 6), zj wy_103, zj st_104, zj hd_105, zj hn_106, zj sn_107, zp (a0 + 9), zp (a0 + 10), zj nm_108, zj ar_109, zj (max pk_110 r_116), zj dn_111, zp (a0 + 11)])) ov w' c s))))))))))))))) : Zr sc 57 5 [zp a0, zp a1, zj x2] [] w ov w' c s := by
  refine Zr_st (q := (6, [zp a0, zp a1, zj x2], [zj x2])) rfl rfl rfl ?_
  show Zr sc 57 6 [zp a0, zp a1, zj x2] [zj x2] w ov w' c s
  refine Zr_st (q := (7, [zp a0, zp a1, zj x2], [zp a1, zj x2])) rfl rfl rfl ?_
  show Zr sc 57 7 [zp a0, zp a1, zj x2] [zp a1, zj x2] w ov w' c s
  obtain ⟨fs_2, hl_1, h⟩ := h
  obtain ⟨r_5, hk_9, h⟩ := h
  refine rn_cal0 (ins := .invokevirtual 80) (rest := [zj x2]) rfl rfl rfl rfl (zinv_v (fs := _) hl_1 rfl rfl rfl rfl) rfl rfl hk_9 ?_
  show Zr sc 57 10 [zp a0, zp a1, zj x2] [zj r_5, zj x2] w ov w' c s
  obtain ⟨hr_6, h⟩ := h
  refine Zr_br (p := r_5 ≤ x2) rfl rfl (zcmp_j (cnd := .ge) hr_6.1 hr_6.2) (fun hp => ?_) (fun hp => ?_)
  · replace h := h.1 hp
    show Zr sc 57 148 [zp a0, zp a1, zj x2] [] w ov w' c s
    refine Zr_st (q := (149, [zp a0, zp a1, zj x2], [zp a0])) rfl rfl rfl ?_
    show Zr sc 57 149 [zp a0, zp a1, zj x2] [zp a0] w ov w' c s
    refine Zr_st (q := (150, [zp a0, zp a1, zj x2], [zp a1, zp a0])) rfl rfl rfl ?_
    show Zr sc 57 150 [zp a0, zp a1, zj x2] [zp a1, zp a0] w ov w' c s
    obtain ⟨r_9, hk_9, h⟩ := h
    refine rn_cal0 (ins := .invokevirtual 80) (rest := [zp a0]) rfl rfl rfl rfl (zinv_v (fs := _) hl_1 rfl rfl rfl rfl) rfl rfl hk_9 ?_
    show Zr sc 57 153 [zp a0, zp a1, zj x2] [zj r_9, zp a0] w ov w' c s
    refine rl_pf rfl L0 rfl rfl rfl ?_
    show Zr sc 57 156 [zp a0, zp a1, zj x2] [] (w.set a0 (zob 4 [zp (a0 + 1), zp (a0 + 6), zj wy, zj st, zj hd, zj hn, zj sn, zp (a0 + 9), zp (a0 + 10), zj nm, zj ar, zj pk, zj r_9, zp (a0 + 11)])) ov w' c s
    refine Zr_st (q := (157, [zp a0, zp a1, zj x2], [zp a0])) rfl rfl rfl ?_
    show Zr sc 57 157 [zp a0, zp a1, zj x2] [zp a0] (w.set a0 (zob 4 [zp (a0 + 1), zp (a0 + 6), zj wy, zj st, zj hd, zj hn, zj sn, zp (a0 + 9), zp (a0 + 10), zj nm, zj ar, zj pk, zj r_9, zp (a0 + 11)])) ov w' c s
    obtain ⟨h1, h2, h3, h4⟩ := h
    subst h1; subst h2; subst h3; subst h4
    exact Zr_ret (ins := .areturn) rfl rfl
  · replace h := h.2 hp
    show Zr sc 57 13 [zp a0, zp a1, zj x2] [] w ov w' c s
    refine Zr_st (q := (14, [zp a0, zp a1, zj x2], [zp a1])) rfl rfl rfl ?_
    show Zr sc 57 14 [zp a0, zp a1, zj x2] [zp a1] w ov w' c s
    refine Zr_st (q := (15, [zp a0, zp a1, zj x2], [zj x2, zp a1])) rfl rfl rfl ?_
    show Zr sc 57 15 [zp a0, zp a1, zj x2] [zj x2, zp a1] w ov w' c s
    obtain ⟨r_12, hk_9, h⟩ := h
    refine rn_cal0 (ins := .invokevirtual 86) (rest := []) rfl rfl rfl rfl (zinv_v (fs := _) hl_1 rfl rfl rfl rfl) rfl rfl hk_9 ?_
    show Zr sc 57 18 [zp a0, zp a1, zj x2] [zj r_12] w ov w' c s
    obtain ⟨hr_13, h⟩ := h
    have hsw : (r_12 < 0 ∨ 5 < r_12) ∨ r_12 = 0 ∨ r_12 = 1 ∨ r_12 = 2 ∨ r_12 = 3 ∨ r_12 = 4 ∨ r_12 = 5 := by omega
    rcases hsw with hp | hp | hp | hp | hp | hp | hp
    · replace h := h.1 hp
      refine rl_sw (t := 124) rfl hr_13 (zsw_d hp rfl) ?_
      show Zr sc 57 124 [zp a0, zp a1, zj x2] [] w ov w' c s
      refine Zr_st (q := (125, [zp a0, zp a1, zj x2], [zp a0])) rfl rfl rfl ?_
      show Zr sc 57 125 [zp a0, zp a1, zj x2] [zp a0] w ov w' c s
      refine Zr_st (q := (126, [zp a0, zp a1, zj x2], [zp a0, zp a0])) rfl rfl rfl ?_
      show Zr sc 57 126 [zp a0, zp a1, zj x2] [zp a0, zp a0] w ov w' c s
      refine rl_gf rfl L0 rfl rfl ?_
      show Zr sc 57 129 [zp a0, zp a1, zj x2] [zj pk, zp a0] w ov w' c s
      refine Zr_st (q := (130, [zp a0, zp a1, zj x2], [zp a0, zj pk, zp a0])) rfl rfl rfl ?_
      show Zr sc 57 130 [zp a0, zp a1, zj x2] [zp a0, zj pk, zp a0] w ov w' c s
      refine rl_gf rfl L0 rfl rfl ?_
      show Zr sc 57 133 [zp a0, zp a1, zj x2] [zp (a0 + 1), zj pk, zp a0] w ov w' c s
      obtain ⟨fs_15, hl_14, h⟩ := h
      obtain ⟨r_18, hk_9, h⟩ := h
      refine rn_cal0 (ins := .invokevirtual 110) (rest := [zj pk, zp a0]) rfl rfl rfl rfl (zinv_v (fs := _) hl_14 rfl rfl rfl rfl) rfl rfl hk_9 ?_
      show Zr sc 57 136 [zp a0, zp a1, zj x2] [zj r_18, zj pk, zp a0] w ov w' c s
      obtain ⟨hm_19, h⟩ := h
      refine Zr_mx (b := true) (ins := .invokestatic 113) (rest := [zp a0]) rfl rfl rfl rfl (zinv_t2 (rest := [zp a0]) rfl rfl rfl rfl rfl) rfl (zmx_j hm_19.1 hm_19.2) ?_
      show Zr sc 57 139 [zp a0, zp a1, zj x2] [zj (max pk r_18), zp a0] w ov w' c s
      refine rl_pf rfl L0 rfl rfl rfl ?_
      show Zr sc 57 142 [zp a0, zp a1, zj x2] [] (w.set a0 (zob 4 [zp (a0 + 1), zp (a0 + 6), zj wy, zj st, zj hd, zj hn, zj sn, zp (a0 + 9), zp (a0 + 10), zj nm, zj ar, zj (max pk r_18), zj dn, zp (a0 + 11)])) ov w' c s
      refine rl_inc rfl rfl rfl rfl ?_
      show Zr sc 57 145 [zp a0, zp a1, zj (x2 + 1)] [] (w.set a0 (zob 4 [zp (a0 + 1), zp (a0 + 6), zj wy, zj st, zj hd, zj hn, zj sn, zp (a0 + 9), zp (a0 + 10), zj nm, zj ar, zj (max pk r_18), zj dn, zp (a0 + 11)])) ov w' c s
      refine Zr_st (q := (5, [zp a0, zp a1, zj (x2 + 1)], [])) rfl rfl rfl ?_
      show Zr sc 57 5 [zp a0, zp a1, zj (x2 + 1)] [] (w.set a0 (zob 4 [zp (a0 + 1), zp (a0 + 6), zj wy, zj st, zj hd, zj hn, zj sn, zp (a0 + 9), zp (a0 + 10), zj nm, zj ar, zj (max pk r_18), zj dn, zp (a0 + 11)])) ov w' c s
      exact h
    · replace h := h.2.1 hp
      refine rl_sw (t := 56) rfl hr_13 (by rw [hp]; rfl) ?_
      show Zr sc 57 56 [zp a0, zp a1, zj x2] [] w ov w' c s
      refine Zr_st (q := (57, [zp a0, zp a1, zj x2], [zp a0])) rfl rfl rfl ?_
      show Zr sc 57 57 [zp a0, zp a1, zj x2] [zp a0] w ov w' c s
      refine Zr_st (q := (58, [zp a0, zp a1, zj x2], [zp a1, zp a0])) rfl rfl rfl ?_
      show Zr sc 57 58 [zp a0, zp a1, zj x2] [zp a1, zp a0] w ov w' c s
      refine Zr_st (q := (59, [zp a0, zp a1, zj x2], [zj x2, zp a1, zp a0])) rfl rfl rfl ?_
      show Zr sc 57 59 [zp a0, zp a1, zj x2] [zj x2, zp a1, zp a0] w ov w' c s
      obtain ⟨r_22, hk_9, h⟩ := h
      refine rn_cal0 (ins := .invokevirtual 89) (rest := [zp a0]) rfl rfl rfl rfl (zinv_v (fs := _) hl_1 rfl rfl rfl rfl) rfl rfl hk_9 ?_
      show Zr sc 57 62 [zp a0, zp a1, zj x2] [zj r_22, zp a0] w ov w' c s
      obtain ⟨w_23, hk_24, h⟩ := h
      refine rn_cal0 (ins := .invokevirtual 90) (rest := []) rfl rfl rfl rfl (zinv_v (fs := _) L0 rfl rfl rfl rfl) rfl rfl hk_24 ?_
      show Zr sc 57 65 [zp a0, zp a1, zj x2] [] w_23 ov w' c s
      refine Zr_st (q := (124, [zp a0, zp a1, zj x2], [])) rfl rfl rfl ?_
      show Zr sc 57 124 [zp a0, zp a1, zj x2] [] w_23 ov w' c s
      refine Zr_st (q := (125, [zp a0, zp a1, zj x2], [zp a0])) rfl rfl rfl ?_
      show Zr sc 57 125 [zp a0, zp a1, zj x2] [zp a0] w_23 ov w' c s
      refine Zr_st (q := (126, [zp a0, zp a1, zj x2], [zp a0, zp a0])) rfl rfl rfl ?_
      show Zr sc 57 126 [zp a0, zp a1, zj x2] [zp a0, zp a0] w_23 ov w' c s
      obtain ⟨wy_26, st_27, hd_28, hn_29, sn_30, nm_31, ar_32, pk_33, dn_34, hw_25, h⟩ := h
      refine rl_gf rfl hw_25 rfl rfl ?_
      show Zr sc 57 129 [zp a0, zp a1, zj x2] [zj pk_33, zp a0] w_23 ov w' c s
      refine Zr_st (q := (130, [zp a0, zp a1, zj x2], [zp a0, zj pk_33, zp a0])) rfl rfl rfl ?_
      show Zr sc 57 130 [zp a0, zp a1, zj x2] [zp a0, zj pk_33, zp a0] w_23 ov w' c s
      refine rl_gf rfl hw_25 rfl rfl ?_
      show Zr sc 57 133 [zp a0, zp a1, zj x2] [zp (a0 + 1), zj pk_33, zp a0] w_23 ov w' c s
      obtain ⟨fs_36, hl_35, h⟩ := h
      obtain ⟨r_39, hk_9, h⟩ := h
      refine rn_cal0 (ins := .invokevirtual 110) (rest := [zj pk_33, zp a0]) rfl rfl rfl rfl (zinv_v (fs := _) hl_35 rfl rfl rfl rfl) rfl rfl hk_9 ?_
      show Zr sc 57 136 [zp a0, zp a1, zj x2] [zj r_39, zj pk_33, zp a0] w_23 ov w' c s
      obtain ⟨hm_40, h⟩ := h
      refine Zr_mx (b := true) (ins := .invokestatic 113) (rest := [zp a0]) rfl rfl rfl rfl (zinv_t2 (rest := [zp a0]) rfl rfl rfl rfl rfl) rfl (zmx_j hm_40.1 hm_40.2) ?_
      show Zr sc 57 139 [zp a0, zp a1, zj x2] [zj (max pk_33 r_39), zp a0] w_23 ov w' c s
      refine rl_pf rfl hw_25 rfl rfl rfl ?_
      show Zr sc 57 142 [zp a0, zp a1, zj x2] [] (w_23.set a0 (zob 4 [zp (a0 + 1), zp (a0 + 6), zj wy_26, zj st_27, zj hd_28, zj hn_29, zj sn_30, zp (a0 + 9), zp (a0 + 10), zj nm_31, zj ar_32, zj (max pk_33 r_39), zj dn_34, zp (a0 + 11)])) ov w' c s
      refine rl_inc rfl rfl rfl rfl ?_
      show Zr sc 57 145 [zp a0, zp a1, zj (x2 + 1)] [] (w_23.set a0 (zob 4 [zp (a0 + 1), zp (a0 + 6), zj wy_26, zj st_27, zj hd_28, zj hn_29, zj sn_30, zp (a0 + 9), zp (a0 + 10), zj nm_31, zj ar_32, zj (max pk_33 r_39), zj dn_34, zp (a0 + 11)])) ov w' c s
      refine Zr_st (q := (5, [zp a0, zp a1, zj (x2 + 1)], [])) rfl rfl rfl ?_
      show Zr sc 57 5 [zp a0, zp a1, zj (x2 + 1)] [] (w_23.set a0 (zob 4 [zp (a0 + 1), zp (a0 + 6), zj wy_26, zj st_27, zj hd_28, zj hn_29, zj sn_30, zp (a0 + 9), zp (a0 + 10), zj nm_31, zj ar_32, zj (max pk_33 r_39), zj dn_34, zp (a0 + 11)])) ov w' c s
      exact h
    · replace h := h.2.2.1 hp
      refine rl_sw (t := 68) rfl hr_13 (by rw [hp]; rfl) ?_
      show Zr sc 57 68 [zp a0, zp a1, zj x2] [] w ov w' c s
      refine Zr_st (q := (69, [zp a0, zp a1, zj x2], [zp a0])) rfl rfl rfl ?_
      show Zr sc 57 69 [zp a0, zp a1, zj x2] [zp a0] w ov w' c s
      refine Zr_st (q := (70, [zp a0, zp a1, zj x2], [zp a1, zp a0])) rfl rfl rfl ?_
      show Zr sc 57 70 [zp a0, zp a1, zj x2] [zp a1, zp a0] w ov w' c s
      refine Zr_st (q := (71, [zp a0, zp a1, zj x2], [zj x2, zp a1, zp a0])) rfl rfl rfl ?_
      show Zr sc 57 71 [zp a0, zp a1, zj x2] [zj x2, zp a1, zp a0] w ov w' c s
      obtain ⟨r_43, hk_9, h⟩ := h
      refine rn_cal0 (ins := .invokevirtual 94) (rest := [zp a0]) rfl rfl rfl rfl (zinv_v (fs := _) hl_1 rfl rfl rfl rfl) rfl rfl hk_9 ?_
      show Zr sc 57 74 [zp a0, zp a1, zj x2] [zj r_43, zp a0] w ov w' c s
      obtain ⟨w_44, hk_45, h⟩ := h
      refine rn_cal0 (ins := .invokevirtual 97) (rest := []) rfl rfl rfl rfl (zinv_v (fs := _) L0 rfl rfl rfl rfl) rfl rfl hk_45 ?_
      show Zr sc 57 77 [zp a0, zp a1, zj x2] [] w_44 ov w' c s
      refine Zr_st (q := (124, [zp a0, zp a1, zj x2], [])) rfl rfl rfl ?_
      show Zr sc 57 124 [zp a0, zp a1, zj x2] [] w_44 ov w' c s
      refine Zr_st (q := (125, [zp a0, zp a1, zj x2], [zp a0])) rfl rfl rfl ?_
      show Zr sc 57 125 [zp a0, zp a1, zj x2] [zp a0] w_44 ov w' c s
      refine Zr_st (q := (126, [zp a0, zp a1, zj x2], [zp a0, zp a0])) rfl rfl rfl ?_
      show Zr sc 57 126 [zp a0, zp a1, zj x2] [zp a0, zp a0] w_44 ov w' c s
      obtain ⟨wy_47, st_48, hd_49, hn_50, sn_51, nm_52, ar_53, pk_54, dn_55, hw_46, h⟩ := h
      refine rl_gf rfl hw_46 rfl rfl ?_
      show Zr sc 57 129 [zp a0, zp a1, zj x2] [zj pk_54, zp a0] w_44 ov w' c s
      refine Zr_st (q := (130, [zp a0, zp a1, zj x2], [zp a0, zj pk_54, zp a0])) rfl rfl rfl ?_
      show Zr sc 57 130 [zp a0, zp a1, zj x2] [zp a0, zj pk_54, zp a0] w_44 ov w' c s
      refine rl_gf rfl hw_46 rfl rfl ?_
      show Zr sc 57 133 [zp a0, zp a1, zj x2] [zp (a0 + 1), zj pk_54, zp a0] w_44 ov w' c s
      obtain ⟨fs_57, hl_56, h⟩ := h
      obtain ⟨r_60, hk_9, h⟩ := h
      refine rn_cal0 (ins := .invokevirtual 110) (rest := [zj pk_54, zp a0]) rfl rfl rfl rfl (zinv_v (fs := _) hl_56 rfl rfl rfl rfl) rfl rfl hk_9 ?_
      show Zr sc 57 136 [zp a0, zp a1, zj x2] [zj r_60, zj pk_54, zp a0] w_44 ov w' c s
      obtain ⟨hm_61, h⟩ := h
      refine Zr_mx (b := true) (ins := .invokestatic 113) (rest := [zp a0]) rfl rfl rfl rfl (zinv_t2 (rest := [zp a0]) rfl rfl rfl rfl rfl) rfl (zmx_j hm_61.1 hm_61.2) ?_
      show Zr sc 57 139 [zp a0, zp a1, zj x2] [zj (max pk_54 r_60), zp a0] w_44 ov w' c s
      refine rl_pf rfl hw_46 rfl rfl rfl ?_
      show Zr sc 57 142 [zp a0, zp a1, zj x2] [] (w_44.set a0 (zob 4 [zp (a0 + 1), zp (a0 + 6), zj wy_47, zj st_48, zj hd_49, zj hn_50, zj sn_51, zp (a0 + 9), zp (a0 + 10), zj nm_52, zj ar_53, zj (max pk_54 r_60), zj dn_55, zp (a0 + 11)])) ov w' c s
      refine rl_inc rfl rfl rfl rfl ?_
      show Zr sc 57 145 [zp a0, zp a1, zj (x2 + 1)] [] (w_44.set a0 (zob 4 [zp (a0 + 1), zp (a0 + 6), zj wy_47, zj st_48, zj hd_49, zj hn_50, zj sn_51, zp (a0 + 9), zp (a0 + 10), zj nm_52, zj ar_53, zj (max pk_54 r_60), zj dn_55, zp (a0 + 11)])) ov w' c s
      refine Zr_st (q := (5, [zp a0, zp a1, zj (x2 + 1)], [])) rfl rfl rfl ?_
      show Zr sc 57 5 [zp a0, zp a1, zj (x2 + 1)] [] (w_44.set a0 (zob 4 [zp (a0 + 1), zp (a0 + 6), zj wy_47, zj st_48, zj hd_49, zj hn_50, zj sn_51, zp (a0 + 9), zp (a0 + 10), zj nm_52, zj ar_53, zj (max pk_54 r_60), zj dn_55, zp (a0 + 11)])) ov w' c s
      exact h
    · replace h := h.2.2.2.1 hp
      refine rl_sw (t := 80) rfl hr_13 (by rw [hp]; rfl) ?_
      show Zr sc 57 80 [zp a0, zp a1, zj x2] [] w ov w' c s
      refine Zr_st (q := (81, [zp a0, zp a1, zj x2], [zp a0])) rfl rfl rfl ?_
      show Zr sc 57 81 [zp a0, zp a1, zj x2] [zp a0] w ov w' c s
      refine Zr_st (q := (82, [zp a0, zp a1, zj x2], [zp a1, zp a0])) rfl rfl rfl ?_
      show Zr sc 57 82 [zp a0, zp a1, zj x2] [zp a1, zp a0] w ov w' c s
      refine Zr_st (q := (83, [zp a0, zp a1, zj x2], [zj x2, zp a1, zp a0])) rfl rfl rfl ?_
      show Zr sc 57 83 [zp a0, zp a1, zj x2] [zj x2, zp a1, zp a0] w ov w' c s
      obtain ⟨r_64, hk_9, h⟩ := h
      refine rn_cal0 (ins := .invokevirtual 94) (rest := [zp a0]) rfl rfl rfl rfl (zinv_v (fs := _) hl_1 rfl rfl rfl rfl) rfl rfl hk_9 ?_
      show Zr sc 57 86 [zp a0, zp a1, zj x2] [zj r_64, zp a0] w ov w' c s
      refine Zr_st (q := (87, [zp a0, zp a1, zj x2], [zp a1, zj r_64, zp a0])) rfl rfl rfl ?_
      show Zr sc 57 87 [zp a0, zp a1, zj x2] [zp a1, zj r_64, zp a0] w ov w' c s
      refine Zr_st (q := (88, [zp a0, zp a1, zj x2], [zj x2, zp a1, zj r_64, zp a0])) rfl rfl rfl ?_
      show Zr sc 57 88 [zp a0, zp a1, zj x2] [zj x2, zp a1, zj r_64, zp a0] w ov w' c s
      obtain ⟨r_67, hk_9, h⟩ := h
      refine rn_cal0 (ins := .invokevirtual 89) (rest := [zj r_64, zp a0]) rfl rfl rfl rfl (zinv_v (fs := _) hl_1 rfl rfl rfl rfl) rfl rfl hk_9 ?_
      show Zr sc 57 91 [zp a0, zp a1, zj x2] [zj r_67, zj r_64, zp a0] w ov w' c s
      obtain ⟨w_68, hk_69, h⟩ := h
      refine rn_cal0 (ins := .invokevirtual 100) (rest := []) rfl rfl rfl rfl (zinv_v (fs := _) L0 rfl rfl rfl rfl) rfl rfl hk_69 ?_
      show Zr sc 57 94 [zp a0, zp a1, zj x2] [] w_68 ov w' c s
      refine Zr_st (q := (124, [zp a0, zp a1, zj x2], [])) rfl rfl rfl ?_
      show Zr sc 57 124 [zp a0, zp a1, zj x2] [] w_68 ov w' c s
      refine Zr_st (q := (125, [zp a0, zp a1, zj x2], [zp a0])) rfl rfl rfl ?_
      show Zr sc 57 125 [zp a0, zp a1, zj x2] [zp a0] w_68 ov w' c s
      refine Zr_st (q := (126, [zp a0, zp a1, zj x2], [zp a0, zp a0])) rfl rfl rfl ?_
      show Zr sc 57 126 [zp a0, zp a1, zj x2] [zp a0, zp a0] w_68 ov w' c s
      obtain ⟨wy_71, st_72, hd_73, hn_74, sn_75, nm_76, ar_77, pk_78, dn_79, hw_70, h⟩ := h
      refine rl_gf rfl hw_70 rfl rfl ?_
      show Zr sc 57 129 [zp a0, zp a1, zj x2] [zj pk_78, zp a0] w_68 ov w' c s
      refine Zr_st (q := (130, [zp a0, zp a1, zj x2], [zp a0, zj pk_78, zp a0])) rfl rfl rfl ?_
      show Zr sc 57 130 [zp a0, zp a1, zj x2] [zp a0, zj pk_78, zp a0] w_68 ov w' c s
      refine rl_gf rfl hw_70 rfl rfl ?_
      show Zr sc 57 133 [zp a0, zp a1, zj x2] [zp (a0 + 1), zj pk_78, zp a0] w_68 ov w' c s
      obtain ⟨fs_81, hl_80, h⟩ := h
      obtain ⟨r_84, hk_9, h⟩ := h
      refine rn_cal0 (ins := .invokevirtual 110) (rest := [zj pk_78, zp a0]) rfl rfl rfl rfl (zinv_v (fs := _) hl_80 rfl rfl rfl rfl) rfl rfl hk_9 ?_
      show Zr sc 57 136 [zp a0, zp a1, zj x2] [zj r_84, zj pk_78, zp a0] w_68 ov w' c s
      obtain ⟨hm_85, h⟩ := h
      refine Zr_mx (b := true) (ins := .invokestatic 113) (rest := [zp a0]) rfl rfl rfl rfl (zinv_t2 (rest := [zp a0]) rfl rfl rfl rfl rfl) rfl (zmx_j hm_85.1 hm_85.2) ?_
      show Zr sc 57 139 [zp a0, zp a1, zj x2] [zj (max pk_78 r_84), zp a0] w_68 ov w' c s
      refine rl_pf rfl hw_70 rfl rfl rfl ?_
      show Zr sc 57 142 [zp a0, zp a1, zj x2] [] (w_68.set a0 (zob 4 [zp (a0 + 1), zp (a0 + 6), zj wy_71, zj st_72, zj hd_73, zj hn_74, zj sn_75, zp (a0 + 9), zp (a0 + 10), zj nm_76, zj ar_77, zj (max pk_78 r_84), zj dn_79, zp (a0 + 11)])) ov w' c s
      refine rl_inc rfl rfl rfl rfl ?_
      show Zr sc 57 145 [zp a0, zp a1, zj (x2 + 1)] [] (w_68.set a0 (zob 4 [zp (a0 + 1), zp (a0 + 6), zj wy_71, zj st_72, zj hd_73, zj hn_74, zj sn_75, zp (a0 + 9), zp (a0 + 10), zj nm_76, zj ar_77, zj (max pk_78 r_84), zj dn_79, zp (a0 + 11)])) ov w' c s
      refine Zr_st (q := (5, [zp a0, zp a1, zj (x2 + 1)], [])) rfl rfl rfl ?_
      show Zr sc 57 5 [zp a0, zp a1, zj (x2 + 1)] [] (w_68.set a0 (zob 4 [zp (a0 + 1), zp (a0 + 6), zj wy_71, zj st_72, zj hd_73, zj hn_74, zj sn_75, zp (a0 + 9), zp (a0 + 10), zj nm_76, zj ar_77, zj (max pk_78 r_84), zj dn_79, zp (a0 + 11)])) ov w' c s
      exact h
    · replace h := h.2.2.2.2.1 hp
      refine rl_sw (t := 97) rfl hr_13 (by rw [hp]; rfl) ?_
      show Zr sc 57 97 [zp a0, zp a1, zj x2] [] w ov w' c s
      refine Zr_st (q := (98, [zp a0, zp a1, zj x2], [zp a0])) rfl rfl rfl ?_
      show Zr sc 57 98 [zp a0, zp a1, zj x2] [zp a0] w ov w' c s
      obtain ⟨hk_9, h⟩ := h
      refine rn_cal0 (ins := .invokevirtual 104) (rest := []) rfl rfl rfl rfl (zinv_v (fs := _) L0 rfl rfl rfl rfl) rfl rfl hk_9 ?_
      show Zr sc 57 101 [zp a0, zp a1, zj x2] [] w ov w' c s
      refine Zr_st (q := (124, [zp a0, zp a1, zj x2], [])) rfl rfl rfl ?_
      show Zr sc 57 124 [zp a0, zp a1, zj x2] [] w ov w' c s
      refine Zr_st (q := (125, [zp a0, zp a1, zj x2], [zp a0])) rfl rfl rfl ?_
      show Zr sc 57 125 [zp a0, zp a1, zj x2] [zp a0] w ov w' c s
      refine Zr_st (q := (126, [zp a0, zp a1, zj x2], [zp a0, zp a0])) rfl rfl rfl ?_
      show Zr sc 57 126 [zp a0, zp a1, zj x2] [zp a0, zp a0] w ov w' c s
      refine rl_gf rfl L0 rfl rfl ?_
      show Zr sc 57 129 [zp a0, zp a1, zj x2] [zj pk, zp a0] w ov w' c s
      refine Zr_st (q := (130, [zp a0, zp a1, zj x2], [zp a0, zj pk, zp a0])) rfl rfl rfl ?_
      show Zr sc 57 130 [zp a0, zp a1, zj x2] [zp a0, zj pk, zp a0] w ov w' c s
      refine rl_gf rfl L0 rfl rfl ?_
      show Zr sc 57 133 [zp a0, zp a1, zj x2] [zp (a0 + 1), zj pk, zp a0] w ov w' c s
      obtain ⟨fs_89, hl_88, h⟩ := h
      obtain ⟨r_92, hk_9, h⟩ := h
      refine rn_cal0 (ins := .invokevirtual 110) (rest := [zj pk, zp a0]) rfl rfl rfl rfl (zinv_v (fs := _) hl_88 rfl rfl rfl rfl) rfl rfl hk_9 ?_
      show Zr sc 57 136 [zp a0, zp a1, zj x2] [zj r_92, zj pk, zp a0] w ov w' c s
      obtain ⟨hm_93, h⟩ := h
      refine Zr_mx (b := true) (ins := .invokestatic 113) (rest := [zp a0]) rfl rfl rfl rfl (zinv_t2 (rest := [zp a0]) rfl rfl rfl rfl rfl) rfl (zmx_j hm_93.1 hm_93.2) ?_
      show Zr sc 57 139 [zp a0, zp a1, zj x2] [zj (max pk r_92), zp a0] w ov w' c s
      refine rl_pf rfl L0 rfl rfl rfl ?_
      show Zr sc 57 142 [zp a0, zp a1, zj x2] [] (w.set a0 (zob 4 [zp (a0 + 1), zp (a0 + 6), zj wy, zj st, zj hd, zj hn, zj sn, zp (a0 + 9), zp (a0 + 10), zj nm, zj ar, zj (max pk r_92), zj dn, zp (a0 + 11)])) ov w' c s
      refine rl_inc rfl rfl rfl rfl ?_
      show Zr sc 57 145 [zp a0, zp a1, zj (x2 + 1)] [] (w.set a0 (zob 4 [zp (a0 + 1), zp (a0 + 6), zj wy, zj st, zj hd, zj hn, zj sn, zp (a0 + 9), zp (a0 + 10), zj nm, zj ar, zj (max pk r_92), zj dn, zp (a0 + 11)])) ov w' c s
      refine Zr_st (q := (5, [zp a0, zp a1, zj (x2 + 1)], [])) rfl rfl rfl ?_
      show Zr sc 57 5 [zp a0, zp a1, zj (x2 + 1)] [] (w.set a0 (zob 4 [zp (a0 + 1), zp (a0 + 6), zj wy, zj st, zj hd, zj hn, zj sn, zp (a0 + 9), zp (a0 + 10), zj nm, zj ar, zj (max pk r_92), zj dn, zp (a0 + 11)])) ov w' c s
      exact h
    · replace h := h.2.2.2.2.2.1 hp
      refine rl_sw (t := 104) rfl hr_13 (by rw [hp]; rfl) ?_
      show Zr sc 57 104 [zp a0, zp a1, zj x2] [] w ov w' c s
      refine Zr_st (q := (105, [zp a0, zp a1, zj x2], [zp a0])) rfl rfl rfl ?_
      show Zr sc 57 105 [zp a0, zp a1, zj x2] [zp a0] w ov w' c s
      refine Zr_st (q := (106, [zp a0, zp a1, zj x2], [zp a0, zp a0])) rfl rfl rfl ?_
      show Zr sc 57 106 [zp a0, zp a1, zj x2] [zp a0, zp a0] w ov w' c s
      refine rl_gf rfl L0 rfl rfl ?_
      show Zr sc 57 109 [zp a0, zp a1, zj x2] [zj ar, zp a0] w ov w' c s
      refine rl_ic rfl ?_
      show Zr sc 57 110 [zp a0, zp a1, zj x2] [zj 1, zj ar, zp a0] w ov w' c s
      refine rl_add rfl ?_
      show Zr sc 57 111 [zp a0, zp a1, zj x2] [zj (ar + 1), zp a0] w ov w' c s
      refine rl_pf rfl L0 rfl rfl rfl ?_
      show Zr sc 57 114 [zp a0, zp a1, zj x2] [] (w.set a0 (zob 4 [zp (a0 + 1), zp (a0 + 6), zj wy, zj st, zj hd, zj hn, zj sn, zp (a0 + 9), zp (a0 + 10), zj nm, zj (ar + 1), zj pk, zj dn, zp (a0 + 11)])) ov w' c s
      refine Zr_st (q := (124, [zp a0, zp a1, zj x2], [])) rfl rfl rfl ?_
      show Zr sc 57 124 [zp a0, zp a1, zj x2] [] (w.set a0 (zob 4 [zp (a0 + 1), zp (a0 + 6), zj wy, zj st, zj hd, zj hn, zj sn, zp (a0 + 9), zp (a0 + 10), zj nm, zj (ar + 1), zj pk, zj dn, zp (a0 + 11)])) ov w' c s
      refine Zr_st (q := (125, [zp a0, zp a1, zj x2], [zp a0])) rfl rfl rfl ?_
      show Zr sc 57 125 [zp a0, zp a1, zj x2] [zp a0] (w.set a0 (zob 4 [zp (a0 + 1), zp (a0 + 6), zj wy, zj st, zj hd, zj hn, zj sn, zp (a0 + 9), zp (a0 + 10), zj nm, zj (ar + 1), zj pk, zj dn, zp (a0 + 11)])) ov w' c s
      refine Zr_st (q := (126, [zp a0, zp a1, zj x2], [zp a0, zp a0])) rfl rfl rfl ?_
      show Zr sc 57 126 [zp a0, zp a1, zj x2] [zp a0, zp a0] (w.set a0 (zob 4 [zp (a0 + 1), zp (a0 + 6), zj wy, zj st, zj hd, zj hn, zj sn, zp (a0 + 9), zp (a0 + 10), zj nm, zj (ar + 1), zj pk, zj dn, zp (a0 + 11)])) ov w' c s
      refine rl_gf rfl (zw_s L0) rfl rfl ?_
      show Zr sc 57 129 [zp a0, zp a1, zj x2] [zj pk, zp a0] (w.set a0 (zob 4 [zp (a0 + 1), zp (a0 + 6), zj wy, zj st, zj hd, zj hn, zj sn, zp (a0 + 9), zp (a0 + 10), zj nm, zj (ar + 1), zj pk, zj dn, zp (a0 + 11)])) ov w' c s
      refine Zr_st (q := (130, [zp a0, zp a1, zj x2], [zp a0, zj pk, zp a0])) rfl rfl rfl ?_
      show Zr sc 57 130 [zp a0, zp a1, zj x2] [zp a0, zj pk, zp a0] (w.set a0 (zob 4 [zp (a0 + 1), zp (a0 + 6), zj wy, zj st, zj hd, zj hn, zj sn, zp (a0 + 9), zp (a0 + 10), zj nm, zj (ar + 1), zj pk, zj dn, zp (a0 + 11)])) ov w' c s
      refine rl_gf rfl (zw_s L0) rfl rfl ?_
      show Zr sc 57 133 [zp a0, zp a1, zj x2] [zp (a0 + 1), zj pk, zp a0] (w.set a0 (zob 4 [zp (a0 + 1), zp (a0 + 6), zj wy, zj st, zj hd, zj hn, zj sn, zp (a0 + 9), zp (a0 + 10), zj nm, zj (ar + 1), zj pk, zj dn, zp (a0 + 11)])) ov w' c s
      obtain ⟨fs_95, hl_94, h⟩ := h
      obtain ⟨r_98, hk_9, h⟩ := h
      refine rn_cal0 (ins := .invokevirtual 110) (rest := [zj pk, zp a0]) rfl rfl rfl rfl (zinv_v (fs := _) (zw_o (by omega) hl_94) rfl rfl rfl rfl) rfl rfl hk_9 ?_
      show Zr sc 57 136 [zp a0, zp a1, zj x2] [zj r_98, zj pk, zp a0] (w.set a0 (zob 4 [zp (a0 + 1), zp (a0 + 6), zj wy, zj st, zj hd, zj hn, zj sn, zp (a0 + 9), zp (a0 + 10), zj nm, zj (ar + 1), zj pk, zj dn, zp (a0 + 11)])) ov w' c s
      obtain ⟨hm_99, h⟩ := h
      refine Zr_mx (b := true) (ins := .invokestatic 113) (rest := [zp a0]) rfl rfl rfl rfl (zinv_t2 (rest := [zp a0]) rfl rfl rfl rfl rfl) rfl (zmx_j hm_99.1 hm_99.2) ?_
      show Zr sc 57 139 [zp a0, zp a1, zj x2] [zj (max pk r_98), zp a0] (w.set a0 (zob 4 [zp (a0 + 1), zp (a0 + 6), zj wy, zj st, zj hd, zj hn, zj sn, zp (a0 + 9), zp (a0 + 10), zj nm, zj (ar + 1), zj pk, zj dn, zp (a0 + 11)])) ov w' c s
      refine rl_pf rfl (zw_s L0) rfl rfl rfl ?_
      show Zr sc 57 142 [zp a0, zp a1, zj x2] [] ((w.set a0 (zob 4 [zp (a0 + 1), zp (a0 + 6), zj wy, zj st, zj hd, zj hn, zj sn, zp (a0 + 9), zp (a0 + 10), zj nm, zj (ar + 1), zj pk, zj dn, zp (a0 + 11)])).set a0 (zob 4 [zp (a0 + 1), zp (a0 + 6), zj wy, zj st, zj hd, zj hn, zj sn, zp (a0 + 9), zp (a0 + 10), zj nm, zj (ar + 1), zj (max pk r_98), zj dn, zp (a0 + 11)])) ov w' c s
      refine rl_inc rfl rfl rfl rfl ?_
      show Zr sc 57 145 [zp a0, zp a1, zj (x2 + 1)] [] ((w.set a0 (zob 4 [zp (a0 + 1), zp (a0 + 6), zj wy, zj st, zj hd, zj hn, zj sn, zp (a0 + 9), zp (a0 + 10), zj nm, zj (ar + 1), zj pk, zj dn, zp (a0 + 11)])).set a0 (zob 4 [zp (a0 + 1), zp (a0 + 6), zj wy, zj st, zj hd, zj hn, zj sn, zp (a0 + 9), zp (a0 + 10), zj nm, zj (ar + 1), zj (max pk r_98), zj dn, zp (a0 + 11)])) ov w' c s
      refine Zr_st (q := (5, [zp a0, zp a1, zj (x2 + 1)], [])) rfl rfl rfl ?_
      show Zr sc 57 5 [zp a0, zp a1, zj (x2 + 1)] [] ((w.set a0 (zob 4 [zp (a0 + 1), zp (a0 + 6), zj wy, zj st, zj hd, zj hn, zj sn, zp (a0 + 9), zp (a0 + 10), zj nm, zj (ar + 1), zj pk, zj dn, zp (a0 + 11)])).set a0 (zob 4 [zp (a0 + 1), zp (a0 + 6), zj wy, zj st, zj hd, zj hn, zj sn, zp (a0 + 9), zp (a0 + 10), zj nm, zj (ar + 1), zj (max pk r_98), zj dn, zp (a0 + 11)])) ov w' c s
      exact h
    · replace h := h.2.2.2.2.2.2 hp
      refine rl_sw (t := 117) rfl hr_13 (by rw [hp]; rfl) ?_
      show Zr sc 57 117 [zp a0, zp a1, zj x2] [] w ov w' c s
      refine Zr_st (q := (118, [zp a0, zp a1, zj x2], [zp a0])) rfl rfl rfl ?_
      show Zr sc 57 118 [zp a0, zp a1, zj x2] [zp a0] w ov w' c s
      obtain ⟨w_100, hk_101, h⟩ := h
      refine rn_cal0 (ins := .invokevirtual 107) (rest := []) rfl rfl rfl rfl (zinv_v (fs := _) L0 rfl rfl rfl rfl) rfl rfl hk_101 ?_
      show Zr sc 57 121 [zp a0, zp a1, zj x2] [] w_100 ov w' c s
      refine Zr_st (q := (124, [zp a0, zp a1, zj x2], [])) rfl rfl rfl ?_
      show Zr sc 57 124 [zp a0, zp a1, zj x2] [] w_100 ov w' c s
      refine Zr_st (q := (125, [zp a0, zp a1, zj x2], [zp a0])) rfl rfl rfl ?_
      show Zr sc 57 125 [zp a0, zp a1, zj x2] [zp a0] w_100 ov w' c s
      refine Zr_st (q := (126, [zp a0, zp a1, zj x2], [zp a0, zp a0])) rfl rfl rfl ?_
      show Zr sc 57 126 [zp a0, zp a1, zj x2] [zp a0, zp a0] w_100 ov w' c s
      obtain ⟨wy_103, st_104, hd_105, hn_106, sn_107, nm_108, ar_109, pk_110, dn_111, hw_102, h⟩ := h
      refine rl_gf rfl hw_102 rfl rfl ?_
      show Zr sc 57 129 [zp a0, zp a1, zj x2] [zj pk_110, zp a0] w_100 ov w' c s
      refine Zr_st (q := (130, [zp a0, zp a1, zj x2], [zp a0, zj pk_110, zp a0])) rfl rfl rfl ?_
      show Zr sc 57 130 [zp a0, zp a1, zj x2] [zp a0, zj pk_110, zp a0] w_100 ov w' c s
      refine rl_gf rfl hw_102 rfl rfl ?_
      show Zr sc 57 133 [zp a0, zp a1, zj x2] [zp (a0 + 1), zj pk_110, zp a0] w_100 ov w' c s
      obtain ⟨fs_113, hl_112, h⟩ := h
      obtain ⟨r_116, hk_9, h⟩ := h
      refine rn_cal0 (ins := .invokevirtual 110) (rest := [zj pk_110, zp a0]) rfl rfl rfl rfl (zinv_v (fs := _) hl_112 rfl rfl rfl rfl) rfl rfl hk_9 ?_
      show Zr sc 57 136 [zp a0, zp a1, zj x2] [zj r_116, zj pk_110, zp a0] w_100 ov w' c s
      obtain ⟨hm_117, h⟩ := h
      refine Zr_mx (b := true) (ins := .invokestatic 113) (rest := [zp a0]) rfl rfl rfl rfl (zinv_t2 (rest := [zp a0]) rfl rfl rfl rfl rfl) rfl (zmx_j hm_117.1 hm_117.2) ?_
      show Zr sc 57 139 [zp a0, zp a1, zj x2] [zj (max pk_110 r_116), zp a0] w_100 ov w' c s
      refine rl_pf rfl hw_102 rfl rfl rfl ?_
      show Zr sc 57 142 [zp a0, zp a1, zj x2] [] (w_100.set a0 (zob 4 [zp (a0 + 1), zp (a0 + 6), zj wy_103, zj st_104, zj hd_105, zj hn_106, zj sn_107, zp (a0 + 9), zp (a0 + 10), zj nm_108, zj ar_109, zj (max pk_110 r_116), zj dn_111, zp (a0 + 11)])) ov w' c s
      refine rl_inc rfl rfl rfl rfl ?_
      show Zr sc 57 145 [zp a0, zp a1, zj (x2 + 1)] [] (w_100.set a0 (zob 4 [zp (a0 + 1), zp (a0 + 6), zj wy_103, zj st_104, zj hd_105, zj hn_106, zj sn_107, zp (a0 + 9), zp (a0 + 10), zj nm_108, zj ar_109, zj (max pk_110 r_116), zj dn_111, zp (a0 + 11)])) ov w' c s
      refine Zr_st (q := (5, [zp a0, zp a1, zj (x2 + 1)], [])) rfl rfl rfl ?_
      show Zr sc 57 5 [zp a0, zp a1, zj (x2 + 1)] [] (w_100.set a0 (zob 4 [zp (a0 + 1), zp (a0 + 6), zj wy_103, zj st_104, zj hd_105, zj hn_106, zj sn_107, zp (a0 + 9), zp (a0 + 10), zj nm_108, zj ar_109, zj (max pk_110 r_116), zj dn_111, zp (a0 + 11)])) ov w' c s
      exact h

-- HeapwrightLab$Trace.length()I
set_option maxRecDepth 100000 in
theorem V58_0 {sc : List Value} {w w' : List zE} {ov : Option Value} {c s : Nat} {a0 : Nat} {len : Int} (L0 : w[a0]? = some (zob 5 [zp (a0 + 1), zp (a0 + 2), zp (a0 + 3), zj len])) (h : (ov = some (zj len) ∧ w' = w ∧ c = 0 ∧ s = 0)) : Zr sc 58 0 [zp a0] [] w ov w' c s := by
  refine Zr_st (q := (1, [zp a0], [zp a0])) rfl rfl rfl ?_
  show Zr sc 58 1 [zp a0] [zp a0] w ov w' c s
  refine rl_gf rfl L0 rfl rfl ?_
  show Zr sc 58 4 [zp a0] [zj len] w ov w' c s
  obtain ⟨h1, h2, h3, h4⟩ := h
  subst h1; subst h2; subst h3; subst h4
  exact Zr_ret (ins := .ireturn) rfl rfl

-- HeapwrightLab$Trace.kindOf(I)I
set_option maxRecDepth 100000 in
theorem V59_0 {sc : List Value} {w w' : List zE} {ov : Option Value} {c s : Nat} {a0 : Nat} {x1 : Int} {len : Int} {tk : List Int} (L0 : w[a0]? = some (zob 5 [zp (a0 + 1), zp (a0 + 2), zp (a0 + 3), zj len])) (L1 : w[(a0 + 1)]? = some (za tk)) (h : (∃ r_3 : Int, Zc sc 60 [zp a0, zj x1] w (some (zj r_3)) w 0 0 ∧ ((zrg r_3) ∧ ((r_3 = 0 → (ov = some (zj (-1)) ∧ w' = w ∧ c = 0 ∧ s = 0)) ∧ (¬ (r_3 = 0) → (((0 : Int) ≤ x1 ∧ x1 < (tk.length : Int) ∧ x1 ≤ (2147483647 : Int)) ∧ (ov = some (zj (zgi tk x1)) ∧ w' = w ∧ c = 0 ∧ s = 0))))))) : Zr sc 59 0 [zp a0, zj x1] [] w ov w' c s := by
  refine Zr_st (q := (1, [zp a0, zj x1], [zp a0])) rfl rfl rfl ?_
  show Zr sc 59 1 [zp a0, zj x1] [zp a0] w ov w' c s
  refine Zr_st (q := (2, [zp a0, zj x1], [zj x1, zp a0])) rfl rfl rfl ?_
  show Zr sc 59 2 [zp a0, zj x1] [zj x1, zp a0] w ov w' c s
  obtain ⟨r_3, hk_9, h⟩ := h
  refine rn_cal0 (ins := .invokevirtual 25) (rest := []) rfl rfl rfl rfl (zinv_v (fs := _) L0 rfl rfl rfl rfl) rfl rfl hk_9 ?_
  show Zr sc 59 5 [zp a0, zj x1] [zj r_3] w ov w' c s
  obtain ⟨hr_4, h⟩ := h
  refine Zr_b0 (p := r_3 = 0) rfl rfl (zcmp_0 (cnd := .eq) hr_4) (fun hp => ?_) (fun hp => ?_)
  · replace h := h.1 hp
    show Zr sc 59 17 [zp a0, zj x1] [] w ov w' c s
    refine rl_ic rfl ?_
    show Zr sc 59 18 [zp a0, zj x1] [zj (-1)] w ov w' c s
    obtain ⟨h1, h2, h3, h4⟩ := h
    subst h1; subst h2; subst h3; subst h4
    exact Zr_ret (ins := .ireturn) rfl rfl
  · replace h := h.2 hp
    show Zr sc 59 8 [zp a0, zj x1] [] w ov w' c s
    refine Zr_st (q := (9, [zp a0, zj x1], [zp a0])) rfl rfl rfl ?_
    show Zr sc 59 9 [zp a0, zj x1] [zp a0] w ov w' c s
    refine rl_gf rfl L0 rfl rfl ?_
    show Zr sc 59 12 [zp a0, zj x1] [zp (a0 + 1)] w ov w' c s
    refine Zr_st (q := (13, [zp a0, zj x1], [zj x1, zp (a0 + 1)])) rfl rfl rfl ?_
    show Zr sc 59 13 [zp a0, zj x1] [zj x1, zp (a0 + 1)] w ov w' c s
    obtain ⟨hi_5, h⟩ := h
    refine rl_ia rfl L1 hi_5.1 hi_5.2.1 hi_5.2.2 ?_
    show Zr sc 59 14 [zp a0, zj x1] [zj (zgi tk x1)] w ov w' c s
    refine Zr_st (q := (18, [zp a0, zj x1], [zj (zgi tk x1)])) rfl rfl rfl ?_
    show Zr sc 59 18 [zp a0, zj x1] [zj (zgi tk x1)] w ov w' c s
    obtain ⟨h1, h2, h3, h4⟩ := h
    subst h1; subst h2; subst h3; subst h4
    exact Zr_ret (ins := .ireturn) rfl rfl

-- HeapwrightLab$Trace.isDeed(I)Z
set_option maxRecDepth 100000 in
theorem V60_0 {sc : List Value} {w w' : List zE} {ov : Option Value} {c s : Nat} {a0 : Nat} {x1 : Int} {len : Int} (L0 : w[a0]? = some (zob 5 [zp (a0 + 1), zp (a0 + 2), zp (a0 + 3), zj len])) (h : ((zrg x1) ∧ ((x1 < 0 → (ov = some (zj 0) ∧ w' = w ∧ c = 0 ∧ s = 0)) ∧ (¬ (x1 < 0) → ((zrg x1 ∧ zrg len) ∧ ((len ≤ x1 → (ov = some (zj 0) ∧ w' = w ∧ c = 0 ∧ s = 0)) ∧ (¬ (len ≤ x1) → (ov = some (zj 1) ∧ w' = w ∧ c = 0 ∧ s = 0)))))))) : Zr sc 60 0 [zp a0, zj x1] [] w ov w' c s := by
  refine Zr_st (q := (1, [zp a0, zj x1], [zj x1])) rfl rfl rfl ?_
  show Zr sc 60 1 [zp a0, zj x1] [zj x1] w ov w' c s
  obtain ⟨hr_1, h⟩ := h
  refine Zr_b0 (p := x1 < 0) rfl rfl (zcmp_0 (cnd := .lt) hr_1) (fun hp => ?_) (fun hp => ?_)
  · replace h := h.1 hp
    show Zr sc 60 16 [zp a0, zj x1] [] w ov w' c s
    refine rl_ic rfl ?_
    show Zr sc 60 17 [zp a0, zj x1] [zj 0] w ov w' c s
    obtain ⟨h1, h2, h3, h4⟩ := h
    subst h1; subst h2; subst h3; subst h4
    exact Zr_ret (ins := .ireturn) rfl rfl
  · replace h := h.2 hp
    show Zr sc 60 4 [zp a0, zj x1] [] w ov w' c s
    refine Zr_st (q := (5, [zp a0, zj x1], [zj x1])) rfl rfl rfl ?_
    show Zr sc 60 5 [zp a0, zj x1] [zj x1] w ov w' c s
    refine Zr_st (q := (6, [zp a0, zj x1], [zp a0, zj x1])) rfl rfl rfl ?_
    show Zr sc 60 6 [zp a0, zj x1] [zp a0, zj x1] w ov w' c s
    refine rl_gf rfl L0 rfl rfl ?_
    show Zr sc 60 9 [zp a0, zj x1] [zj len, zj x1] w ov w' c s
    obtain ⟨hr_2, h⟩ := h
    refine Zr_br (p := len ≤ x1) rfl rfl (zcmp_j (cnd := .ge) hr_2.1 hr_2.2) (fun hp => ?_) (fun hp => ?_)
    · replace h := h.1 hp
      show Zr sc 60 16 [zp a0, zj x1] [] w ov w' c s
      refine rl_ic rfl ?_
      show Zr sc 60 17 [zp a0, zj x1] [zj 0] w ov w' c s
      obtain ⟨h1, h2, h3, h4⟩ := h
      subst h1; subst h2; subst h3; subst h4
      exact Zr_ret (ins := .ireturn) rfl rfl
    · replace h := h.2 hp
      show Zr sc 60 12 [zp a0, zj x1] [] w ov w' c s
      refine rl_ic rfl ?_
      show Zr sc 60 13 [zp a0, zj x1] [zj 1] w ov w' c s
      refine Zr_st (q := (17, [zp a0, zj x1], [zj 1])) rfl rfl rfl ?_
      show Zr sc 60 17 [zp a0, zj x1] [zj 1] w ov w' c s
      obtain ⟨h1, h2, h3, h4⟩ := h
      subst h1; subst h2; subst h3; subst h4
      exact Zr_ret (ins := .ireturn) rfl rfl

-- HeapwrightLab$Trace.sizeOf(I)I
set_option maxRecDepth 100000 in
theorem V61_0 {sc : List Value} {w w' : List zE} {ov : Option Value} {c s : Nat} {a0 : Nat} {x1 : Int} {len : Int} {tz : List Int} (L0 : w[a0]? = some (zob 5 [zp (a0 + 1), zp (a0 + 2), zp (a0 + 3), zj len])) (L3 : w[(a0 + 3)]? = some (za tz)) (h : (∃ r_3 : Int, Zc sc 60 [zp a0, zj x1] w (some (zj r_3)) w 0 0 ∧ ((zrg r_3) ∧ ((r_3 = 0 → (ov = some (zj (-1)) ∧ w' = w ∧ c = 0 ∧ s = 0)) ∧ (¬ (r_3 = 0) → (((0 : Int) ≤ x1 ∧ x1 < (tz.length : Int) ∧ x1 ≤ (2147483647 : Int)) ∧ (ov = some (zj (zgi tz x1)) ∧ w' = w ∧ c = 0 ∧ s = 0))))))) : Zr sc 61 0 [zp a0, zj x1] [] w ov w' c s := by
  refine Zr_st (q := (1, [zp a0, zj x1], [zp a0])) rfl rfl rfl ?_
  show Zr sc 61 1 [zp a0, zj x1] [zp a0] w ov w' c s
  refine Zr_st (q := (2, [zp a0, zj x1], [zj x1, zp a0])) rfl rfl rfl ?_
  show Zr sc 61 2 [zp a0, zj x1] [zj x1, zp a0] w ov w' c s
  obtain ⟨r_3, hk_9, h⟩ := h
  refine rn_cal0 (ins := .invokevirtual 25) (rest := []) rfl rfl rfl rfl (zinv_v (fs := _) L0 rfl rfl rfl rfl) rfl rfl hk_9 ?_
  show Zr sc 61 5 [zp a0, zj x1] [zj r_3] w ov w' c s
  obtain ⟨hr_4, h⟩ := h
  refine Zr_b0 (p := r_3 = 0) rfl rfl (zcmp_0 (cnd := .eq) hr_4) (fun hp => ?_) (fun hp => ?_)
  · replace h := h.1 hp
    show Zr sc 61 17 [zp a0, zj x1] [] w ov w' c s
    refine rl_ic rfl ?_
    show Zr sc 61 18 [zp a0, zj x1] [zj (-1)] w ov w' c s
    obtain ⟨h1, h2, h3, h4⟩ := h
    subst h1; subst h2; subst h3; subst h4
    exact Zr_ret (ins := .ireturn) rfl rfl
  · replace h := h.2 hp
    show Zr sc 61 8 [zp a0, zj x1] [] w ov w' c s
    refine Zr_st (q := (9, [zp a0, zj x1], [zp a0])) rfl rfl rfl ?_
    show Zr sc 61 9 [zp a0, zj x1] [zp a0] w ov w' c s
    refine rl_gf rfl L0 rfl rfl ?_
    show Zr sc 61 12 [zp a0, zj x1] [zp (a0 + 3)] w ov w' c s
    refine Zr_st (q := (13, [zp a0, zj x1], [zj x1, zp (a0 + 3)])) rfl rfl rfl ?_
    show Zr sc 61 13 [zp a0, zj x1] [zj x1, zp (a0 + 3)] w ov w' c s
    obtain ⟨hi_5, h⟩ := h
    refine rl_ia rfl L3 hi_5.1 hi_5.2.1 hi_5.2.2 ?_
    show Zr sc 61 14 [zp a0, zj x1] [zj (zgi tz x1)] w ov w' c s
    refine Zr_st (q := (18, [zp a0, zj x1], [zj (zgi tz x1)])) rfl rfl rfl ?_
    show Zr sc 61 18 [zp a0, zj x1] [zj (zgi tz x1)] w ov w' c s
    obtain ⟨h1, h2, h3, h4⟩ := h
    subst h1; subst h2; subst h3; subst h4
    exact Zr_ret (ins := .ireturn) rfl rfl

-- HeapwrightLab$Memory.welcome(I)V
set_option maxRecDepth 100000 in
theorem V62_0_1 {sc : List Value} {w w' : List zE} {ov : Option Value} {c s : Nat} {a0 : Nat} {x1 : Int} {wy : Int} {st : Int} {hd : Int} {hn : Int} {sn : Int} {nm : Int} {ar : Int} {pk : Int} {dn : Int} {dp : List Int} (L0 : w[a0]? = some (zob 1 [zp (a0 + 1), zp (a0 + 6), zj wy, zj st, zj hd, zj hn, zj sn, zp (a0 + 9), zp (a0 + 10), zj nm, zj ar, zj pk, zj dn])) (L10 : w[(a0 + 10)]? = some (za dp)) (h : ((zrg nm ∧ zrg 80) ∧ ((nm < 80 → (((0 : Int) ≤ nm ∧ nm < (dp.length : Int) ∧ nm ≤ (2147483647 : Int)) ∧ (∃ r_5 : Int, Zc sc 39 [zp a0, zj x1] ((w.set (a0 + 10) (za (zsi dp nm ar))).set a0 (zob 1 [zp (a0 + 1), zp (a0 + 6), zj wy, zj st, zj hd, zj hn, zj sn, zp (a0 + 9), zp (a0 + 10), zj (nm + 1), zj ar, zj pk, zj dn])) (some (zj r_5)) ((w.set (a0 + 10) (za (zsi dp nm ar))).set a0 (zob 1 [zp (a0 + 1), zp (a0 + 6), zj wy, zj st, zj hd, zj hn, zj sn, zp (a0 + 9), zp (a0 + 10), zj (nm + 1), zj ar, zj pk, zj dn])) 0 0 ∧ (∃ r_8 : Int, ∃ w_6 : List zE, Zc sc 63 [zp a0, zj nm, zj x1, zj r_5] ((w.set (a0 + 10) (za (zsi dp nm ar))).set a0 (zob 1 [zp (a0 + 1), zp (a0 + 6), zj wy, zj st, zj hd, zj hn, zj sn, zp (a0 + 9), zp (a0 + 10), zj (nm + 1), zj ar, zj pk, zj dn])) (some (zj r_8)) w_6 0 0 ∧ (ov = none ∧ w' = w_6 ∧ c = 0 ∧ s = 0))))) ∧ (¬ (nm < 80) → (ov = none ∧ w' = w ∧ c = 0 ∧ s = 0))))) : Zr sc 62 0 [zp a0, zj x1, zmk] [] w ov w' c s := by
  refine Zr_st (q := (1, [zp a0, zj x1, zmk], [zp a0])) rfl rfl rfl ?_
  show Zr sc 62 1 [zp a0, zj x1, zmk] [zp a0] w ov w' c s
  refine rl_gf rfl L0 rfl rfl ?_
  show Zr sc 62 4 [zp a0, zj x1, zmk] [zj nm] w ov w' c s
  refine rl_bi rfl (by decide) ?_
  show Zr sc 62 6 [zp a0, zj x1, zmk] [zj 80, zj nm] w ov w' c s
  obtain ⟨hr_1, h⟩ := h
  refine Zr_br (p := nm < 80) rfl rfl (zcmp_j (cnd := .lt) hr_1.1 hr_1.2) (fun hp => ?_) (fun hp => ?_)
  · replace h := h.1 hp
    show Zr sc 62 10 [zp a0, zj x1, zmk] [] w ov w' c s
    refine Zr_st (q := (11, [zp a0, zj x1, zmk], [zp a0])) rfl rfl rfl ?_
    show Zr sc 62 11 [zp a0, zj x1, zmk] [zp a0] w ov w' c s
    refine rl_gf rfl L0 rfl rfl ?_
    show Zr sc 62 14 [zp a0, zj x1, zmk] [zj nm] w ov w' c s
    refine Zr_st (q := (15, [zp a0, zj x1, zj nm], [])) rfl rfl rfl ?_
    show Zr sc 62 15 [zp a0, zj x1, zj nm] [] w ov w' c s
    refine Zr_st (q := (16, [zp a0, zj x1, zj nm], [zp a0])) rfl rfl rfl ?_
    show Zr sc 62 16 [zp a0, zj x1, zj nm] [zp a0] w ov w' c s
    refine rl_gf rfl L0 rfl rfl ?_
    show Zr sc 62 19 [zp a0, zj x1, zj nm] [zp (a0 + 10)] w ov w' c s
    refine Zr_st (q := (20, [zp a0, zj x1, zj nm], [zj nm, zp (a0 + 10)])) rfl rfl rfl ?_
    show Zr sc 62 20 [zp a0, zj x1, zj nm] [zj nm, zp (a0 + 10)] w ov w' c s
    refine Zr_st (q := (21, [zp a0, zj x1, zj nm], [zp a0, zj nm, zp (a0 + 10)])) rfl rfl rfl ?_
    show Zr sc 62 21 [zp a0, zj x1, zj nm] [zp a0, zj nm, zp (a0 + 10)] w ov w' c s
    refine rl_gf rfl L0 rfl rfl ?_
    show Zr sc 62 24 [zp a0, zj x1, zj nm] [zj ar, zj nm, zp (a0 + 10)] w ov w' c s
    obtain ⟨hi_2, h⟩ := h
    refine rl_is rfl L10 hi_2.1 hi_2.2.1 hi_2.2.2 ?_
    show Zr sc 62 25 [zp a0, zj x1, zj nm] [] (w.set (a0 + 10) (za (zsi dp nm ar))) ov w' c s
    refine Zr_st (q := (26, [zp a0, zj x1, zj nm], [zp a0])) rfl rfl rfl ?_
    show Zr sc 62 26 [zp a0, zj x1, zj nm] [zp a0] (w.set (a0 + 10) (za (zsi dp nm ar))) ov w' c s
    refine Zr_st (q := (27, [zp a0, zj x1, zj nm], [zp a0, zp a0])) rfl rfl rfl ?_
    show Zr sc 62 27 [zp a0, zj x1, zj nm] [zp a0, zp a0] (w.set (a0 + 10) (za (zsi dp nm ar))) ov w' c s
    refine rl_gf rfl (zw_o (by omega) L0) rfl rfl ?_
    show Zr sc 62 30 [zp a0, zj x1, zj nm] [zj nm, zp a0] (w.set (a0 + 10) (za (zsi dp nm ar))) ov w' c s
    refine rl_ic rfl ?_
    show Zr sc 62 31 [zp a0, zj x1, zj nm] [zj 1, zj nm, zp a0] (w.set (a0 + 10) (za (zsi dp nm ar))) ov w' c s
    refine rl_add rfl ?_
    show Zr sc 62 32 [zp a0, zj x1, zj nm] [zj (nm + 1), zp a0] (w.set (a0 + 10) (za (zsi dp nm ar))) ov w' c s
    refine rl_pf rfl (zw_o (by omega) L0) rfl rfl rfl ?_
    show Zr sc 62 35 [zp a0, zj x1, zj nm] [] ((w.set (a0 + 10) (za (zsi dp nm ar))).set a0 (zob 1 [zp (a0 + 1), zp (a0 + 6), zj wy, zj st, zj hd, zj hn, zj sn, zp (a0 + 9), zp (a0 + 10), zj (nm + 1), zj ar, zj pk, zj dn])) ov w' c s
    refine Zr_st (q := (36, [zp a0, zj x1, zj nm], [zp a0])) rfl rfl rfl ?_
    show Zr sc 62 36 [zp a0, zj x1, zj nm] [zp a0] ((w.set (a0 + 10) (za (zsi dp nm ar))).set a0 (zob 1 [zp (a0 + 1), zp (a0 + 6), zj wy, zj st, zj hd, zj hn, zj sn, zp (a0 + 9), zp (a0 + 10), zj (nm + 1), zj ar, zj pk, zj dn])) ov w' c s
    refine Zr_st (q := (37, [zp a0, zj x1, zj nm], [zj nm, zp a0])) rfl rfl rfl ?_
    show Zr sc 62 37 [zp a0, zj x1, zj nm] [zj nm, zp a0] ((w.set (a0 + 10) (za (zsi dp nm ar))).set a0 (zob 1 [zp (a0 + 1), zp (a0 + 6), zj wy, zj st, zj hd, zj hn, zj sn, zp (a0 + 9), zp (a0 + 10), zj (nm + 1), zj ar, zj pk, zj dn])) ov w' c s
    refine Zr_st (q := (38, [zp a0, zj x1, zj nm], [zj x1, zj nm, zp a0])) rfl rfl rfl ?_
    show Zr sc 62 38 [zp a0, zj x1, zj nm] [zj x1, zj nm, zp a0] ((w.set (a0 + 10) (za (zsi dp nm ar))).set a0 (zob 1 [zp (a0 + 1), zp (a0 + 6), zj wy, zj st, zj hd, zj hn, zj sn, zp (a0 + 9), zp (a0 + 10), zj (nm + 1), zj ar, zj pk, zj dn])) ov w' c s
    refine Zr_st (q := (39, [zp a0, zj x1, zj nm], [zp a0, zj x1, zj nm, zp a0])) rfl rfl rfl ?_
    show Zr sc 62 39 [zp a0, zj x1, zj nm] [zp a0, zj x1, zj nm, zp a0] ((w.set (a0 + 10) (za (zsi dp nm ar))).set a0 (zob 1 [zp (a0 + 1), zp (a0 + 6), zj wy, zj st, zj hd, zj hn, zj sn, zp (a0 + 9), zp (a0 + 10), zj (nm + 1), zj ar, zj pk, zj dn])) ov w' c s
    refine Zr_st (q := (40, [zp a0, zj x1, zj nm], [zj x1, zp a0, zj x1, zj nm, zp a0])) rfl rfl rfl ?_
    show Zr sc 62 40 [zp a0, zj x1, zj nm] [zj x1, zp a0, zj x1, zj nm, zp a0] ((w.set (a0 + 10) (za (zsi dp nm ar))).set a0 (zob 1 [zp (a0 + 1), zp (a0 + 6), zj wy, zj st, zj hd, zj hn, zj sn, zp (a0 + 9), zp (a0 + 10), zj (nm + 1), zj ar, zj pk, zj dn])) ov w' c s
    obtain ⟨r_5, hk_9, h⟩ := h
    refine rn_cal0 (ins := .invokevirtual 124) (rest := [zj x1, zj nm, zp a0]) rfl rfl rfl rfl (zinv_v (fs := _) (zw_s (zw_o (by omega) L0)) rfl rfl rfl rfl) rfl rfl hk_9 ?_
    show Zr sc 62 43 [zp a0, zj x1, zj nm] [zj r_5, zj x1, zj nm, zp a0] ((w.set (a0 + 10) (za (zsi dp nm ar))).set a0 (zob 1 [zp (a0 + 1), zp (a0 + 6), zj wy, zj st, zj hd, zj hn, zj sn, zp (a0 + 9), zp (a0 + 10), zj (nm + 1), zj ar, zj pk, zj dn])) ov w' c s
    obtain ⟨r_8, w_6, hk_7, h⟩ := h
    refine rn_cal0 (ins := .invokevirtual 162) (rest := []) rfl rfl rfl rfl (zinv_v (fs := _) (zw_s (zw_o (by omega) L0)) rfl rfl rfl rfl) rfl rfl hk_7 ?_
    show Zr sc 62 46 [zp a0, zj x1, zj nm] [zj r_8] w_6 ov w' c s
    refine Zr_st (q := (47, [zp a0, zj x1, zj nm], [])) rfl rfl rfl ?_
    show Zr sc 62 47 [zp a0, zj x1, zj nm] [] w_6 ov w' c s
    obtain ⟨h1, h2, h3, h4⟩ := h
    subst h1; subst h2; subst h3; subst h4
    exact Zr_ret (ins := .return_) rfl rfl
  · replace h := h.2 hp
    show Zr sc 62 9 [zp a0, zj x1, zmk] [] w ov w' c s
    obtain ⟨h1, h2, h3, h4⟩ := h
    subst h1; subst h2; subst h3; subst h4
    exact Zr_ret (ins := .return_) rfl rfl

-- HeapwrightLab$Memory.welcome(I)V
set_option maxRecDepth 100000 in
theorem V62_0_2 {sc : List Value} {w w' : List zE} {ov : Option Value} {c s : Nat} {a0 : Nat} {x1 : Int} {wy : Int} {st : Int} {hd : Int} {hn : Int} {sn : Int} {nm : Int} {ar : Int} {pk : Int} {dn : Int} {dp : List Int} (L0 : w[a0]? = some (zob 2 [zp (a0 + 1), zp (a0 + 6), zj wy, zj st, zj hd, zj hn, zj sn, zp (a0 + 9), zp (a0 + 10), zj nm, zj ar, zj pk, zj dn])) (L10 : w[(a0 + 10)]? = some (za dp)) (h : ((zrg nm ∧ zrg 80) ∧ ((nm < 80 → (((0 : Int) ≤ nm ∧ nm < (dp.length : Int) ∧ nm ≤ (2147483647 : Int)) ∧ (∃ r_5 : Int, Zc sc 40 [zp a0, zj x1] ((w.set (a0 + 10) (za (zsi dp nm ar))).set a0 (zob 2 [zp (a0 + 1), zp (a0 + 6), zj wy, zj st, zj hd, zj hn, zj sn, zp (a0 + 9), zp (a0 + 10), zj (nm + 1), zj ar, zj pk, zj dn])) (some (zj r_5)) ((w.set (a0 + 10) (za (zsi dp nm ar))).set a0 (zob 2 [zp (a0 + 1), zp (a0 + 6), zj wy, zj st, zj hd, zj hn, zj sn, zp (a0 + 9), zp (a0 + 10), zj (nm + 1), zj ar, zj pk, zj dn])) 0 0 ∧ (∃ r_8 : Int, ∃ w_6 : List zE, Zc sc 63 [zp a0, zj nm, zj x1, zj r_5] ((w.set (a0 + 10) (za (zsi dp nm ar))).set a0 (zob 2 [zp (a0 + 1), zp (a0 + 6), zj wy, zj st, zj hd, zj hn, zj sn, zp (a0 + 9), zp (a0 + 10), zj (nm + 1), zj ar, zj pk, zj dn])) (some (zj r_8)) w_6 0 0 ∧ (ov = none ∧ w' = w_6 ∧ c = 0 ∧ s = 0))))) ∧ (¬ (nm < 80) → (ov = none ∧ w' = w ∧ c = 0 ∧ s = 0))))) : Zr sc 62 0 [zp a0, zj x1, zmk] [] w ov w' c s := by
  refine Zr_st (q := (1, [zp a0, zj x1, zmk], [zp a0])) rfl rfl rfl ?_
  show Zr sc 62 1 [zp a0, zj x1, zmk] [zp a0] w ov w' c s
  refine rl_gf rfl L0 rfl rfl ?_
  show Zr sc 62 4 [zp a0, zj x1, zmk] [zj nm] w ov w' c s
  refine rl_bi rfl (by decide) ?_
  show Zr sc 62 6 [zp a0, zj x1, zmk] [zj 80, zj nm] w ov w' c s
  obtain ⟨hr_1, h⟩ := h
  refine Zr_br (p := nm < 80) rfl rfl (zcmp_j (cnd := .lt) hr_1.1 hr_1.2) (fun hp => ?_) (fun hp => ?_)
  · replace h := h.1 hp
    show Zr sc 62 10 [zp a0, zj x1, zmk] [] w ov w' c s
    refine Zr_st (q := (11, [zp a0, zj x1, zmk], [zp a0])) rfl rfl rfl ?_
    show Zr sc 62 11 [zp a0, zj x1, zmk] [zp a0] w ov w' c s
    refine rl_gf rfl L0 rfl rfl ?_
    show Zr sc 62 14 [zp a0, zj x1, zmk] [zj nm] w ov w' c s
    refine Zr_st (q := (15, [zp a0, zj x1, zj nm], [])) rfl rfl rfl ?_
    show Zr sc 62 15 [zp a0, zj x1, zj nm] [] w ov w' c s
    refine Zr_st (q := (16, [zp a0, zj x1, zj nm], [zp a0])) rfl rfl rfl ?_
    show Zr sc 62 16 [zp a0, zj x1, zj nm] [zp a0] w ov w' c s
    refine rl_gf rfl L0 rfl rfl ?_
    show Zr sc 62 19 [zp a0, zj x1, zj nm] [zp (a0 + 10)] w ov w' c s
    refine Zr_st (q := (20, [zp a0, zj x1, zj nm], [zj nm, zp (a0 + 10)])) rfl rfl rfl ?_
    show Zr sc 62 20 [zp a0, zj x1, zj nm] [zj nm, zp (a0 + 10)] w ov w' c s
    refine Zr_st (q := (21, [zp a0, zj x1, zj nm], [zp a0, zj nm, zp (a0 + 10)])) rfl rfl rfl ?_
    show Zr sc 62 21 [zp a0, zj x1, zj nm] [zp a0, zj nm, zp (a0 + 10)] w ov w' c s
    refine rl_gf rfl L0 rfl rfl ?_
    show Zr sc 62 24 [zp a0, zj x1, zj nm] [zj ar, zj nm, zp (a0 + 10)] w ov w' c s
    obtain ⟨hi_2, h⟩ := h
    refine rl_is rfl L10 hi_2.1 hi_2.2.1 hi_2.2.2 ?_
    show Zr sc 62 25 [zp a0, zj x1, zj nm] [] (w.set (a0 + 10) (za (zsi dp nm ar))) ov w' c s
    refine Zr_st (q := (26, [zp a0, zj x1, zj nm], [zp a0])) rfl rfl rfl ?_
    show Zr sc 62 26 [zp a0, zj x1, zj nm] [zp a0] (w.set (a0 + 10) (za (zsi dp nm ar))) ov w' c s
    refine Zr_st (q := (27, [zp a0, zj x1, zj nm], [zp a0, zp a0])) rfl rfl rfl ?_
    show Zr sc 62 27 [zp a0, zj x1, zj nm] [zp a0, zp a0] (w.set (a0 + 10) (za (zsi dp nm ar))) ov w' c s
    refine rl_gf rfl (zw_o (by omega) L0) rfl rfl ?_
    show Zr sc 62 30 [zp a0, zj x1, zj nm] [zj nm, zp a0] (w.set (a0 + 10) (za (zsi dp nm ar))) ov w' c s
    refine rl_ic rfl ?_
    show Zr sc 62 31 [zp a0, zj x1, zj nm] [zj 1, zj nm, zp a0] (w.set (a0 + 10) (za (zsi dp nm ar))) ov w' c s
    refine rl_add rfl ?_
    show Zr sc 62 32 [zp a0, zj x1, zj nm] [zj (nm + 1), zp a0] (w.set (a0 + 10) (za (zsi dp nm ar))) ov w' c s
    refine rl_pf rfl (zw_o (by omega) L0) rfl rfl rfl ?_
    show Zr sc 62 35 [zp a0, zj x1, zj nm] [] ((w.set (a0 + 10) (za (zsi dp nm ar))).set a0 (zob 2 [zp (a0 + 1), zp (a0 + 6), zj wy, zj st, zj hd, zj hn, zj sn, zp (a0 + 9), zp (a0 + 10), zj (nm + 1), zj ar, zj pk, zj dn])) ov w' c s
    refine Zr_st (q := (36, [zp a0, zj x1, zj nm], [zp a0])) rfl rfl rfl ?_
    show Zr sc 62 36 [zp a0, zj x1, zj nm] [zp a0] ((w.set (a0 + 10) (za (zsi dp nm ar))).set a0 (zob 2 [zp (a0 + 1), zp (a0 + 6), zj wy, zj st, zj hd, zj hn, zj sn, zp (a0 + 9), zp (a0 + 10), zj (nm + 1), zj ar, zj pk, zj dn])) ov w' c s
    refine Zr_st (q := (37, [zp a0, zj x1, zj nm], [zj nm, zp a0])) rfl rfl rfl ?_
    show Zr sc 62 37 [zp a0, zj x1, zj nm] [zj nm, zp a0] ((w.set (a0 + 10) (za (zsi dp nm ar))).set a0 (zob 2 [zp (a0 + 1), zp (a0 + 6), zj wy, zj st, zj hd, zj hn, zj sn, zp (a0 + 9), zp (a0 + 10), zj (nm + 1), zj ar, zj pk, zj dn])) ov w' c s
    refine Zr_st (q := (38, [zp a0, zj x1, zj nm], [zj x1, zj nm, zp a0])) rfl rfl rfl ?_
    show Zr sc 62 38 [zp a0, zj x1, zj nm] [zj x1, zj nm, zp a0] ((w.set (a0 + 10) (za (zsi dp nm ar))).set a0 (zob 2 [zp (a0 + 1), zp (a0 + 6), zj wy, zj st, zj hd, zj hn, zj sn, zp (a0 + 9), zp (a0 + 10), zj (nm + 1), zj ar, zj pk, zj dn])) ov w' c s
    refine Zr_st (q := (39, [zp a0, zj x1, zj nm], [zp a0, zj x1, zj nm, zp a0])) rfl rfl rfl ?_
    show Zr sc 62 39 [zp a0, zj x1, zj nm] [zp a0, zj x1, zj nm, zp a0] ((w.set (a0 + 10) (za (zsi dp nm ar))).set a0 (zob 2 [zp (a0 + 1), zp (a0 + 6), zj wy, zj st, zj hd, zj hn, zj sn, zp (a0 + 9), zp (a0 + 10), zj (nm + 1), zj ar, zj pk, zj dn])) ov w' c s
    refine Zr_st (q := (40, [zp a0, zj x1, zj nm], [zj x1, zp a0, zj x1, zj nm, zp a0])) rfl rfl rfl ?_
    show Zr sc 62 40 [zp a0, zj x1, zj nm] [zj x1, zp a0, zj x1, zj nm, zp a0] ((w.set (a0 + 10) (za (zsi dp nm ar))).set a0 (zob 2 [zp (a0 + 1), zp (a0 + 6), zj wy, zj st, zj hd, zj hn, zj sn, zp (a0 + 9), zp (a0 + 10), zj (nm + 1), zj ar, zj pk, zj dn])) ov w' c s
    obtain ⟨r_5, hk_9, h⟩ := h
    refine rn_cal0 (ins := .invokevirtual 124) (rest := [zj x1, zj nm, zp a0]) rfl rfl rfl rfl (zinv_v (fs := _) (zw_s (zw_o (by omega) L0)) rfl rfl rfl rfl) rfl rfl hk_9 ?_
    show Zr sc 62 43 [zp a0, zj x1, zj nm] [zj r_5, zj x1, zj nm, zp a0] ((w.set (a0 + 10) (za (zsi dp nm ar))).set a0 (zob 2 [zp (a0 + 1), zp (a0 + 6), zj wy, zj st, zj hd, zj hn, zj sn, zp (a0 + 9), zp (a0 + 10), zj (nm + 1), zj ar, zj pk, zj dn])) ov w' c s
    obtain ⟨r_8, w_6, hk_7, h⟩ := h
    refine rn_cal0 (ins := .invokevirtual 162) (rest := []) rfl rfl rfl rfl (zinv_v (fs := _) (zw_s (zw_o (by omega) L0)) rfl rfl rfl rfl) rfl rfl hk_7 ?_
    show Zr sc 62 46 [zp a0, zj x1, zj nm] [zj r_8] w_6 ov w' c s
    refine Zr_st (q := (47, [zp a0, zj x1, zj nm], [])) rfl rfl rfl ?_
    show Zr sc 62 47 [zp a0, zj x1, zj nm] [] w_6 ov w' c s
    obtain ⟨h1, h2, h3, h4⟩ := h
    subst h1; subst h2; subst h3; subst h4
    exact Zr_ret (ins := .return_) rfl rfl
  · replace h := h.2 hp
    show Zr sc 62 9 [zp a0, zj x1, zmk] [] w ov w' c s
    obtain ⟨h1, h2, h3, h4⟩ := h
    subst h1; subst h2; subst h3; subst h4
    exact Zr_ret (ins := .return_) rfl rfl

-- HeapwrightLab$Memory.welcome(I)V
set_option maxRecDepth 100000 in
theorem V62_0_4 {sc : List Value} {w w' : List zE} {ov : Option Value} {c s : Nat} {a0 : Nat} {x1 : Int} {wy : Int} {st : Int} {hd : Int} {hn : Int} {sn : Int} {nm : Int} {ar : Int} {pk : Int} {dn : Int} {dp : List Int} (L0 : w[a0]? = some (zob 4 [zp (a0 + 1), zp (a0 + 6), zj wy, zj st, zj hd, zj hn, zj sn, zp (a0 + 9), zp (a0 + 10), zj nm, zj ar, zj pk, zj dn, zp (a0 + 11)])) (L10 : w[(a0 + 10)]? = some (za dp)) (h : ((zrg nm ∧ zrg 80) ∧ ((nm < 80 → (((0 : Int) ≤ nm ∧ nm < (dp.length : Int) ∧ nm ≤ (2147483647 : Int)) ∧ (∃ r_5 : Int, Zc sc 42 [zp a0, zj x1] ((w.set (a0 + 10) (za (zsi dp nm ar))).set a0 (zob 4 [zp (a0 + 1), zp (a0 + 6), zj wy, zj st, zj hd, zj hn, zj sn, zp (a0 + 9), zp (a0 + 10), zj (nm + 1), zj ar, zj pk, zj dn, zp (a0 + 11)])) (some (zj r_5)) ((w.set (a0 + 10) (za (zsi dp nm ar))).set a0 (zob 4 [zp (a0 + 1), zp (a0 + 6), zj wy, zj st, zj hd, zj hn, zj sn, zp (a0 + 9), zp (a0 + 10), zj (nm + 1), zj ar, zj pk, zj dn, zp (a0 + 11)])) 0 0 ∧ (∃ r_8 : Int, ∃ w_6 : List zE, Zc sc 63 [zp a0, zj nm, zj x1, zj r_5] ((w.set (a0 + 10) (za (zsi dp nm ar))).set a0 (zob 4 [zp (a0 + 1), zp (a0 + 6), zj wy, zj st, zj hd, zj hn, zj sn, zp (a0 + 9), zp (a0 + 10), zj (nm + 1), zj ar, zj pk, zj dn, zp (a0 + 11)])) (some (zj r_8)) w_6 0 0 ∧ (ov = none ∧ w' = w_6 ∧ c = 0 ∧ s = 0))))) ∧ (¬ (nm < 80) → (ov = none ∧ w' = w ∧ c = 0 ∧ s = 0))))) : Zr sc 62 0 [zp a0, zj x1, zmk] [] w ov w' c s := by
  refine Zr_st (q := (1, [zp a0, zj x1, zmk], [zp a0])) rfl rfl rfl ?_
  show Zr sc 62 1 [zp a0, zj x1, zmk] [zp a0] w ov w' c s
  refine rl_gf rfl L0 rfl rfl ?_
  show Zr sc 62 4 [zp a0, zj x1, zmk] [zj nm] w ov w' c s
  refine rl_bi rfl (by decide) ?_
  show Zr sc 62 6 [zp a0, zj x1, zmk] [zj 80, zj nm] w ov w' c s
  obtain ⟨hr_1, h⟩ := h
  refine Zr_br (p := nm < 80) rfl rfl (zcmp_j (cnd := .lt) hr_1.1 hr_1.2) (fun hp => ?_) (fun hp => ?_)
  · replace h := h.1 hp
    show Zr sc 62 10 [zp a0, zj x1, zmk] [] w ov w' c s
    refine Zr_st (q := (11, [zp a0, zj x1, zmk], [zp a0])) rfl rfl rfl ?_
    show Zr sc 62 11 [zp a0, zj x1, zmk] [zp a0] w ov w' c s
    refine rl_gf rfl L0 rfl rfl ?_
    show Zr sc 62 14 [zp a0, zj x1, zmk] [zj nm] w ov w' c s
    refine Zr_st (q := (15, [zp a0, zj x1, zj nm], [])) rfl rfl rfl ?_
    show Zr sc 62 15 [zp a0, zj x1, zj nm] [] w ov w' c s
    refine Zr_st (q := (16, [zp a0, zj x1, zj nm], [zp a0])) rfl rfl rfl ?_
    show Zr sc 62 16 [zp a0, zj x1, zj nm] [zp a0] w ov w' c s
    refine rl_gf rfl L0 rfl rfl ?_
    show Zr sc 62 19 [zp a0, zj x1, zj nm] [zp (a0 + 10)] w ov w' c s
    refine Zr_st (q := (20, [zp a0, zj x1, zj nm], [zj nm, zp (a0 + 10)])) rfl rfl rfl ?_
    show Zr sc 62 20 [zp a0, zj x1, zj nm] [zj nm, zp (a0 + 10)] w ov w' c s
    refine Zr_st (q := (21, [zp a0, zj x1, zj nm], [zp a0, zj nm, zp (a0 + 10)])) rfl rfl rfl ?_
    show Zr sc 62 21 [zp a0, zj x1, zj nm] [zp a0, zj nm, zp (a0 + 10)] w ov w' c s
    refine rl_gf rfl L0 rfl rfl ?_
    show Zr sc 62 24 [zp a0, zj x1, zj nm] [zj ar, zj nm, zp (a0 + 10)] w ov w' c s
    obtain ⟨hi_2, h⟩ := h
    refine rl_is rfl L10 hi_2.1 hi_2.2.1 hi_2.2.2 ?_
    show Zr sc 62 25 [zp a0, zj x1, zj nm] [] (w.set (a0 + 10) (za (zsi dp nm ar))) ov w' c s
    refine Zr_st (q := (26, [zp a0, zj x1, zj nm], [zp a0])) rfl rfl rfl ?_
    show Zr sc 62 26 [zp a0, zj x1, zj nm] [zp a0] (w.set (a0 + 10) (za (zsi dp nm ar))) ov w' c s
    refine Zr_st (q := (27, [zp a0, zj x1, zj nm], [zp a0, zp a0])) rfl rfl rfl ?_
    show Zr sc 62 27 [zp a0, zj x1, zj nm] [zp a0, zp a0] (w.set (a0 + 10) (za (zsi dp nm ar))) ov w' c s
    refine rl_gf rfl (zw_o (by omega) L0) rfl rfl ?_
    show Zr sc 62 30 [zp a0, zj x1, zj nm] [zj nm, zp a0] (w.set (a0 + 10) (za (zsi dp nm ar))) ov w' c s
    refine rl_ic rfl ?_
    show Zr sc 62 31 [zp a0, zj x1, zj nm] [zj 1, zj nm, zp a0] (w.set (a0 + 10) (za (zsi dp nm ar))) ov w' c s
    refine rl_add rfl ?_
    show Zr sc 62 32 [zp a0, zj x1, zj nm] [zj (nm + 1), zp a0] (w.set (a0 + 10) (za (zsi dp nm ar))) ov w' c s
    refine rl_pf rfl (zw_o (by omega) L0) rfl rfl rfl ?_
    show Zr sc 62 35 [zp a0, zj x1, zj nm] [] ((w.set (a0 + 10) (za (zsi dp nm ar))).set a0 (zob 4 [zp (a0 + 1), zp (a0 + 6), zj wy, zj st, zj hd, zj hn, zj sn, zp (a0 + 9), zp (a0 + 10), zj (nm + 1), zj ar, zj pk, zj dn, zp (a0 + 11)])) ov w' c s
    refine Zr_st (q := (36, [zp a0, zj x1, zj nm], [zp a0])) rfl rfl rfl ?_
    show Zr sc 62 36 [zp a0, zj x1, zj nm] [zp a0] ((w.set (a0 + 10) (za (zsi dp nm ar))).set a0 (zob 4 [zp (a0 + 1), zp (a0 + 6), zj wy, zj st, zj hd, zj hn, zj sn, zp (a0 + 9), zp (a0 + 10), zj (nm + 1), zj ar, zj pk, zj dn, zp (a0 + 11)])) ov w' c s
    refine Zr_st (q := (37, [zp a0, zj x1, zj nm], [zj nm, zp a0])) rfl rfl rfl ?_
    show Zr sc 62 37 [zp a0, zj x1, zj nm] [zj nm, zp a0] ((w.set (a0 + 10) (za (zsi dp nm ar))).set a0 (zob 4 [zp (a0 + 1), zp (a0 + 6), zj wy, zj st, zj hd, zj hn, zj sn, zp (a0 + 9), zp (a0 + 10), zj (nm + 1), zj ar, zj pk, zj dn, zp (a0 + 11)])) ov w' c s
    refine Zr_st (q := (38, [zp a0, zj x1, zj nm], [zj x1, zj nm, zp a0])) rfl rfl rfl ?_
    show Zr sc 62 38 [zp a0, zj x1, zj nm] [zj x1, zj nm, zp a0] ((w.set (a0 + 10) (za (zsi dp nm ar))).set a0 (zob 4 [zp (a0 + 1), zp (a0 + 6), zj wy, zj st, zj hd, zj hn, zj sn, zp (a0 + 9), zp (a0 + 10), zj (nm + 1), zj ar, zj pk, zj dn, zp (a0 + 11)])) ov w' c s
    refine Zr_st (q := (39, [zp a0, zj x1, zj nm], [zp a0, zj x1, zj nm, zp a0])) rfl rfl rfl ?_
    show Zr sc 62 39 [zp a0, zj x1, zj nm] [zp a0, zj x1, zj nm, zp a0] ((w.set (a0 + 10) (za (zsi dp nm ar))).set a0 (zob 4 [zp (a0 + 1), zp (a0 + 6), zj wy, zj st, zj hd, zj hn, zj sn, zp (a0 + 9), zp (a0 + 10), zj (nm + 1), zj ar, zj pk, zj dn, zp (a0 + 11)])) ov w' c s
    refine Zr_st (q := (40, [zp a0, zj x1, zj nm], [zj x1, zp a0, zj x1, zj nm, zp a0])) rfl rfl rfl ?_
    show Zr sc 62 40 [zp a0, zj x1, zj nm] [zj x1, zp a0, zj x1, zj nm, zp a0] ((w.set (a0 + 10) (za (zsi dp nm ar))).set a0 (zob 4 [zp (a0 + 1), zp (a0 + 6), zj wy, zj st, zj hd, zj hn, zj sn, zp (a0 + 9), zp (a0 + 10), zj (nm + 1), zj ar, zj pk, zj dn, zp (a0 + 11)])) ov w' c s
    obtain ⟨r_5, hk_9, h⟩ := h
    refine rn_cal0 (ins := .invokevirtual 124) (rest := [zj x1, zj nm, zp a0]) rfl rfl rfl rfl (zinv_v (fs := _) (zw_s (zw_o (by omega) L0)) rfl rfl rfl rfl) rfl rfl hk_9 ?_
    show Zr sc 62 43 [zp a0, zj x1, zj nm] [zj r_5, zj x1, zj nm, zp a0] ((w.set (a0 + 10) (za (zsi dp nm ar))).set a0 (zob 4 [zp (a0 + 1), zp (a0 + 6), zj wy, zj st, zj hd, zj hn, zj sn, zp (a0 + 9), zp (a0 + 10), zj (nm + 1), zj ar, zj pk, zj dn, zp (a0 + 11)])) ov w' c s
    obtain ⟨r_8, w_6, hk_7, h⟩ := h
    refine rn_cal0 (ins := .invokevirtual 162) (rest := []) rfl rfl rfl rfl (zinv_v (fs := _) (zw_s (zw_o (by omega) L0)) rfl rfl rfl rfl) rfl rfl hk_7 ?_
    show Zr sc 62 46 [zp a0, zj x1, zj nm] [zj r_8] w_6 ov w' c s
    refine Zr_st (q := (47, [zp a0, zj x1, zj nm], [])) rfl rfl rfl ?_
    show Zr sc 62 47 [zp a0, zj x1, zj nm] [] w_6 ov w' c s
    obtain ⟨h1, h2, h3, h4⟩ := h
    subst h1; subst h2; subst h3; subst h4
    exact Zr_ret (ins := .return_) rfl rfl
  · replace h := h.2 hp
    show Zr sc 62 9 [zp a0, zj x1, zmk] [] w ov w' c s
    obtain ⟨h1, h2, h3, h4⟩ := h
    subst h1; subst h2; subst h3; subst h4
    exact Zr_ret (ins := .return_) rfl rfl

-- HeapwrightLab$Memory.settle(III)Z
set_option maxRecDepth 100000 in
theorem V63_0_1 {sc : List Value} {w w' : List zE} {ov : Option Value} {c s : Nat} {a0 : Nat} {x1 : Int} {x2 : Int} {x3 : Int} {wy : Int} {st : Int} {hd : Int} {hn : Int} {sn : Int} {nm : Int} {ar : Int} {pk : Int} {dn : Int} (L0 : w[a0]? = some (zob 1 [zp (a0 + 1), zp (a0 + 6), zj wy, zj st, zj hd, zj hn, zj sn, zp (a0 + 9), zp (a0 + 10), zj nm, zj ar, zj pk, zj dn])) (h : (∃ r_3 : Int, ∃ w_1 : List zE, Zc sc 43 [zp a0, zj x3] w (some (zj r_3)) w_1 0 0 ∧ (∃ wy_5 : Int, ∃ st_6 : Int, ∃ hd_7 : Int, ∃ hn_8 : Int, ∃ sn_9 : Int, ∃ nm_10 : Int, ∃ ar_11 : Int, ∃ pk_12 : Int, ∃ dn_13 : Int, w_1[a0]? = some (zob 1 [zp (a0 + 1), zp (a0 + 6), zj wy_5, zj st_6, zj hd_7, zj hn_8, zj sn_9, zp (a0 + 9), zp (a0 + 10), zj nm_10, zj ar_11, zj pk_12, zj dn_13]) ∧ (∃ w_14 : List zE, Zc sc 64 [zp a0, zj 0, zj sn_9] w_1 none w_14 0 0 ∧ ((zrg r_3) ∧ ((0 ≤ r_3 → (∃ wy_18 : Int, ∃ st_19 : Int, ∃ hd_20 : Int, ∃ hn_21 : Int, ∃ sn_22 : Int, ∃ nm_23 : Int, ∃ ar_24 : Int, ∃ pk_25 : Int, ∃ dn_26 : Int, w_14[a0]? = some (zob 1 [zp (a0 + 1), zp (a0 + 6), zj wy_18, zj st_19, zj hd_20, zj hn_21, zj sn_22, zp (a0 + 9), zp (a0 + 10), zj nm_23, zj ar_24, zj pk_25, zj dn_26]) ∧ (∃ fs_28 : List Value, w_14[(a0 + 6)]? = some (zob 3 fs_28) ∧ (∃ r_31 : Int, Zc sc 24 [zp (a0 + 6), zj r_3] w_14 (some (zj r_31)) w_14 0 0 ∧ (∃ r_34 : Int, Zc sc 26 [zp (a0 + 6), zj r_3] w_14 (some (zj r_34)) w_14 0 0 ∧ (∃ r_37 : Int, Zc sc 65 [zp a0, zj r_34, zj x3] w_14 (some (zj r_37)) w_14 0 0 ∧ (∃ w_38 : List zE, Zc sc 64 [zp a0, zj 1, zj r_37] w_14 none w_38 0 0 ∧ (∃ wy_41 : Int, ∃ st_42 : Int, ∃ hd_43 : Int, ∃ hn_44 : Int, ∃ sn_45 : Int, ∃ nm_46 : Int, ∃ ar_47 : Int, ∃ pk_48 : Int, ∃ dn_49 : Int, w_38[a0]? = some (zob 1 [zp (a0 + 1), zp (a0 + 6), zj wy_41, zj st_42, zj hd_43, zj hn_44, zj sn_45, zp (a0 + 9), zp (a0 + 10), zj nm_46, zj ar_47, zj pk_48, zj dn_49]) ∧ (∃ fs_51 : List Value, w_38[(a0 + 1)]? = some (zob 0 fs_51) ∧ (∃ w_52 : List zE, Zc sc 68 [zp (a0 + 1), zj x1, zj r_31, zj x2, zj x3] w_38 none w_52 0 0 ∧ (∃ fs_55 : List Value, w_52[a0]? = some (zob 1 fs_55) ∧ (∃ w_56 : List zE, Zc sc 69 [zp a0] w_52 none w_56 0 0 ∧ (∃ wy_59 : Int, ∃ st_60 : Int, ∃ hd_61 : Int, ∃ hn_62 : Int, ∃ sn_63 : Int, ∃ nm_64 : Int, ∃ ar_65 : Int, ∃ pk_66 : Int, ∃ dn_67 : Int, w_56[a0]? = some (zob 1 [zp (a0 + 1), zp (a0 + 6), zj wy_59, zj st_60, zj hd_61, zj hn_62, zj sn_63, zp (a0 + 9), zp (a0 + 10), zj nm_64, zj ar_65, zj pk_66, zj dn_67]) ∧ ((zrg wy_59 ∧ zrg 1) ∧ ((wy_59 ≠ 1 → (ov = some (zj 1) ∧ w' = w_56 ∧ c = 0 ∧ s = 0)) ∧ (¬ (wy_59 ≠ 1) → (∃ w_69 : List zE, Zc sc 81 [zp a0, zj (r_31 + x3)] w_56 none w_69 0 0 ∧ (ov = some (zj 1) ∧ w' = w_69 ∧ c = 0 ∧ s = 0)))))))))))))))))) ∧ (¬ (0 ≤ r_3) → (∃ fs_72 : List Value, w_14[a0]? = some (zob 1 fs_72) ∧ (∃ w_73 : List zE, Zc sc 64 [zp a0, zj 4, zj 1] w_14 none w_73 0 0 ∧ (ov = some (zj 0) ∧ w' = w_73 ∧ c = 0 ∧ s = 0)))))))))) : Zr sc 63 0 [zp a0, zj x1, zj x2, zj x3, zmk, zmk] [] w ov w' c s := by
  refine Zr_st (q := (1, [zp a0, zj x1, zj x2, zj x3, zmk, zmk], [zp a0])) rfl rfl rfl ?_
  show Zr sc 63 1 [zp a0, zj x1, zj x2, zj x3, zmk, zmk] [zp a0] w ov w' c s
  refine Zr_st (q := (2, [zp a0, zj x1, zj x2, zj x3, zmk, zmk], [zj x3, zp a0])) rfl rfl rfl ?_
  show Zr sc 63 2 [zp a0, zj x1, zj x2, zj x3, zmk, zmk] [zj x3, zp a0] w ov w' c s
  obtain ⟨r_3, w_1, hk_2, h⟩ := h
  refine rn_cal0 (ins := .invokevirtual 127) (rest := []) rfl rfl rfl rfl (zinv_v (fs := _) L0 rfl rfl rfl rfl) rfl rfl hk_2 ?_
  show Zr sc 63 5 [zp a0, zj x1, zj x2, zj x3, zmk, zmk] [zj r_3] w_1 ov w' c s
  refine Zr_st (q := (7, [zp a0, zj x1, zj x2, zj x3, zj r_3, zmk], [])) rfl rfl rfl ?_
  show Zr sc 63 7 [zp a0, zj x1, zj x2, zj x3, zj r_3, zmk] [] w_1 ov w' c s
  refine Zr_st (q := (8, [zp a0, zj x1, zj x2, zj x3, zj r_3, zmk], [zp a0])) rfl rfl rfl ?_
  show Zr sc 63 8 [zp a0, zj x1, zj x2, zj x3, zj r_3, zmk] [zp a0] w_1 ov w' c s
  refine rl_ic rfl ?_
  show Zr sc 63 9 [zp a0, zj x1, zj x2, zj x3, zj r_3, zmk] [zj 0, zp a0] w_1 ov w' c s
  refine Zr_st (q := (10, [zp a0, zj x1, zj x2, zj x3, zj r_3, zmk], [zp a0, zj 0, zp a0])) rfl rfl rfl ?_
  show Zr sc 63 10 [zp a0, zj x1, zj x2, zj x3, zj r_3, zmk] [zp a0, zj 0, zp a0] w_1 ov w' c s
  obtain ⟨wy_5, st_6, hd_7, hn_8, sn_9, nm_10, ar_11, pk_12, dn_13, hw_4, h⟩ := h
  refine rl_gf rfl hw_4 rfl rfl ?_
  show Zr sc 63 13 [zp a0, zj x1, zj x2, zj x3, zj r_3, zmk] [zj sn_9, zj 0, zp a0] w_1 ov w' c s
  obtain ⟨w_14, hk_15, h⟩ := h
  refine rn_cal0 (ins := .invokevirtual 169) (rest := []) rfl rfl rfl rfl (zinv_v (fs := _) hw_4 rfl rfl rfl rfl) rfl rfl hk_15 ?_
  show Zr sc 63 16 [zp a0, zj x1, zj x2, zj x3, zj r_3, zmk] [] w_14 ov w' c s
  refine Zr_st (q := (18, [zp a0, zj x1, zj x2, zj x3, zj r_3, zmk], [zj r_3])) rfl rfl rfl ?_
  show Zr sc 63 18 [zp a0, zj x1, zj x2, zj x3, zj r_3, zmk] [zj r_3] w_14 ov w' c s
  obtain ⟨hr_16, h⟩ := h
  refine Zr_b0 (p := 0 ≤ r_3) rfl rfl (zcmp_0 (cnd := .ge) hr_16) (fun hp => ?_) (fun hp => ?_)
  · replace h := h.1 hp
    show Zr sc 63 29 [zp a0, zj x1, zj x2, zj x3, zj r_3, zmk] [] w_14 ov w' c s
    refine Zr_st (q := (30, [zp a0, zj x1, zj x2, zj x3, zj r_3, zmk], [zp a0])) rfl rfl rfl ?_
    show Zr sc 63 30 [zp a0, zj x1, zj x2, zj x3, zj r_3, zmk] [zp a0] w_14 ov w' c s
    obtain ⟨wy_18, st_19, hd_20, hn_21, sn_22, nm_23, ar_24, pk_25, dn_26, hw_17, h⟩ := h
    refine rl_gf rfl hw_17 rfl rfl ?_
    show Zr sc 63 33 [zp a0, zj x1, zj x2, zj x3, zj r_3, zmk] [zp (a0 + 6)] w_14 ov w' c s
    refine Zr_st (q := (35, [zp a0, zj x1, zj x2, zj x3, zj r_3, zmk], [zj r_3, zp (a0 + 6)])) rfl rfl rfl ?_
    show Zr sc 63 35 [zp a0, zj x1, zj x2, zj x3, zj r_3, zmk] [zj r_3, zp (a0 + 6)] w_14 ov w' c s
    obtain ⟨fs_28, hl_27, h⟩ := h
    obtain ⟨r_31, hk_9, h⟩ := h
    refine rn_cal0 (ins := .invokevirtual 130) (rest := []) rfl rfl rfl rfl (zinv_v (fs := _) hl_27 rfl rfl rfl rfl) rfl rfl hk_9 ?_
    show Zr sc 63 38 [zp a0, zj x1, zj x2, zj x3, zj r_3, zmk] [zj r_31] w_14 ov w' c s
    refine Zr_st (q := (40, [zp a0, zj x1, zj x2, zj x3, zj r_3, zj r_31], [])) rfl rfl rfl ?_
    show Zr sc 63 40 [zp a0, zj x1, zj x2, zj x3, zj r_3, zj r_31] [] w_14 ov w' c s
    refine Zr_st (q := (41, [zp a0, zj x1, zj x2, zj x3, zj r_3, zj r_31], [zp a0])) rfl rfl rfl ?_
    show Zr sc 63 41 [zp a0, zj x1, zj x2, zj x3, zj r_3, zj r_31] [zp a0] w_14 ov w' c s
    refine rl_ic rfl ?_
    show Zr sc 63 42 [zp a0, zj x1, zj x2, zj x3, zj r_3, zj r_31] [zj 1, zp a0] w_14 ov w' c s
    refine Zr_st (q := (43, [zp a0, zj x1, zj x2, zj x3, zj r_3, zj r_31], [zp a0, zj 1, zp a0])) rfl rfl rfl ?_
    show Zr sc 63 43 [zp a0, zj x1, zj x2, zj x3, zj r_3, zj r_31] [zp a0, zj 1, zp a0] w_14 ov w' c s
    refine Zr_st (q := (44, [zp a0, zj x1, zj x2, zj x3, zj r_3, zj r_31], [zp a0, zp a0, zj 1, zp a0])) rfl rfl rfl ?_
    show Zr sc 63 44 [zp a0, zj x1, zj x2, zj x3, zj r_3, zj r_31] [zp a0, zp a0, zj 1, zp a0] w_14 ov w' c s
    refine rl_gf rfl hw_17 rfl rfl ?_
    show Zr sc 63 47 [zp a0, zj x1, zj x2, zj x3, zj r_3, zj r_31] [zp (a0 + 6), zp a0, zj 1, zp a0] w_14 ov w' c s
    refine Zr_st (q := (49, [zp a0, zj x1, zj x2, zj x3, zj r_3, zj r_31], [zj r_3, zp (a0 + 6), zp a0, zj 1, zp a0])) rfl rfl rfl ?_
    show Zr sc 63 49 [zp a0, zj x1, zj x2, zj x3, zj r_3, zj r_31] [zj r_3, zp (a0 + 6), zp a0, zj 1, zp a0] w_14 ov w' c s
    obtain ⟨r_34, hk_9, h⟩ := h
    refine rn_cal0 (ins := .invokevirtual 46) (rest := [zp a0, zj 1, zp a0]) rfl rfl rfl rfl (zinv_v (fs := _) hl_27 rfl rfl rfl rfl) rfl rfl hk_9 ?_
    show Zr sc 63 52 [zp a0, zj x1, zj x2, zj x3, zj r_3, zj r_31] [zj r_34, zp a0, zj 1, zp a0] w_14 ov w' c s
    refine Zr_st (q := (53, [zp a0, zj x1, zj x2, zj x3, zj r_3, zj r_31], [zj x3, zj r_34, zp a0, zj 1, zp a0])) rfl rfl rfl ?_
    show Zr sc 63 53 [zp a0, zj x1, zj x2, zj x3, zj r_3, zj r_31] [zj x3, zj r_34, zp a0, zj 1, zp a0] w_14 ov w' c s
    obtain ⟨r_37, hk_9, h⟩ := h
    refine rn_cal0 (ins := .invokevirtual 49) (rest := [zj 1, zp a0]) rfl rfl rfl rfl (zinv_v (fs := _) hw_17 rfl rfl rfl rfl) rfl rfl hk_9 ?_
    show Zr sc 63 56 [zp a0, zj x1, zj x2, zj x3, zj r_3, zj r_31] [zj r_37, zj 1, zp a0] w_14 ov w' c s
    obtain ⟨w_38, hk_39, h⟩ := h
    refine rn_cal0 (ins := .invokevirtual 169) (rest := []) rfl rfl rfl rfl (zinv_v (fs := _) hw_17 rfl rfl rfl rfl) rfl rfl hk_39 ?_
    show Zr sc 63 59 [zp a0, zj x1, zj x2, zj x3, zj r_3, zj r_31] [] w_38 ov w' c s
    refine Zr_st (q := (60, [zp a0, zj x1, zj x2, zj x3, zj r_3, zj r_31], [zp a0])) rfl rfl rfl ?_
    show Zr sc 63 60 [zp a0, zj x1, zj x2, zj x3, zj r_3, zj r_31] [zp a0] w_38 ov w' c s
    obtain ⟨wy_41, st_42, hd_43, hn_44, sn_45, nm_46, ar_47, pk_48, dn_49, hw_40, h⟩ := h
    refine rl_gf rfl hw_40 rfl rfl ?_
    show Zr sc 63 63 [zp a0, zj x1, zj x2, zj x3, zj r_3, zj r_31] [zp (a0 + 1)] w_38 ov w' c s
    refine Zr_st (q := (64, [zp a0, zj x1, zj x2, zj x3, zj r_3, zj r_31], [zj x1, zp (a0 + 1)])) rfl rfl rfl ?_
    show Zr sc 63 64 [zp a0, zj x1, zj x2, zj x3, zj r_3, zj r_31] [zj x1, zp (a0 + 1)] w_38 ov w' c s
    refine Zr_st (q := (66, [zp a0, zj x1, zj x2, zj x3, zj r_3, zj r_31], [zj r_31, zj x1, zp (a0 + 1)])) rfl rfl rfl ?_
    show Zr sc 63 66 [zp a0, zj x1, zj x2, zj x3, zj r_3, zj r_31] [zj r_31, zj x1, zp (a0 + 1)] w_38 ov w' c s
    refine Zr_st (q := (67, [zp a0, zj x1, zj x2, zj x3, zj r_3, zj r_31], [zj x2, zj r_31, zj x1, zp (a0 + 1)])) rfl rfl rfl ?_
    show Zr sc 63 67 [zp a0, zj x1, zj x2, zj x3, zj r_3, zj r_31] [zj x2, zj r_31, zj x1, zp (a0 + 1)] w_38 ov w' c s
    refine Zr_st (q := (68, [zp a0, zj x1, zj x2, zj x3, zj r_3, zj r_31], [zj x3, zj x2, zj r_31, zj x1, zp (a0 + 1)])) rfl rfl rfl ?_
    show Zr sc 63 68 [zp a0, zj x1, zj x2, zj x3, zj r_3, zj r_31] [zj x3, zj x2, zj r_31, zj x1, zp (a0 + 1)] w_38 ov w' c s
    obtain ⟨fs_51, hl_50, h⟩ := h
    obtain ⟨w_52, hk_53, h⟩ := h
    refine rn_cal0 (ins := .invokevirtual 144) (rest := []) rfl rfl rfl rfl (zinv_v (fs := _) hl_50 rfl rfl rfl rfl) rfl rfl hk_53 ?_
    show Zr sc 63 71 [zp a0, zj x1, zj x2, zj x3, zj r_3, zj r_31] [] w_52 ov w' c s
    refine Zr_st (q := (72, [zp a0, zj x1, zj x2, zj x3, zj r_3, zj r_31], [zp a0])) rfl rfl rfl ?_
    show Zr sc 63 72 [zp a0, zj x1, zj x2, zj x3, zj r_3, zj r_31] [zp a0] w_52 ov w' c s
    obtain ⟨fs_55, hl_54, h⟩ := h
    obtain ⟨w_56, hk_57, h⟩ := h
    refine rn_cal0 (ins := .invokevirtual 77) (rest := []) rfl rfl rfl rfl (zinv_v (fs := _) hl_54 rfl rfl rfl rfl) rfl rfl hk_57 ?_
    show Zr sc 63 75 [zp a0, zj x1, zj x2, zj x3, zj r_3, zj r_31] [] w_56 ov w' c s
    refine Zr_st (q := (76, [zp a0, zj x1, zj x2, zj x3, zj r_3, zj r_31], [zp a0])) rfl rfl rfl ?_
    show Zr sc 63 76 [zp a0, zj x1, zj x2, zj x3, zj r_3, zj r_31] [zp a0] w_56 ov w' c s
    obtain ⟨wy_59, st_60, hd_61, hn_62, sn_63, nm_64, ar_65, pk_66, dn_67, hw_58, h⟩ := h
    refine rl_gf rfl hw_58 rfl rfl ?_
    show Zr sc 63 79 [zp a0, zj x1, zj x2, zj x3, zj r_3, zj r_31] [zj wy_59] w_56 ov w' c s
    refine rl_ic rfl ?_
    show Zr sc 63 80 [zp a0, zj x1, zj x2, zj x3, zj r_3, zj r_31] [zj 1, zj wy_59] w_56 ov w' c s
    obtain ⟨hr_68, h⟩ := h
    refine Zr_br (p := wy_59 ≠ 1) rfl rfl (zcmp_j (cnd := .ne) hr_68.1 hr_68.2) (fun hp => ?_) (fun hp => ?_)
    · replace h := h.1 hp
      show Zr sc 63 91 [zp a0, zj x1, zj x2, zj x3, zj r_3, zj r_31] [] w_56 ov w' c s
      refine rl_ic rfl ?_
      show Zr sc 63 92 [zp a0, zj x1, zj x2, zj x3, zj r_3, zj r_31] [zj 1] w_56 ov w' c s
      obtain ⟨h1, h2, h3, h4⟩ := h
      subst h1; subst h2; subst h3; subst h4
      exact Zr_ret (ins := .ireturn) rfl rfl
    · replace h := h.2 hp
      show Zr sc 63 83 [zp a0, zj x1, zj x2, zj x3, zj r_3, zj r_31] [] w_56 ov w' c s
      refine Zr_st (q := (84, [zp a0, zj x1, zj x2, zj x3, zj r_3, zj r_31], [zp a0])) rfl rfl rfl ?_
      show Zr sc 63 84 [zp a0, zj x1, zj x2, zj x3, zj r_3, zj r_31] [zp a0] w_56 ov w' c s
      refine Zr_st (q := (86, [zp a0, zj x1, zj x2, zj x3, zj r_3, zj r_31], [zj r_31, zp a0])) rfl rfl rfl ?_
      show Zr sc 63 86 [zp a0, zj x1, zj x2, zj x3, zj r_3, zj r_31] [zj r_31, zp a0] w_56 ov w' c s
      refine Zr_st (q := (87, [zp a0, zj x1, zj x2, zj x3, zj r_3, zj r_31], [zj x3, zj r_31, zp a0])) rfl rfl rfl ?_
      show Zr sc 63 87 [zp a0, zj x1, zj x2, zj x3, zj r_3, zj r_31] [zj x3, zj r_31, zp a0] w_56 ov w' c s
      refine rl_add rfl ?_
      show Zr sc 63 88 [zp a0, zj x1, zj x2, zj x3, zj r_3, zj r_31] [zj (r_31 + x3), zp a0] w_56 ov w' c s
      obtain ⟨w_69, hk_70, h⟩ := h
      refine rn_cal0 (ins := .invokevirtual 172) (rest := []) rfl rfl rfl rfl (zinv_v (fs := _) hw_58 rfl rfl rfl rfl) rfl rfl hk_70 ?_
      show Zr sc 63 91 [zp a0, zj x1, zj x2, zj x3, zj r_3, zj r_31] [] w_69 ov w' c s
      refine rl_ic rfl ?_
      show Zr sc 63 92 [zp a0, zj x1, zj x2, zj x3, zj r_3, zj r_31] [zj 1] w_69 ov w' c s
      obtain ⟨h1, h2, h3, h4⟩ := h
      subst h1; subst h2; subst h3; subst h4
      exact Zr_ret (ins := .ireturn) rfl rfl
  · replace h := h.2 hp
    show Zr sc 63 21 [zp a0, zj x1, zj x2, zj x3, zj r_3, zmk] [] w_14 ov w' c s
    refine Zr_st (q := (22, [zp a0, zj x1, zj x2, zj x3, zj r_3, zmk], [zp a0])) rfl rfl rfl ?_
    show Zr sc 63 22 [zp a0, zj x1, zj x2, zj x3, zj r_3, zmk] [zp a0] w_14 ov w' c s
    refine rl_ic rfl ?_
    show Zr sc 63 23 [zp a0, zj x1, zj x2, zj x3, zj r_3, zmk] [zj 4, zp a0] w_14 ov w' c s
    refine rl_ic rfl ?_
    show Zr sc 63 24 [zp a0, zj x1, zj x2, zj x3, zj r_3, zmk] [zj 1, zj 4, zp a0] w_14 ov w' c s
    obtain ⟨fs_72, hl_71, h⟩ := h
    obtain ⟨w_73, hk_74, h⟩ := h
    refine rn_cal0 (ins := .invokevirtual 169) (rest := []) rfl rfl rfl rfl (zinv_v (fs := _) hl_71 rfl rfl rfl rfl) rfl rfl hk_74 ?_
    show Zr sc 63 27 [zp a0, zj x1, zj x2, zj x3, zj r_3, zmk] [] w_73 ov w' c s
    refine rl_ic rfl ?_
    show Zr sc 63 28 [zp a0, zj x1, zj x2, zj x3, zj r_3, zmk] [zj 0] w_73 ov w' c s
    obtain ⟨h1, h2, h3, h4⟩ := h
    subst h1; subst h2; subst h3; subst h4
    exact Zr_ret (ins := .ireturn) rfl rfl

-- HeapwrightLab$Memory.settle(III)Z
set_option maxRecDepth 100000 in
theorem V63_0_2 {sc : List Value} {w w' : List zE} {ov : Option Value} {c s : Nat} {a0 : Nat} {x1 : Int} {x2 : Int} {x3 : Int} {wy : Int} {st : Int} {hd : Int} {hn : Int} {sn : Int} {nm : Int} {ar : Int} {pk : Int} {dn : Int} (L0 : w[a0]? = some (zob 2 [zp (a0 + 1), zp (a0 + 6), zj wy, zj st, zj hd, zj hn, zj sn, zp (a0 + 9), zp (a0 + 10), zj nm, zj ar, zj pk, zj dn])) (h : (∃ r_3 : Int, ∃ w_1 : List zE, Zc sc 45 [zp a0, zj x3] w (some (zj r_3)) w_1 0 0 ∧ (∃ wy_5 : Int, ∃ st_6 : Int, ∃ hd_7 : Int, ∃ hn_8 : Int, ∃ sn_9 : Int, ∃ nm_10 : Int, ∃ ar_11 : Int, ∃ pk_12 : Int, ∃ dn_13 : Int, w_1[a0]? = some (zob 2 [zp (a0 + 1), zp (a0 + 6), zj wy_5, zj st_6, zj hd_7, zj hn_8, zj sn_9, zp (a0 + 9), zp (a0 + 10), zj nm_10, zj ar_11, zj pk_12, zj dn_13]) ∧ (∃ w_14 : List zE, Zc sc 64 [zp a0, zj 0, zj sn_9] w_1 none w_14 0 0 ∧ ((zrg r_3) ∧ ((0 ≤ r_3 → (∃ wy_18 : Int, ∃ st_19 : Int, ∃ hd_20 : Int, ∃ hn_21 : Int, ∃ sn_22 : Int, ∃ nm_23 : Int, ∃ ar_24 : Int, ∃ pk_25 : Int, ∃ dn_26 : Int, w_14[a0]? = some (zob 2 [zp (a0 + 1), zp (a0 + 6), zj wy_18, zj st_19, zj hd_20, zj hn_21, zj sn_22, zp (a0 + 9), zp (a0 + 10), zj nm_23, zj ar_24, zj pk_25, zj dn_26]) ∧ (∃ fs_28 : List Value, w_14[(a0 + 6)]? = some (zob 3 fs_28) ∧ (∃ r_31 : Int, Zc sc 24 [zp (a0 + 6), zj r_3] w_14 (some (zj r_31)) w_14 0 0 ∧ (∃ r_34 : Int, Zc sc 26 [zp (a0 + 6), zj r_3] w_14 (some (zj r_34)) w_14 0 0 ∧ (∃ r_37 : Int, Zc sc 66 [zp a0, zj r_34, zj x3] w_14 (some (zj r_37)) w_14 0 0 ∧ (∃ w_38 : List zE, Zc sc 64 [zp a0, zj 1, zj r_37] w_14 none w_38 0 0 ∧ (∃ wy_41 : Int, ∃ st_42 : Int, ∃ hd_43 : Int, ∃ hn_44 : Int, ∃ sn_45 : Int, ∃ nm_46 : Int, ∃ ar_47 : Int, ∃ pk_48 : Int, ∃ dn_49 : Int, w_38[a0]? = some (zob 2 [zp (a0 + 1), zp (a0 + 6), zj wy_41, zj st_42, zj hd_43, zj hn_44, zj sn_45, zp (a0 + 9), zp (a0 + 10), zj nm_46, zj ar_47, zj pk_48, zj dn_49]) ∧ (∃ fs_51 : List Value, w_38[(a0 + 1)]? = some (zob 0 fs_51) ∧ (∃ w_52 : List zE, Zc sc 68 [zp (a0 + 1), zj x1, zj r_31, zj x2, zj x3] w_38 none w_52 0 0 ∧ (∃ fs_55 : List Value, w_52[a0]? = some (zob 2 fs_55) ∧ (∃ w_56 : List zE, Zc sc 69 [zp a0] w_52 none w_56 0 0 ∧ (∃ wy_59 : Int, ∃ st_60 : Int, ∃ hd_61 : Int, ∃ hn_62 : Int, ∃ sn_63 : Int, ∃ nm_64 : Int, ∃ ar_65 : Int, ∃ pk_66 : Int, ∃ dn_67 : Int, w_56[a0]? = some (zob 2 [zp (a0 + 1), zp (a0 + 6), zj wy_59, zj st_60, zj hd_61, zj hn_62, zj sn_63, zp (a0 + 9), zp (a0 + 10), zj nm_64, zj ar_65, zj pk_66, zj dn_67]) ∧ ((zrg wy_59 ∧ zrg 1) ∧ ((wy_59 ≠ 1 → (ov = some (zj 1) ∧ w' = w_56 ∧ c = 0 ∧ s = 0)) ∧ (¬ (wy_59 ≠ 1) → (∃ w_69 : List zE, Zc sc 81 [zp a0, zj (r_31 + x3)] w_56 none w_69 0 0 ∧ (ov = some (zj 1) ∧ w' = w_69 ∧ c = 0 ∧ s = 0)))))))))))))))))) ∧ (¬ (0 ≤ r_3) → (∃ fs_72 : List Value, w_14[a0]? = some (zob 2 fs_72) ∧ (∃ w_73 : List zE, Zc sc 64 [zp a0, zj 4, zj 1] w_14 none w_73 0 0 ∧ (ov = some (zj 0) ∧ w' = w_73 ∧ c = 0 ∧ s = 0)))))))))) : Zr sc 63 0 [zp a0, zj x1, zj x2, zj x3, zmk, zmk] [] w ov w' c s := by
  refine Zr_st (q := (1, [zp a0, zj x1, zj x2, zj x3, zmk, zmk], [zp a0])) rfl rfl rfl ?_
  show Zr sc 63 1 [zp a0, zj x1, zj x2, zj x3, zmk, zmk] [zp a0] w ov w' c s
  refine Zr_st (q := (2, [zp a0, zj x1, zj x2, zj x3, zmk, zmk], [zj x3, zp a0])) rfl rfl rfl ?_
  show Zr sc 63 2 [zp a0, zj x1, zj x2, zj x3, zmk, zmk] [zj x3, zp a0] w ov w' c s
  obtain ⟨r_3, w_1, hk_2, h⟩ := h
  refine rn_cal0 (ins := .invokevirtual 127) (rest := []) rfl rfl rfl rfl (zinv_v (fs := _) L0 rfl rfl rfl rfl) rfl rfl hk_2 ?_
  show Zr sc 63 5 [zp a0, zj x1, zj x2, zj x3, zmk, zmk] [zj r_3] w_1 ov w' c s
  refine Zr_st (q := (7, [zp a0, zj x1, zj x2, zj x3, zj r_3, zmk], [])) rfl rfl rfl ?_
  show Zr sc 63 7 [zp a0, zj x1, zj x2, zj x3, zj r_3, zmk] [] w_1 ov w' c s
  refine Zr_st (q := (8, [zp a0, zj x1, zj x2, zj x3, zj r_3, zmk], [zp a0])) rfl rfl rfl ?_
  show Zr sc 63 8 [zp a0, zj x1, zj x2, zj x3, zj r_3, zmk] [zp a0] w_1 ov w' c s
  refine rl_ic rfl ?_
  show Zr sc 63 9 [zp a0, zj x1, zj x2, zj x3, zj r_3, zmk] [zj 0, zp a0] w_1 ov w' c s
  refine Zr_st (q := (10, [zp a0, zj x1, zj x2, zj x3, zj r_3, zmk], [zp a0, zj 0, zp a0])) rfl rfl rfl ?_
  show Zr sc 63 10 [zp a0, zj x1, zj x2, zj x3, zj r_3, zmk] [zp a0, zj 0, zp a0] w_1 ov w' c s
  obtain ⟨wy_5, st_6, hd_7, hn_8, sn_9, nm_10, ar_11, pk_12, dn_13, hw_4, h⟩ := h
  refine rl_gf rfl hw_4 rfl rfl ?_
  show Zr sc 63 13 [zp a0, zj x1, zj x2, zj x3, zj r_3, zmk] [zj sn_9, zj 0, zp a0] w_1 ov w' c s
  obtain ⟨w_14, hk_15, h⟩ := h
  refine rn_cal0 (ins := .invokevirtual 169) (rest := []) rfl rfl rfl rfl (zinv_v (fs := _) hw_4 rfl rfl rfl rfl) rfl rfl hk_15 ?_
  show Zr sc 63 16 [zp a0, zj x1, zj x2, zj x3, zj r_3, zmk] [] w_14 ov w' c s
  refine Zr_st (q := (18, [zp a0, zj x1, zj x2, zj x3, zj r_3, zmk], [zj r_3])) rfl rfl rfl ?_
  show Zr sc 63 18 [zp a0, zj x1, zj x2, zj x3, zj r_3, zmk] [zj r_3] w_14 ov w' c s
  obtain ⟨hr_16, h⟩ := h
  refine Zr_b0 (p := 0 ≤ r_3) rfl rfl (zcmp_0 (cnd := .ge) hr_16) (fun hp => ?_) (fun hp => ?_)
  · replace h := h.1 hp
    show Zr sc 63 29 [zp a0, zj x1, zj x2, zj x3, zj r_3, zmk] [] w_14 ov w' c s
    refine Zr_st (q := (30, [zp a0, zj x1, zj x2, zj x3, zj r_3, zmk], [zp a0])) rfl rfl rfl ?_
    show Zr sc 63 30 [zp a0, zj x1, zj x2, zj x3, zj r_3, zmk] [zp a0] w_14 ov w' c s
    obtain ⟨wy_18, st_19, hd_20, hn_21, sn_22, nm_23, ar_24, pk_25, dn_26, hw_17, h⟩ := h
    refine rl_gf rfl hw_17 rfl rfl ?_
    show Zr sc 63 33 [zp a0, zj x1, zj x2, zj x3, zj r_3, zmk] [zp (a0 + 6)] w_14 ov w' c s
    refine Zr_st (q := (35, [zp a0, zj x1, zj x2, zj x3, zj r_3, zmk], [zj r_3, zp (a0 + 6)])) rfl rfl rfl ?_
    show Zr sc 63 35 [zp a0, zj x1, zj x2, zj x3, zj r_3, zmk] [zj r_3, zp (a0 + 6)] w_14 ov w' c s
    obtain ⟨fs_28, hl_27, h⟩ := h
    obtain ⟨r_31, hk_9, h⟩ := h
    refine rn_cal0 (ins := .invokevirtual 130) (rest := []) rfl rfl rfl rfl (zinv_v (fs := _) hl_27 rfl rfl rfl rfl) rfl rfl hk_9 ?_
    show Zr sc 63 38 [zp a0, zj x1, zj x2, zj x3, zj r_3, zmk] [zj r_31] w_14 ov w' c s
    refine Zr_st (q := (40, [zp a0, zj x1, zj x2, zj x3, zj r_3, zj r_31], [])) rfl rfl rfl ?_
    show Zr sc 63 40 [zp a0, zj x1, zj x2, zj x3, zj r_3, zj r_31] [] w_14 ov w' c s
    refine Zr_st (q := (41, [zp a0, zj x1, zj x2, zj x3, zj r_3, zj r_31], [zp a0])) rfl rfl rfl ?_
    show Zr sc 63 41 [zp a0, zj x1, zj x2, zj x3, zj r_3, zj r_31] [zp a0] w_14 ov w' c s
    refine rl_ic rfl ?_
    show Zr sc 63 42 [zp a0, zj x1, zj x2, zj x3, zj r_3, zj r_31] [zj 1, zp a0] w_14 ov w' c s
    refine Zr_st (q := (43, [zp a0, zj x1, zj x2, zj x3, zj r_3, zj r_31], [zp a0, zj 1, zp a0])) rfl rfl rfl ?_
    show Zr sc 63 43 [zp a0, zj x1, zj x2, zj x3, zj r_3, zj r_31] [zp a0, zj 1, zp a0] w_14 ov w' c s
    refine Zr_st (q := (44, [zp a0, zj x1, zj x2, zj x3, zj r_3, zj r_31], [zp a0, zp a0, zj 1, zp a0])) rfl rfl rfl ?_
    show Zr sc 63 44 [zp a0, zj x1, zj x2, zj x3, zj r_3, zj r_31] [zp a0, zp a0, zj 1, zp a0] w_14 ov w' c s
    refine rl_gf rfl hw_17 rfl rfl ?_
    show Zr sc 63 47 [zp a0, zj x1, zj x2, zj x3, zj r_3, zj r_31] [zp (a0 + 6), zp a0, zj 1, zp a0] w_14 ov w' c s
    refine Zr_st (q := (49, [zp a0, zj x1, zj x2, zj x3, zj r_3, zj r_31], [zj r_3, zp (a0 + 6), zp a0, zj 1, zp a0])) rfl rfl rfl ?_
    show Zr sc 63 49 [zp a0, zj x1, zj x2, zj x3, zj r_3, zj r_31] [zj r_3, zp (a0 + 6), zp a0, zj 1, zp a0] w_14 ov w' c s
    obtain ⟨r_34, hk_9, h⟩ := h
    refine rn_cal0 (ins := .invokevirtual 46) (rest := [zp a0, zj 1, zp a0]) rfl rfl rfl rfl (zinv_v (fs := _) hl_27 rfl rfl rfl rfl) rfl rfl hk_9 ?_
    show Zr sc 63 52 [zp a0, zj x1, zj x2, zj x3, zj r_3, zj r_31] [zj r_34, zp a0, zj 1, zp a0] w_14 ov w' c s
    refine Zr_st (q := (53, [zp a0, zj x1, zj x2, zj x3, zj r_3, zj r_31], [zj x3, zj r_34, zp a0, zj 1, zp a0])) rfl rfl rfl ?_
    show Zr sc 63 53 [zp a0, zj x1, zj x2, zj x3, zj r_3, zj r_31] [zj x3, zj r_34, zp a0, zj 1, zp a0] w_14 ov w' c s
    obtain ⟨r_37, hk_9, h⟩ := h
    refine rn_cal0 (ins := .invokevirtual 49) (rest := [zj 1, zp a0]) rfl rfl rfl rfl (zinv_v (fs := _) hw_17 rfl rfl rfl rfl) rfl rfl hk_9 ?_
    show Zr sc 63 56 [zp a0, zj x1, zj x2, zj x3, zj r_3, zj r_31] [zj r_37, zj 1, zp a0] w_14 ov w' c s
    obtain ⟨w_38, hk_39, h⟩ := h
    refine rn_cal0 (ins := .invokevirtual 169) (rest := []) rfl rfl rfl rfl (zinv_v (fs := _) hw_17 rfl rfl rfl rfl) rfl rfl hk_39 ?_
    show Zr sc 63 59 [zp a0, zj x1, zj x2, zj x3, zj r_3, zj r_31] [] w_38 ov w' c s
    refine Zr_st (q := (60, [zp a0, zj x1, zj x2, zj x3, zj r_3, zj r_31], [zp a0])) rfl rfl rfl ?_
    show Zr sc 63 60 [zp a0, zj x1, zj x2, zj x3, zj r_3, zj r_31] [zp a0] w_38 ov w' c s
    obtain ⟨wy_41, st_42, hd_43, hn_44, sn_45, nm_46, ar_47, pk_48, dn_49, hw_40, h⟩ := h
    refine rl_gf rfl hw_40 rfl rfl ?_
    show Zr sc 63 63 [zp a0, zj x1, zj x2, zj x3, zj r_3, zj r_31] [zp (a0 + 1)] w_38 ov w' c s
    refine Zr_st (q := (64, [zp a0, zj x1, zj x2, zj x3, zj r_3, zj r_31], [zj x1, zp (a0 + 1)])) rfl rfl rfl ?_
    show Zr sc 63 64 [zp a0, zj x1, zj x2, zj x3, zj r_3, zj r_31] [zj x1, zp (a0 + 1)] w_38 ov w' c s
    refine Zr_st (q := (66, [zp a0, zj x1, zj x2, zj x3, zj r_3, zj r_31], [zj r_31, zj x1, zp (a0 + 1)])) rfl rfl rfl ?_
    show Zr sc 63 66 [zp a0, zj x1, zj x2, zj x3, zj r_3, zj r_31] [zj r_31, zj x1, zp (a0 + 1)] w_38 ov w' c s
    refine Zr_st (q := (67, [zp a0, zj x1, zj x2, zj x3, zj r_3, zj r_31], [zj x2, zj r_31, zj x1, zp (a0 + 1)])) rfl rfl rfl ?_
    show Zr sc 63 67 [zp a0, zj x1, zj x2, zj x3, zj r_3, zj r_31] [zj x2, zj r_31, zj x1, zp (a0 + 1)] w_38 ov w' c s
    refine Zr_st (q := (68, [zp a0, zj x1, zj x2, zj x3, zj r_3, zj r_31], [zj x3, zj x2, zj r_31, zj x1, zp (a0 + 1)])) rfl rfl rfl ?_
    show Zr sc 63 68 [zp a0, zj x1, zj x2, zj x3, zj r_3, zj r_31] [zj x3, zj x2, zj r_31, zj x1, zp (a0 + 1)] w_38 ov w' c s
    obtain ⟨fs_51, hl_50, h⟩ := h
    obtain ⟨w_52, hk_53, h⟩ := h
    refine rn_cal0 (ins := .invokevirtual 144) (rest := []) rfl rfl rfl rfl (zinv_v (fs := _) hl_50 rfl rfl rfl rfl) rfl rfl hk_53 ?_
    show Zr sc 63 71 [zp a0, zj x1, zj x2, zj x3, zj r_3, zj r_31] [] w_52 ov w' c s
    refine Zr_st (q := (72, [zp a0, zj x1, zj x2, zj x3, zj r_3, zj r_31], [zp a0])) rfl rfl rfl ?_
    show Zr sc 63 72 [zp a0, zj x1, zj x2, zj x3, zj r_3, zj r_31] [zp a0] w_52 ov w' c s
    obtain ⟨fs_55, hl_54, h⟩ := h
    obtain ⟨w_56, hk_57, h⟩ := h
    refine rn_cal0 (ins := .invokevirtual 77) (rest := []) rfl rfl rfl rfl (zinv_v (fs := _) hl_54 rfl rfl rfl rfl) rfl rfl hk_57 ?_
    show Zr sc 63 75 [zp a0, zj x1, zj x2, zj x3, zj r_3, zj r_31] [] w_56 ov w' c s
    refine Zr_st (q := (76, [zp a0, zj x1, zj x2, zj x3, zj r_3, zj r_31], [zp a0])) rfl rfl rfl ?_
    show Zr sc 63 76 [zp a0, zj x1, zj x2, zj x3, zj r_3, zj r_31] [zp a0] w_56 ov w' c s
    obtain ⟨wy_59, st_60, hd_61, hn_62, sn_63, nm_64, ar_65, pk_66, dn_67, hw_58, h⟩ := h
    refine rl_gf rfl hw_58 rfl rfl ?_
    show Zr sc 63 79 [zp a0, zj x1, zj x2, zj x3, zj r_3, zj r_31] [zj wy_59] w_56 ov w' c s
    refine rl_ic rfl ?_
    show Zr sc 63 80 [zp a0, zj x1, zj x2, zj x3, zj r_3, zj r_31] [zj 1, zj wy_59] w_56 ov w' c s
    obtain ⟨hr_68, h⟩ := h
    refine Zr_br (p := wy_59 ≠ 1) rfl rfl (zcmp_j (cnd := .ne) hr_68.1 hr_68.2) (fun hp => ?_) (fun hp => ?_)
    · replace h := h.1 hp
      show Zr sc 63 91 [zp a0, zj x1, zj x2, zj x3, zj r_3, zj r_31] [] w_56 ov w' c s
      refine rl_ic rfl ?_
      show Zr sc 63 92 [zp a0, zj x1, zj x2, zj x3, zj r_3, zj r_31] [zj 1] w_56 ov w' c s
      obtain ⟨h1, h2, h3, h4⟩ := h
      subst h1; subst h2; subst h3; subst h4
      exact Zr_ret (ins := .ireturn) rfl rfl
    · replace h := h.2 hp
      show Zr sc 63 83 [zp a0, zj x1, zj x2, zj x3, zj r_3, zj r_31] [] w_56 ov w' c s
      refine Zr_st (q := (84, [zp a0, zj x1, zj x2, zj x3, zj r_3, zj r_31], [zp a0])) rfl rfl rfl ?_
      show Zr sc 63 84 [zp a0, zj x1, zj x2, zj x3, zj r_3, zj r_31] [zp a0] w_56 ov w' c s
      refine Zr_st (q := (86, [zp a0, zj x1, zj x2, zj x3, zj r_3, zj r_31], [zj r_31, zp a0])) rfl rfl rfl ?_
      show Zr sc 63 86 [zp a0, zj x1, zj x2, zj x3, zj r_3, zj r_31] [zj r_31, zp a0] w_56 ov w' c s
      refine Zr_st (q := (87, [zp a0, zj x1, zj x2, zj x3, zj r_3, zj r_31], [zj x3, zj r_31, zp a0])) rfl rfl rfl ?_
      show Zr sc 63 87 [zp a0, zj x1, zj x2, zj x3, zj r_3, zj r_31] [zj x3, zj r_31, zp a0] w_56 ov w' c s
      refine rl_add rfl ?_
      show Zr sc 63 88 [zp a0, zj x1, zj x2, zj x3, zj r_3, zj r_31] [zj (r_31 + x3), zp a0] w_56 ov w' c s
      obtain ⟨w_69, hk_70, h⟩ := h
      refine rn_cal0 (ins := .invokevirtual 172) (rest := []) rfl rfl rfl rfl (zinv_v (fs := _) hw_58 rfl rfl rfl rfl) rfl rfl hk_70 ?_
      show Zr sc 63 91 [zp a0, zj x1, zj x2, zj x3, zj r_3, zj r_31] [] w_69 ov w' c s
      refine rl_ic rfl ?_
      show Zr sc 63 92 [zp a0, zj x1, zj x2, zj x3, zj r_3, zj r_31] [zj 1] w_69 ov w' c s
      obtain ⟨h1, h2, h3, h4⟩ := h
      subst h1; subst h2; subst h3; subst h4
      exact Zr_ret (ins := .ireturn) rfl rfl
  · replace h := h.2 hp
    show Zr sc 63 21 [zp a0, zj x1, zj x2, zj x3, zj r_3, zmk] [] w_14 ov w' c s
    refine Zr_st (q := (22, [zp a0, zj x1, zj x2, zj x3, zj r_3, zmk], [zp a0])) rfl rfl rfl ?_
    show Zr sc 63 22 [zp a0, zj x1, zj x2, zj x3, zj r_3, zmk] [zp a0] w_14 ov w' c s
    refine rl_ic rfl ?_
    show Zr sc 63 23 [zp a0, zj x1, zj x2, zj x3, zj r_3, zmk] [zj 4, zp a0] w_14 ov w' c s
    refine rl_ic rfl ?_
    show Zr sc 63 24 [zp a0, zj x1, zj x2, zj x3, zj r_3, zmk] [zj 1, zj 4, zp a0] w_14 ov w' c s
    obtain ⟨fs_72, hl_71, h⟩ := h
    obtain ⟨w_73, hk_74, h⟩ := h
    refine rn_cal0 (ins := .invokevirtual 169) (rest := []) rfl rfl rfl rfl (zinv_v (fs := _) hl_71 rfl rfl rfl rfl) rfl rfl hk_74 ?_
    show Zr sc 63 27 [zp a0, zj x1, zj x2, zj x3, zj r_3, zmk] [] w_73 ov w' c s
    refine rl_ic rfl ?_
    show Zr sc 63 28 [zp a0, zj x1, zj x2, zj x3, zj r_3, zmk] [zj 0] w_73 ov w' c s
    obtain ⟨h1, h2, h3, h4⟩ := h
    subst h1; subst h2; subst h3; subst h4
    exact Zr_ret (ins := .ireturn) rfl rfl

-- HeapwrightLab$Memory.settle(III)Z
set_option maxRecDepth 100000 in
theorem V63_0_4 {sc : List Value} {w w' : List zE} {ov : Option Value} {c s : Nat} {a0 : Nat} {x1 : Int} {x2 : Int} {x3 : Int} {wy : Int} {st : Int} {hd : Int} {hn : Int} {sn : Int} {nm : Int} {ar : Int} {pk : Int} {dn : Int} (L0 : w[a0]? = some (zob 4 [zp (a0 + 1), zp (a0 + 6), zj wy, zj st, zj hd, zj hn, zj sn, zp (a0 + 9), zp (a0 + 10), zj nm, zj ar, zj pk, zj dn, zp (a0 + 11)])) (h : (∃ r_3 : Int, ∃ w_1 : List zE, Zc sc 49 [zp a0, zj x3] w (some (zj r_3)) w_1 0 0 ∧ (∃ wy_5 : Int, ∃ st_6 : Int, ∃ hd_7 : Int, ∃ hn_8 : Int, ∃ sn_9 : Int, ∃ nm_10 : Int, ∃ ar_11 : Int, ∃ pk_12 : Int, ∃ dn_13 : Int, w_1[a0]? = some (zob 4 [zp (a0 + 1), zp (a0 + 6), zj wy_5, zj st_6, zj hd_7, zj hn_8, zj sn_9, zp (a0 + 9), zp (a0 + 10), zj nm_10, zj ar_11, zj pk_12, zj dn_13, zp (a0 + 11)]) ∧ (∃ w_14 : List zE, Zc sc 64 [zp a0, zj 0, zj sn_9] w_1 none w_14 0 0 ∧ ((zrg r_3) ∧ ((0 ≤ r_3 → (∃ wy_18 : Int, ∃ st_19 : Int, ∃ hd_20 : Int, ∃ hn_21 : Int, ∃ sn_22 : Int, ∃ nm_23 : Int, ∃ ar_24 : Int, ∃ pk_25 : Int, ∃ dn_26 : Int, w_14[a0]? = some (zob 4 [zp (a0 + 1), zp (a0 + 6), zj wy_18, zj st_19, zj hd_20, zj hn_21, zj sn_22, zp (a0 + 9), zp (a0 + 10), zj nm_23, zj ar_24, zj pk_25, zj dn_26, zp (a0 + 11)]) ∧ (∃ fs_28 : List Value, w_14[(a0 + 6)]? = some (zob 3 fs_28) ∧ (∃ r_31 : Int, Zc sc 24 [zp (a0 + 6), zj r_3] w_14 (some (zj r_31)) w_14 0 0 ∧ (∃ r_34 : Int, Zc sc 26 [zp (a0 + 6), zj r_3] w_14 (some (zj r_34)) w_14 0 0 ∧ (∃ r_37 : Int, Zc sc 67 [zp a0, zj r_34, zj x3] w_14 (some (zj r_37)) w_14 0 0 ∧ (∃ w_38 : List zE, Zc sc 64 [zp a0, zj 1, zj r_37] w_14 none w_38 0 0 ∧ (∃ wy_41 : Int, ∃ st_42 : Int, ∃ hd_43 : Int, ∃ hn_44 : Int, ∃ sn_45 : Int, ∃ nm_46 : Int, ∃ ar_47 : Int, ∃ pk_48 : Int, ∃ dn_49 : Int, w_38[a0]? = some (zob 4 [zp (a0 + 1), zp (a0 + 6), zj wy_41, zj st_42, zj hd_43, zj hn_44, zj sn_45, zp (a0 + 9), zp (a0 + 10), zj nm_46, zj ar_47, zj pk_48, zj dn_49, zp (a0 + 11)]) ∧ (∃ fs_51 : List Value, w_38[(a0 + 1)]? = some (zob 0 fs_51) ∧ (∃ w_52 : List zE, Zc sc 68 [zp (a0 + 1), zj x1, zj r_31, zj x2, zj x3] w_38 none w_52 0 0 ∧ (∃ fs_55 : List Value, w_52[a0]? = some (zob 4 fs_55) ∧ (∃ w_56 : List zE, Zc sc 69 [zp a0] w_52 none w_56 0 0 ∧ (∃ wy_59 : Int, ∃ st_60 : Int, ∃ hd_61 : Int, ∃ hn_62 : Int, ∃ sn_63 : Int, ∃ nm_64 : Int, ∃ ar_65 : Int, ∃ pk_66 : Int, ∃ dn_67 : Int, w_56[a0]? = some (zob 4 [zp (a0 + 1), zp (a0 + 6), zj wy_59, zj st_60, zj hd_61, zj hn_62, zj sn_63, zp (a0 + 9), zp (a0 + 10), zj nm_64, zj ar_65, zj pk_66, zj dn_67, zp (a0 + 11)]) ∧ ((zrg wy_59 ∧ zrg 1) ∧ ((wy_59 ≠ 1 → (ov = some (zj 1) ∧ w' = w_56 ∧ c = 0 ∧ s = 0)) ∧ (¬ (wy_59 ≠ 1) → (∃ w_69 : List zE, Zc sc 81 [zp a0, zj (r_31 + x3)] w_56 none w_69 0 0 ∧ (ov = some (zj 1) ∧ w' = w_69 ∧ c = 0 ∧ s = 0)))))))))))))))))) ∧ (¬ (0 ≤ r_3) → (∃ fs_72 : List Value, w_14[a0]? = some (zob 4 fs_72) ∧ (∃ w_73 : List zE, Zc sc 64 [zp a0, zj 4, zj 1] w_14 none w_73 0 0 ∧ (ov = some (zj 0) ∧ w' = w_73 ∧ c = 0 ∧ s = 0)))))))))) : Zr sc 63 0 [zp a0, zj x1, zj x2, zj x3, zmk, zmk] [] w ov w' c s := by
  refine Zr_st (q := (1, [zp a0, zj x1, zj x2, zj x3, zmk, zmk], [zp a0])) rfl rfl rfl ?_
  show Zr sc 63 1 [zp a0, zj x1, zj x2, zj x3, zmk, zmk] [zp a0] w ov w' c s
  refine Zr_st (q := (2, [zp a0, zj x1, zj x2, zj x3, zmk, zmk], [zj x3, zp a0])) rfl rfl rfl ?_
  show Zr sc 63 2 [zp a0, zj x1, zj x2, zj x3, zmk, zmk] [zj x3, zp a0] w ov w' c s
  obtain ⟨r_3, w_1, hk_2, h⟩ := h
  refine rn_cal0 (ins := .invokevirtual 127) (rest := []) rfl rfl rfl rfl (zinv_v (fs := _) L0 rfl rfl rfl rfl) rfl rfl hk_2 ?_
  show Zr sc 63 5 [zp a0, zj x1, zj x2, zj x3, zmk, zmk] [zj r_3] w_1 ov w' c s
  refine Zr_st (q := (7, [zp a0, zj x1, zj x2, zj x3, zj r_3, zmk], [])) rfl rfl rfl ?_
  show Zr sc 63 7 [zp a0, zj x1, zj x2, zj x3, zj r_3, zmk] [] w_1 ov w' c s
  refine Zr_st (q := (8, [zp a0, zj x1, zj x2, zj x3, zj r_3, zmk], [zp a0])) rfl rfl rfl ?_
  show Zr sc 63 8 [zp a0, zj x1, zj x2, zj x3, zj r_3, zmk] [zp a0] w_1 ov w' c s
  refine rl_ic rfl ?_
  show Zr sc 63 9 [zp a0, zj x1, zj x2, zj x3, zj r_3, zmk] [zj 0, zp a0] w_1 ov w' c s
  refine Zr_st (q := (10, [zp a0, zj x1, zj x2, zj x3, zj r_3, zmk], [zp a0, zj 0, zp a0])) rfl rfl rfl ?_
  show Zr sc 63 10 [zp a0, zj x1, zj x2, zj x3, zj r_3, zmk] [zp a0, zj 0, zp a0] w_1 ov w' c s
  obtain ⟨wy_5, st_6, hd_7, hn_8, sn_9, nm_10, ar_11, pk_12, dn_13, hw_4, h⟩ := h
  refine rl_gf rfl hw_4 rfl rfl ?_
  show Zr sc 63 13 [zp a0, zj x1, zj x2, zj x3, zj r_3, zmk] [zj sn_9, zj 0, zp a0] w_1 ov w' c s
  obtain ⟨w_14, hk_15, h⟩ := h
  refine rn_cal0 (ins := .invokevirtual 169) (rest := []) rfl rfl rfl rfl (zinv_v (fs := _) hw_4 rfl rfl rfl rfl) rfl rfl hk_15 ?_
  show Zr sc 63 16 [zp a0, zj x1, zj x2, zj x3, zj r_3, zmk] [] w_14 ov w' c s
  refine Zr_st (q := (18, [zp a0, zj x1, zj x2, zj x3, zj r_3, zmk], [zj r_3])) rfl rfl rfl ?_
  show Zr sc 63 18 [zp a0, zj x1, zj x2, zj x3, zj r_3, zmk] [zj r_3] w_14 ov w' c s
  obtain ⟨hr_16, h⟩ := h
  refine Zr_b0 (p := 0 ≤ r_3) rfl rfl (zcmp_0 (cnd := .ge) hr_16) (fun hp => ?_) (fun hp => ?_)
  · replace h := h.1 hp
    show Zr sc 63 29 [zp a0, zj x1, zj x2, zj x3, zj r_3, zmk] [] w_14 ov w' c s
    refine Zr_st (q := (30, [zp a0, zj x1, zj x2, zj x3, zj r_3, zmk], [zp a0])) rfl rfl rfl ?_
    show Zr sc 63 30 [zp a0, zj x1, zj x2, zj x3, zj r_3, zmk] [zp a0] w_14 ov w' c s
    obtain ⟨wy_18, st_19, hd_20, hn_21, sn_22, nm_23, ar_24, pk_25, dn_26, hw_17, h⟩ := h
    refine rl_gf rfl hw_17 rfl rfl ?_
    show Zr sc 63 33 [zp a0, zj x1, zj x2, zj x3, zj r_3, zmk] [zp (a0 + 6)] w_14 ov w' c s
    refine Zr_st (q := (35, [zp a0, zj x1, zj x2, zj x3, zj r_3, zmk], [zj r_3, zp (a0 + 6)])) rfl rfl rfl ?_
    show Zr sc 63 35 [zp a0, zj x1, zj x2, zj x3, zj r_3, zmk] [zj r_3, zp (a0 + 6)] w_14 ov w' c s
    obtain ⟨fs_28, hl_27, h⟩ := h
    obtain ⟨r_31, hk_9, h⟩ := h
    refine rn_cal0 (ins := .invokevirtual 130) (rest := []) rfl rfl rfl rfl (zinv_v (fs := _) hl_27 rfl rfl rfl rfl) rfl rfl hk_9 ?_
    show Zr sc 63 38 [zp a0, zj x1, zj x2, zj x3, zj r_3, zmk] [zj r_31] w_14 ov w' c s
    refine Zr_st (q := (40, [zp a0, zj x1, zj x2, zj x3, zj r_3, zj r_31], [])) rfl rfl rfl ?_
    show Zr sc 63 40 [zp a0, zj x1, zj x2, zj x3, zj r_3, zj r_31] [] w_14 ov w' c s
    refine Zr_st (q := (41, [zp a0, zj x1, zj x2, zj x3, zj r_3, zj r_31], [zp a0])) rfl rfl rfl ?_
    show Zr sc 63 41 [zp a0, zj x1, zj x2, zj x3, zj r_3, zj r_31] [zp a0] w_14 ov w' c s
    refine rl_ic rfl ?_
    show Zr sc 63 42 [zp a0, zj x1, zj x2, zj x3, zj r_3, zj r_31] [zj 1, zp a0] w_14 ov w' c s
    refine Zr_st (q := (43, [zp a0, zj x1, zj x2, zj x3, zj r_3, zj r_31], [zp a0, zj 1, zp a0])) rfl rfl rfl ?_
    show Zr sc 63 43 [zp a0, zj x1, zj x2, zj x3, zj r_3, zj r_31] [zp a0, zj 1, zp a0] w_14 ov w' c s
    refine Zr_st (q := (44, [zp a0, zj x1, zj x2, zj x3, zj r_3, zj r_31], [zp a0, zp a0, zj 1, zp a0])) rfl rfl rfl ?_
    show Zr sc 63 44 [zp a0, zj x1, zj x2, zj x3, zj r_3, zj r_31] [zp a0, zp a0, zj 1, zp a0] w_14 ov w' c s
    refine rl_gf rfl hw_17 rfl rfl ?_
    show Zr sc 63 47 [zp a0, zj x1, zj x2, zj x3, zj r_3, zj r_31] [zp (a0 + 6), zp a0, zj 1, zp a0] w_14 ov w' c s
    refine Zr_st (q := (49, [zp a0, zj x1, zj x2, zj x3, zj r_3, zj r_31], [zj r_3, zp (a0 + 6), zp a0, zj 1, zp a0])) rfl rfl rfl ?_
    show Zr sc 63 49 [zp a0, zj x1, zj x2, zj x3, zj r_3, zj r_31] [zj r_3, zp (a0 + 6), zp a0, zj 1, zp a0] w_14 ov w' c s
    obtain ⟨r_34, hk_9, h⟩ := h
    refine rn_cal0 (ins := .invokevirtual 46) (rest := [zp a0, zj 1, zp a0]) rfl rfl rfl rfl (zinv_v (fs := _) hl_27 rfl rfl rfl rfl) rfl rfl hk_9 ?_
    show Zr sc 63 52 [zp a0, zj x1, zj x2, zj x3, zj r_3, zj r_31] [zj r_34, zp a0, zj 1, zp a0] w_14 ov w' c s
    refine Zr_st (q := (53, [zp a0, zj x1, zj x2, zj x3, zj r_3, zj r_31], [zj x3, zj r_34, zp a0, zj 1, zp a0])) rfl rfl rfl ?_
    show Zr sc 63 53 [zp a0, zj x1, zj x2, zj x3, zj r_3, zj r_31] [zj x3, zj r_34, zp a0, zj 1, zp a0] w_14 ov w' c s
    obtain ⟨r_37, hk_9, h⟩ := h
    refine rn_cal0 (ins := .invokevirtual 49) (rest := [zj 1, zp a0]) rfl rfl rfl rfl (zinv_v (fs := _) hw_17 rfl rfl rfl rfl) rfl rfl hk_9 ?_
    show Zr sc 63 56 [zp a0, zj x1, zj x2, zj x3, zj r_3, zj r_31] [zj r_37, zj 1, zp a0] w_14 ov w' c s
    obtain ⟨w_38, hk_39, h⟩ := h
    refine rn_cal0 (ins := .invokevirtual 169) (rest := []) rfl rfl rfl rfl (zinv_v (fs := _) hw_17 rfl rfl rfl rfl) rfl rfl hk_39 ?_
    show Zr sc 63 59 [zp a0, zj x1, zj x2, zj x3, zj r_3, zj r_31] [] w_38 ov w' c s
    refine Zr_st (q := (60, [zp a0, zj x1, zj x2, zj x3, zj r_3, zj r_31], [zp a0])) rfl rfl rfl ?_
    show Zr sc 63 60 [zp a0, zj x1, zj x2, zj x3, zj r_3, zj r_31] [zp a0] w_38 ov w' c s
    obtain ⟨wy_41, st_42, hd_43, hn_44, sn_45, nm_46, ar_47, pk_48, dn_49, hw_40, h⟩ := h
    refine rl_gf rfl hw_40 rfl rfl ?_
    show Zr sc 63 63 [zp a0, zj x1, zj x2, zj x3, zj r_3, zj r_31] [zp (a0 + 1)] w_38 ov w' c s
    refine Zr_st (q := (64, [zp a0, zj x1, zj x2, zj x3, zj r_3, zj r_31], [zj x1, zp (a0 + 1)])) rfl rfl rfl ?_
    show Zr sc 63 64 [zp a0, zj x1, zj x2, zj x3, zj r_3, zj r_31] [zj x1, zp (a0 + 1)] w_38 ov w' c s
    refine Zr_st (q := (66, [zp a0, zj x1, zj x2, zj x3, zj r_3, zj r_31], [zj r_31, zj x1, zp (a0 + 1)])) rfl rfl rfl ?_
    show Zr sc 63 66 [zp a0, zj x1, zj x2, zj x3, zj r_3, zj r_31] [zj r_31, zj x1, zp (a0 + 1)] w_38 ov w' c s
    refine Zr_st (q := (67, [zp a0, zj x1, zj x2, zj x3, zj r_3, zj r_31], [zj x2, zj r_31, zj x1, zp (a0 + 1)])) rfl rfl rfl ?_
    show Zr sc 63 67 [zp a0, zj x1, zj x2, zj x3, zj r_3, zj r_31] [zj x2, zj r_31, zj x1, zp (a0 + 1)] w_38 ov w' c s
    refine Zr_st (q := (68, [zp a0, zj x1, zj x2, zj x3, zj r_3, zj r_31], [zj x3, zj x2, zj r_31, zj x1, zp (a0 + 1)])) rfl rfl rfl ?_
    show Zr sc 63 68 [zp a0, zj x1, zj x2, zj x3, zj r_3, zj r_31] [zj x3, zj x2, zj r_31, zj x1, zp (a0 + 1)] w_38 ov w' c s
    obtain ⟨fs_51, hl_50, h⟩ := h
    obtain ⟨w_52, hk_53, h⟩ := h
    refine rn_cal0 (ins := .invokevirtual 144) (rest := []) rfl rfl rfl rfl (zinv_v (fs := _) hl_50 rfl rfl rfl rfl) rfl rfl hk_53 ?_
    show Zr sc 63 71 [zp a0, zj x1, zj x2, zj x3, zj r_3, zj r_31] [] w_52 ov w' c s
    refine Zr_st (q := (72, [zp a0, zj x1, zj x2, zj x3, zj r_3, zj r_31], [zp a0])) rfl rfl rfl ?_
    show Zr sc 63 72 [zp a0, zj x1, zj x2, zj x3, zj r_3, zj r_31] [zp a0] w_52 ov w' c s
    obtain ⟨fs_55, hl_54, h⟩ := h
    obtain ⟨w_56, hk_57, h⟩ := h
    refine rn_cal0 (ins := .invokevirtual 77) (rest := []) rfl rfl rfl rfl (zinv_v (fs := _) hl_54 rfl rfl rfl rfl) rfl rfl hk_57 ?_
    show Zr sc 63 75 [zp a0, zj x1, zj x2, zj x3, zj r_3, zj r_31] [] w_56 ov w' c s
    refine Zr_st (q := (76, [zp a0, zj x1, zj x2, zj x3, zj r_3, zj r_31], [zp a0])) rfl rfl rfl ?_
    show Zr sc 63 76 [zp a0, zj x1, zj x2, zj x3, zj r_3, zj r_31] [zp a0] w_56 ov w' c s
    obtain ⟨wy_59, st_60, hd_61, hn_62, sn_63, nm_64, ar_65, pk_66, dn_67, hw_58, h⟩ := h
    refine rl_gf rfl hw_58 rfl rfl ?_
    show Zr sc 63 79 [zp a0, zj x1, zj x2, zj x3, zj r_3, zj r_31] [zj wy_59] w_56 ov w' c s
    refine rl_ic rfl ?_
    show Zr sc 63 80 [zp a0, zj x1, zj x2, zj x3, zj r_3, zj r_31] [zj 1, zj wy_59] w_56 ov w' c s
    obtain ⟨hr_68, h⟩ := h
    refine Zr_br (p := wy_59 ≠ 1) rfl rfl (zcmp_j (cnd := .ne) hr_68.1 hr_68.2) (fun hp => ?_) (fun hp => ?_)
    · replace h := h.1 hp
      show Zr sc 63 91 [zp a0, zj x1, zj x2, zj x3, zj r_3, zj r_31] [] w_56 ov w' c s
      refine rl_ic rfl ?_
      show Zr sc 63 92 [zp a0, zj x1, zj x2, zj x3, zj r_3, zj r_31] [zj 1] w_56 ov w' c s
      obtain ⟨h1, h2, h3, h4⟩ := h
      subst h1; subst h2; subst h3; subst h4
      exact Zr_ret (ins := .ireturn) rfl rfl
    · replace h := h.2 hp
      show Zr sc 63 83 [zp a0, zj x1, zj x2, zj x3, zj r_3, zj r_31] [] w_56 ov w' c s
      refine Zr_st (q := (84, [zp a0, zj x1, zj x2, zj x3, zj r_3, zj r_31], [zp a0])) rfl rfl rfl ?_
      show Zr sc 63 84 [zp a0, zj x1, zj x2, zj x3, zj r_3, zj r_31] [zp a0] w_56 ov w' c s
      refine Zr_st (q := (86, [zp a0, zj x1, zj x2, zj x3, zj r_3, zj r_31], [zj r_31, zp a0])) rfl rfl rfl ?_
      show Zr sc 63 86 [zp a0, zj x1, zj x2, zj x3, zj r_3, zj r_31] [zj r_31, zp a0] w_56 ov w' c s
      refine Zr_st (q := (87, [zp a0, zj x1, zj x2, zj x3, zj r_3, zj r_31], [zj x3, zj r_31, zp a0])) rfl rfl rfl ?_
      show Zr sc 63 87 [zp a0, zj x1, zj x2, zj x3, zj r_3, zj r_31] [zj x3, zj r_31, zp a0] w_56 ov w' c s
      refine rl_add rfl ?_
      show Zr sc 63 88 [zp a0, zj x1, zj x2, zj x3, zj r_3, zj r_31] [zj (r_31 + x3), zp a0] w_56 ov w' c s
      obtain ⟨w_69, hk_70, h⟩ := h
      refine rn_cal0 (ins := .invokevirtual 172) (rest := []) rfl rfl rfl rfl (zinv_v (fs := _) hw_58 rfl rfl rfl rfl) rfl rfl hk_70 ?_
      show Zr sc 63 91 [zp a0, zj x1, zj x2, zj x3, zj r_3, zj r_31] [] w_69 ov w' c s
      refine rl_ic rfl ?_
      show Zr sc 63 92 [zp a0, zj x1, zj x2, zj x3, zj r_3, zj r_31] [zj 1] w_69 ov w' c s
      obtain ⟨h1, h2, h3, h4⟩ := h
      subst h1; subst h2; subst h3; subst h4
      exact Zr_ret (ins := .ireturn) rfl rfl
  · replace h := h.2 hp
    show Zr sc 63 21 [zp a0, zj x1, zj x2, zj x3, zj r_3, zmk] [] w_14 ov w' c s
    refine Zr_st (q := (22, [zp a0, zj x1, zj x2, zj x3, zj r_3, zmk], [zp a0])) rfl rfl rfl ?_
    show Zr sc 63 22 [zp a0, zj x1, zj x2, zj x3, zj r_3, zmk] [zp a0] w_14 ov w' c s
    refine rl_ic rfl ?_
    show Zr sc 63 23 [zp a0, zj x1, zj x2, zj x3, zj r_3, zmk] [zj 4, zp a0] w_14 ov w' c s
    refine rl_ic rfl ?_
    show Zr sc 63 24 [zp a0, zj x1, zj x2, zj x3, zj r_3, zmk] [zj 1, zj 4, zp a0] w_14 ov w' c s
    obtain ⟨fs_72, hl_71, h⟩ := h
    obtain ⟨w_73, hk_74, h⟩ := h
    refine rn_cal0 (ins := .invokevirtual 169) (rest := []) rfl rfl rfl rfl (zinv_v (fs := _) hl_71 rfl rfl rfl rfl) rfl rfl hk_74 ?_
    show Zr sc 63 27 [zp a0, zj x1, zj x2, zj x3, zj r_3, zmk] [] w_73 ov w' c s
    refine rl_ic rfl ?_
    show Zr sc 63 28 [zp a0, zj x1, zj x2, zj x3, zj r_3, zmk] [zj 0] w_73 ov w' c s
    obtain ⟨h1, h2, h3, h4⟩ := h
    subst h1; subst h2; subst h3; subst h4
    exact Zr_ret (ins := .ireturn) rfl rfl

-- HeapwrightLab$Memory.count(II)V
set_option maxRecDepth 100000 in
theorem V64_0_1 {sc : List Value} {w w' : List zE} {ov : Option Value} {c s : Nat} {a0 : Nat} {x1 : Int} {x2 : Int} {wy : Int} {st : Int} {hd : Int} {hn : Int} {sn : Int} {nm : Int} {ar : Int} {pk : Int} {dn : Int} {cn : List Int} (L0 : w[a0]? = some (zob 1 [zp (a0 + 1), zp (a0 + 6), zj wy, zj st, zj hd, zj hn, zj sn, zp (a0 + 9), zp (a0 + 10), zj nm, zj ar, zj pk, zj dn])) (L9 : w[(a0 + 9)]? = some (za cn)) (h : ((zrg x1) ∧ ((x1 < 0 → (ov = none ∧ w' = w ∧ c = 0 ∧ s = 0)) ∧ (¬ (x1 < 0) → ((zrg x1 ∧ zrg 5) ∧ ((5 ≤ x1 → (ov = none ∧ w' = w ∧ c = 0 ∧ s = 0)) ∧ (¬ (5 ≤ x1) → (((0 : Int) ≤ x1 ∧ x1 < (cn.length : Int) ∧ x1 ≤ (2147483647 : Int)) ∧ (((0 : Int) ≤ x1 ∧ x1 < (cn.length : Int) ∧ x1 ≤ (2147483647 : Int)) ∧ (ov = none ∧ w' = (w.set (a0 + 9) (za (zsi cn x1 ((zgi cn x1) + x2)))) ∧ c = 0 ∧ s = 0)))))))))) : Zr sc 64 0 [zp a0, zj x1, zj x2] [] w ov w' c s := by
  refine Zr_st (q := (1, [zp a0, zj x1, zj x2], [zj x1])) rfl rfl rfl ?_
  show Zr sc 64 1 [zp a0, zj x1, zj x2] [zj x1] w ov w' c s
  obtain ⟨hr_1, h⟩ := h
  refine Zr_b0 (p := x1 < 0) rfl rfl (zcmp_0 (cnd := .lt) hr_1) (fun hp => ?_) (fun hp => ?_)
  · replace h := h.1 hp
    show Zr sc 64 19 [zp a0, zj x1, zj x2] [] w ov w' c s
    obtain ⟨h1, h2, h3, h4⟩ := h
    subst h1; subst h2; subst h3; subst h4
    exact Zr_ret (ins := .return_) rfl rfl
  · replace h := h.2 hp
    show Zr sc 64 4 [zp a0, zj x1, zj x2] [] w ov w' c s
    refine Zr_st (q := (5, [zp a0, zj x1, zj x2], [zj x1])) rfl rfl rfl ?_
    show Zr sc 64 5 [zp a0, zj x1, zj x2] [zj x1] w ov w' c s
    refine rl_ic rfl ?_
    show Zr sc 64 6 [zp a0, zj x1, zj x2] [zj 5, zj x1] w ov w' c s
    obtain ⟨hr_2, h⟩ := h
    refine Zr_br (p := 5 ≤ x1) rfl rfl (zcmp_j (cnd := .ge) hr_2.1 hr_2.2) (fun hp => ?_) (fun hp => ?_)
    · replace h := h.1 hp
      show Zr sc 64 19 [zp a0, zj x1, zj x2] [] w ov w' c s
      obtain ⟨h1, h2, h3, h4⟩ := h
      subst h1; subst h2; subst h3; subst h4
      exact Zr_ret (ins := .return_) rfl rfl
    · replace h := h.2 hp
      show Zr sc 64 9 [zp a0, zj x1, zj x2] [] w ov w' c s
      refine Zr_st (q := (10, [zp a0, zj x1, zj x2], [zp a0])) rfl rfl rfl ?_
      show Zr sc 64 10 [zp a0, zj x1, zj x2] [zp a0] w ov w' c s
      refine rl_gf rfl L0 rfl rfl ?_
      show Zr sc 64 13 [zp a0, zj x1, zj x2] [zp (a0 + 9)] w ov w' c s
      refine Zr_st (q := (14, [zp a0, zj x1, zj x2], [zj x1, zp (a0 + 9)])) rfl rfl rfl ?_
      show Zr sc 64 14 [zp a0, zj x1, zj x2] [zj x1, zp (a0 + 9)] w ov w' c s
      refine Zr_st (q := (15, [zp a0, zj x1, zj x2], [zj x1, zp (a0 + 9), zj x1, zp (a0 + 9)])) rfl rfl rfl ?_
      show Zr sc 64 15 [zp a0, zj x1, zj x2] [zj x1, zp (a0 + 9), zj x1, zp (a0 + 9)] w ov w' c s
      obtain ⟨hi_3, h⟩ := h
      refine rl_ia rfl L9 hi_3.1 hi_3.2.1 hi_3.2.2 ?_
      show Zr sc 64 16 [zp a0, zj x1, zj x2] [zj (zgi cn x1), zj x1, zp (a0 + 9)] w ov w' c s
      refine Zr_st (q := (17, [zp a0, zj x1, zj x2], [zj x2, zj (zgi cn x1), zj x1, zp (a0 + 9)])) rfl rfl rfl ?_
      show Zr sc 64 17 [zp a0, zj x1, zj x2] [zj x2, zj (zgi cn x1), zj x1, zp (a0 + 9)] w ov w' c s
      refine rl_add rfl ?_
      show Zr sc 64 18 [zp a0, zj x1, zj x2] [zj ((zgi cn x1) + x2), zj x1, zp (a0 + 9)] w ov w' c s
      obtain ⟨hi_4, h⟩ := h
      refine rl_is rfl L9 hi_4.1 hi_4.2.1 hi_4.2.2 ?_
      show Zr sc 64 19 [zp a0, zj x1, zj x2] [] (w.set (a0 + 9) (za (zsi cn x1 ((zgi cn x1) + x2)))) ov w' c s
      obtain ⟨h1, h2, h3, h4⟩ := h
      subst h1; subst h2; subst h3; subst h4
      exact Zr_ret (ins := .return_) rfl rfl

-- HeapwrightLab$Memory.count(II)V
set_option maxRecDepth 100000 in
theorem V64_0_2 {sc : List Value} {w w' : List zE} {ov : Option Value} {c s : Nat} {a0 : Nat} {x1 : Int} {x2 : Int} {wy : Int} {st : Int} {hd : Int} {hn : Int} {sn : Int} {nm : Int} {ar : Int} {pk : Int} {dn : Int} {cn : List Int} (L0 : w[a0]? = some (zob 2 [zp (a0 + 1), zp (a0 + 6), zj wy, zj st, zj hd, zj hn, zj sn, zp (a0 + 9), zp (a0 + 10), zj nm, zj ar, zj pk, zj dn])) (L9 : w[(a0 + 9)]? = some (za cn)) (h : ((zrg x1) ∧ ((x1 < 0 → (ov = none ∧ w' = w ∧ c = 0 ∧ s = 0)) ∧ (¬ (x1 < 0) → ((zrg x1 ∧ zrg 5) ∧ ((5 ≤ x1 → (ov = none ∧ w' = w ∧ c = 0 ∧ s = 0)) ∧ (¬ (5 ≤ x1) → (((0 : Int) ≤ x1 ∧ x1 < (cn.length : Int) ∧ x1 ≤ (2147483647 : Int)) ∧ (((0 : Int) ≤ x1 ∧ x1 < (cn.length : Int) ∧ x1 ≤ (2147483647 : Int)) ∧ (ov = none ∧ w' = (w.set (a0 + 9) (za (zsi cn x1 ((zgi cn x1) + x2)))) ∧ c = 0 ∧ s = 0)))))))))) : Zr sc 64 0 [zp a0, zj x1, zj x2] [] w ov w' c s := by
  refine Zr_st (q := (1, [zp a0, zj x1, zj x2], [zj x1])) rfl rfl rfl ?_
  show Zr sc 64 1 [zp a0, zj x1, zj x2] [zj x1] w ov w' c s
  obtain ⟨hr_1, h⟩ := h
  refine Zr_b0 (p := x1 < 0) rfl rfl (zcmp_0 (cnd := .lt) hr_1) (fun hp => ?_) (fun hp => ?_)
  · replace h := h.1 hp
    show Zr sc 64 19 [zp a0, zj x1, zj x2] [] w ov w' c s
    obtain ⟨h1, h2, h3, h4⟩ := h
    subst h1; subst h2; subst h3; subst h4
    exact Zr_ret (ins := .return_) rfl rfl
  · replace h := h.2 hp
    show Zr sc 64 4 [zp a0, zj x1, zj x2] [] w ov w' c s
    refine Zr_st (q := (5, [zp a0, zj x1, zj x2], [zj x1])) rfl rfl rfl ?_
    show Zr sc 64 5 [zp a0, zj x1, zj x2] [zj x1] w ov w' c s
    refine rl_ic rfl ?_
    show Zr sc 64 6 [zp a0, zj x1, zj x2] [zj 5, zj x1] w ov w' c s
    obtain ⟨hr_2, h⟩ := h
    refine Zr_br (p := 5 ≤ x1) rfl rfl (zcmp_j (cnd := .ge) hr_2.1 hr_2.2) (fun hp => ?_) (fun hp => ?_)
    · replace h := h.1 hp
      show Zr sc 64 19 [zp a0, zj x1, zj x2] [] w ov w' c s
      obtain ⟨h1, h2, h3, h4⟩ := h
      subst h1; subst h2; subst h3; subst h4
      exact Zr_ret (ins := .return_) rfl rfl
    · replace h := h.2 hp
      show Zr sc 64 9 [zp a0, zj x1, zj x2] [] w ov w' c s
      refine Zr_st (q := (10, [zp a0, zj x1, zj x2], [zp a0])) rfl rfl rfl ?_
      show Zr sc 64 10 [zp a0, zj x1, zj x2] [zp a0] w ov w' c s
      refine rl_gf rfl L0 rfl rfl ?_
      show Zr sc 64 13 [zp a0, zj x1, zj x2] [zp (a0 + 9)] w ov w' c s
      refine Zr_st (q := (14, [zp a0, zj x1, zj x2], [zj x1, zp (a0 + 9)])) rfl rfl rfl ?_
      show Zr sc 64 14 [zp a0, zj x1, zj x2] [zj x1, zp (a0 + 9)] w ov w' c s
      refine Zr_st (q := (15, [zp a0, zj x1, zj x2], [zj x1, zp (a0 + 9), zj x1, zp (a0 + 9)])) rfl rfl rfl ?_
      show Zr sc 64 15 [zp a0, zj x1, zj x2] [zj x1, zp (a0 + 9), zj x1, zp (a0 + 9)] w ov w' c s
      obtain ⟨hi_3, h⟩ := h
      refine rl_ia rfl L9 hi_3.1 hi_3.2.1 hi_3.2.2 ?_
      show Zr sc 64 16 [zp a0, zj x1, zj x2] [zj (zgi cn x1), zj x1, zp (a0 + 9)] w ov w' c s
      refine Zr_st (q := (17, [zp a0, zj x1, zj x2], [zj x2, zj (zgi cn x1), zj x1, zp (a0 + 9)])) rfl rfl rfl ?_
      show Zr sc 64 17 [zp a0, zj x1, zj x2] [zj x2, zj (zgi cn x1), zj x1, zp (a0 + 9)] w ov w' c s
      refine rl_add rfl ?_
      show Zr sc 64 18 [zp a0, zj x1, zj x2] [zj ((zgi cn x1) + x2), zj x1, zp (a0 + 9)] w ov w' c s
      obtain ⟨hi_4, h⟩ := h
      refine rl_is rfl L9 hi_4.1 hi_4.2.1 hi_4.2.2 ?_
      show Zr sc 64 19 [zp a0, zj x1, zj x2] [] (w.set (a0 + 9) (za (zsi cn x1 ((zgi cn x1) + x2)))) ov w' c s
      obtain ⟨h1, h2, h3, h4⟩ := h
      subst h1; subst h2; subst h3; subst h4
      exact Zr_ret (ins := .return_) rfl rfl

-- HeapwrightLab$Memory.count(II)V
set_option maxRecDepth 100000 in
theorem V64_0_4 {sc : List Value} {w w' : List zE} {ov : Option Value} {c s : Nat} {a0 : Nat} {x1 : Int} {x2 : Int} {wy : Int} {st : Int} {hd : Int} {hn : Int} {sn : Int} {nm : Int} {ar : Int} {pk : Int} {dn : Int} {cn : List Int} (L0 : w[a0]? = some (zob 4 [zp (a0 + 1), zp (a0 + 6), zj wy, zj st, zj hd, zj hn, zj sn, zp (a0 + 9), zp (a0 + 10), zj nm, zj ar, zj pk, zj dn, zp (a0 + 11)])) (L9 : w[(a0 + 9)]? = some (za cn)) (h : ((zrg x1) ∧ ((x1 < 0 → (ov = none ∧ w' = w ∧ c = 0 ∧ s = 0)) ∧ (¬ (x1 < 0) → ((zrg x1 ∧ zrg 5) ∧ ((5 ≤ x1 → (ov = none ∧ w' = w ∧ c = 0 ∧ s = 0)) ∧ (¬ (5 ≤ x1) → (((0 : Int) ≤ x1 ∧ x1 < (cn.length : Int) ∧ x1 ≤ (2147483647 : Int)) ∧ (((0 : Int) ≤ x1 ∧ x1 < (cn.length : Int) ∧ x1 ≤ (2147483647 : Int)) ∧ (ov = none ∧ w' = (w.set (a0 + 9) (za (zsi cn x1 ((zgi cn x1) + x2)))) ∧ c = 0 ∧ s = 0)))))))))) : Zr sc 64 0 [zp a0, zj x1, zj x2] [] w ov w' c s := by
  refine Zr_st (q := (1, [zp a0, zj x1, zj x2], [zj x1])) rfl rfl rfl ?_
  show Zr sc 64 1 [zp a0, zj x1, zj x2] [zj x1] w ov w' c s
  obtain ⟨hr_1, h⟩ := h
  refine Zr_b0 (p := x1 < 0) rfl rfl (zcmp_0 (cnd := .lt) hr_1) (fun hp => ?_) (fun hp => ?_)
  · replace h := h.1 hp
    show Zr sc 64 19 [zp a0, zj x1, zj x2] [] w ov w' c s
    obtain ⟨h1, h2, h3, h4⟩ := h
    subst h1; subst h2; subst h3; subst h4
    exact Zr_ret (ins := .return_) rfl rfl
  · replace h := h.2 hp
    show Zr sc 64 4 [zp a0, zj x1, zj x2] [] w ov w' c s
    refine Zr_st (q := (5, [zp a0, zj x1, zj x2], [zj x1])) rfl rfl rfl ?_
    show Zr sc 64 5 [zp a0, zj x1, zj x2] [zj x1] w ov w' c s
    refine rl_ic rfl ?_
    show Zr sc 64 6 [zp a0, zj x1, zj x2] [zj 5, zj x1] w ov w' c s
    obtain ⟨hr_2, h⟩ := h
    refine Zr_br (p := 5 ≤ x1) rfl rfl (zcmp_j (cnd := .ge) hr_2.1 hr_2.2) (fun hp => ?_) (fun hp => ?_)
    · replace h := h.1 hp
      show Zr sc 64 19 [zp a0, zj x1, zj x2] [] w ov w' c s
      obtain ⟨h1, h2, h3, h4⟩ := h
      subst h1; subst h2; subst h3; subst h4
      exact Zr_ret (ins := .return_) rfl rfl
    · replace h := h.2 hp
      show Zr sc 64 9 [zp a0, zj x1, zj x2] [] w ov w' c s
      refine Zr_st (q := (10, [zp a0, zj x1, zj x2], [zp a0])) rfl rfl rfl ?_
      show Zr sc 64 10 [zp a0, zj x1, zj x2] [zp a0] w ov w' c s
      refine rl_gf rfl L0 rfl rfl ?_
      show Zr sc 64 13 [zp a0, zj x1, zj x2] [zp (a0 + 9)] w ov w' c s
      refine Zr_st (q := (14, [zp a0, zj x1, zj x2], [zj x1, zp (a0 + 9)])) rfl rfl rfl ?_
      show Zr sc 64 14 [zp a0, zj x1, zj x2] [zj x1, zp (a0 + 9)] w ov w' c s
      refine Zr_st (q := (15, [zp a0, zj x1, zj x2], [zj x1, zp (a0 + 9), zj x1, zp (a0 + 9)])) rfl rfl rfl ?_
      show Zr sc 64 15 [zp a0, zj x1, zj x2] [zj x1, zp (a0 + 9), zj x1, zp (a0 + 9)] w ov w' c s
      obtain ⟨hi_3, h⟩ := h
      refine rl_ia rfl L9 hi_3.1 hi_3.2.1 hi_3.2.2 ?_
      show Zr sc 64 16 [zp a0, zj x1, zj x2] [zj (zgi cn x1), zj x1, zp (a0 + 9)] w ov w' c s
      refine Zr_st (q := (17, [zp a0, zj x1, zj x2], [zj x2, zj (zgi cn x1), zj x1, zp (a0 + 9)])) rfl rfl rfl ?_
      show Zr sc 64 17 [zp a0, zj x1, zj x2] [zj x2, zj (zgi cn x1), zj x1, zp (a0 + 9)] w ov w' c s
      refine rl_add rfl ?_
      show Zr sc 64 18 [zp a0, zj x1, zj x2] [zj ((zgi cn x1) + x2), zj x1, zp (a0 + 9)] w ov w' c s
      obtain ⟨hi_4, h⟩ := h
      refine rl_is rfl L9 hi_4.1 hi_4.2.1 hi_4.2.2 ?_
      show Zr sc 64 19 [zp a0, zj x1, zj x2] [] (w.set (a0 + 9) (za (zsi cn x1 ((zgi cn x1) + x2)))) ov w' c s
      obtain ⟨h1, h2, h3, h4⟩ := h
      subst h1; subst h2; subst h3; subst h4
      exact Zr_ret (ins := .return_) rfl rfl

-- HeapwrightLab$Buddies.splits(II)I
set_option maxRecDepth 100000 in
theorem V65_0 {sc : List Value} {w w' : List zE} {ov : Option Value} {c s : Nat} {a0 : Nat} {x1 : Int} {x2 : Int} (h : (((0 : Int) ≤ x1 ∧ x1 ≤ (2147483647 : Int) ∧ (0 : Int) < 2 ∧ 2 ≤ (2147483647 : Int)) ∧ Zr sc 65 7 [zp a0, zj x1, zj x2, zj 0, zj (x1 / 2)] [] w ov w' c s)) : Zr sc 65 0 [zp a0, zj x1, zj x2, zmk, zmk] [] w ov w' c s := by
  refine rl_ic rfl ?_
  show Zr sc 65 1 [zp a0, zj x1, zj x2, zmk, zmk] [zj 0] w ov w' c s
  refine Zr_st (q := (2, [zp a0, zj x1, zj x2, zj 0, zmk], [])) rfl rfl rfl ?_
  show Zr sc 65 2 [zp a0, zj x1, zj x2, zj 0, zmk] [] w ov w' c s
  refine Zr_st (q := (3, [zp a0, zj x1, zj x2, zj 0, zmk], [zj x1])) rfl rfl rfl ?_
  show Zr sc 65 3 [zp a0, zj x1, zj x2, zj 0, zmk] [zj x1] w ov w' c s
  refine rl_ic rfl ?_
  show Zr sc 65 4 [zp a0, zj x1, zj x2, zj 0, zmk] [zj 2, zj x1] w ov w' c s
  obtain ⟨hd_1, h⟩ := h
  refine rl_div rfl hd_1.1 hd_1.2.1 hd_1.2.2.1 hd_1.2.2.2 ?_
  show Zr sc 65 5 [zp a0, zj x1, zj x2, zj 0, zmk] [zj (x1 / 2)] w ov w' c s
  refine Zr_st (q := (7, [zp a0, zj x1, zj x2, zj 0, zj (x1 / 2)], [])) rfl rfl rfl ?_
  show Zr sc 65 7 [zp a0, zj x1, zj x2, zj 0, zj (x1 / 2)] [] w ov w' c s
  exact h
set_option maxRecDepth 100000 in
theorem V65_7 {sc : List Value} {w w' : List zE} {ov : Option Value} {c s : Nat} {a0 : Nat} {x1 : Int} {x2 : Int} {x3 : Int} {x4 : Int} (h : ((zrg x4) ∧ ((x4 ≤ 0 → (ov = some (zj x3) ∧ w' = w ∧ c = 0 ∧ s = 0)) ∧ (¬ (x4 ≤ 0) → ((zrg x4 ∧ zrg x2) ∧ ((x4 < x2 → (ov = some (zj x3) ∧ w' = w ∧ c = 0 ∧ s = 0)) ∧ (¬ (x4 < x2) → (((0 : Int) ≤ x4 ∧ x4 ≤ (2147483647 : Int) ∧ (0 : Int) < 2 ∧ 2 ≤ (2147483647 : Int)) ∧ Zr sc 65 7 [zp a0, zj x1, zj x2, zj (x3 + 1), zj (x4 / 2)] [] w ov w' c s)))))))) : Zr sc 65 7 [zp a0, zj x1, zj x2, zj x3, zj x4] [] w ov w' c s := by
  refine Zr_st (q := (9, [zp a0, zj x1, zj x2, zj x3, zj x4], [zj x4])) rfl rfl rfl ?_
  show Zr sc 65 9 [zp a0, zj x1, zj x2, zj x3, zj x4] [zj x4] w ov w' c s
  obtain ⟨hr_1, h⟩ := h
  refine Zr_b0 (p := x4 ≤ 0) rfl rfl (zcmp_0 (cnd := .le) hr_1) (fun hp => ?_) (fun hp => ?_)
  · replace h := h.1 hp
    show Zr sc 65 30 [zp a0, zj x1, zj x2, zj x3, zj x4] [] w ov w' c s
    refine Zr_st (q := (31, [zp a0, zj x1, zj x2, zj x3, zj x4], [zj x3])) rfl rfl rfl ?_
    show Zr sc 65 31 [zp a0, zj x1, zj x2, zj x3, zj x4] [zj x3] w ov w' c s
    obtain ⟨h1, h2, h3, h4⟩ := h
    subst h1; subst h2; subst h3; subst h4
    exact Zr_ret (ins := .ireturn) rfl rfl
  · replace h := h.2 hp
    show Zr sc 65 12 [zp a0, zj x1, zj x2, zj x3, zj x4] [] w ov w' c s
    refine Zr_st (q := (14, [zp a0, zj x1, zj x2, zj x3, zj x4], [zj x4])) rfl rfl rfl ?_
    show Zr sc 65 14 [zp a0, zj x1, zj x2, zj x3, zj x4] [zj x4] w ov w' c s
    refine Zr_st (q := (15, [zp a0, zj x1, zj x2, zj x3, zj x4], [zj x2, zj x4])) rfl rfl rfl ?_
    show Zr sc 65 15 [zp a0, zj x1, zj x2, zj x3, zj x4] [zj x2, zj x4] w ov w' c s
    obtain ⟨hr_2, h⟩ := h
    refine Zr_br (p := x4 < x2) rfl rfl (zcmp_j (cnd := .lt) hr_2.1 hr_2.2) (fun hp => ?_) (fun hp => ?_)
    · replace h := h.1 hp
      show Zr sc 65 30 [zp a0, zj x1, zj x2, zj x3, zj x4] [] w ov w' c s
      refine Zr_st (q := (31, [zp a0, zj x1, zj x2, zj x3, zj x4], [zj x3])) rfl rfl rfl ?_
      show Zr sc 65 31 [zp a0, zj x1, zj x2, zj x3, zj x4] [zj x3] w ov w' c s
      obtain ⟨h1, h2, h3, h4⟩ := h
      subst h1; subst h2; subst h3; subst h4
      exact Zr_ret (ins := .ireturn) rfl rfl
    · replace h := h.2 hp
      show Zr sc 65 18 [zp a0, zj x1, zj x2, zj x3, zj x4] [] w ov w' c s
      refine rl_inc rfl rfl rfl rfl ?_
      show Zr sc 65 21 [zp a0, zj x1, zj x2, zj (x3 + 1), zj x4] [] w ov w' c s
      refine Zr_st (q := (23, [zp a0, zj x1, zj x2, zj (x3 + 1), zj x4], [zj x4])) rfl rfl rfl ?_
      show Zr sc 65 23 [zp a0, zj x1, zj x2, zj (x3 + 1), zj x4] [zj x4] w ov w' c s
      refine rl_ic rfl ?_
      show Zr sc 65 24 [zp a0, zj x1, zj x2, zj (x3 + 1), zj x4] [zj 2, zj x4] w ov w' c s
      obtain ⟨hd_3, h⟩ := h
      refine rl_div rfl hd_3.1 hd_3.2.1 hd_3.2.2.1 hd_3.2.2.2 ?_
      show Zr sc 65 25 [zp a0, zj x1, zj x2, zj (x3 + 1), zj x4] [zj (x4 / 2)] w ov w' c s
      refine Zr_st (q := (27, [zp a0, zj x1, zj x2, zj (x3 + 1), zj (x4 / 2)], [])) rfl rfl rfl ?_
      show Zr sc 65 27 [zp a0, zj x1, zj x2, zj (x3 + 1), zj (x4 / 2)] [] w ov w' c s
      refine Zr_st (q := (7, [zp a0, zj x1, zj x2, zj (x3 + 1), zj (x4 / 2)], [])) rfl rfl rfl ?_
      show Zr sc 65 7 [zp a0, zj x1, zj x2, zj (x3 + 1), zj (x4 / 2)] [] w ov w' c s
      exact h

-- HeapwrightLab$Fits.splits(II)I
set_option maxRecDepth 100000 in
theorem V66_0 {sc : List Value} {w w' : List zE} {ov : Option Value} {c s : Nat} {a0 : Nat} {x1 : Int} {x2 : Int} (h : ((zrg x1 ∧ zrg x2) ∧ ((x1 ≤ x2 → (ov = some (zj 0) ∧ w' = w ∧ c = 0 ∧ s = 0)) ∧ (¬ (x1 ≤ x2) → (ov = some (zj 1) ∧ w' = w ∧ c = 0 ∧ s = 0))))) : Zr sc 66 0 [zp a0, zj x1, zj x2] [] w ov w' c s := by
  refine Zr_st (q := (1, [zp a0, zj x1, zj x2], [zj x1])) rfl rfl rfl ?_
  show Zr sc 66 1 [zp a0, zj x1, zj x2] [zj x1] w ov w' c s
  refine Zr_st (q := (2, [zp a0, zj x1, zj x2], [zj x2, zj x1])) rfl rfl rfl ?_
  show Zr sc 66 2 [zp a0, zj x1, zj x2] [zj x2, zj x1] w ov w' c s
  obtain ⟨hr_1, h⟩ := h
  refine Zr_br (p := x1 ≤ x2) rfl rfl (zcmp_j (cnd := .le) hr_1.1 hr_1.2) (fun hp => ?_) (fun hp => ?_)
  · replace h := h.1 hp
    show Zr sc 66 9 [zp a0, zj x1, zj x2] [] w ov w' c s
    refine rl_ic rfl ?_
    show Zr sc 66 10 [zp a0, zj x1, zj x2] [zj 0] w ov w' c s
    obtain ⟨h1, h2, h3, h4⟩ := h
    subst h1; subst h2; subst h3; subst h4
    exact Zr_ret (ins := .ireturn) rfl rfl
  · replace h := h.2 hp
    show Zr sc 66 5 [zp a0, zj x1, zj x2] [] w ov w' c s
    refine rl_ic rfl ?_
    show Zr sc 66 6 [zp a0, zj x1, zj x2] [zj 1] w ov w' c s
    refine Zr_st (q := (10, [zp a0, zj x1, zj x2], [zj 1])) rfl rfl rfl ?_
    show Zr sc 66 10 [zp a0, zj x1, zj x2] [zj 1] w ov w' c s
    obtain ⟨h1, h2, h3, h4⟩ := h
    subst h1; subst h2; subst h3; subst h4
    exact Zr_ret (ins := .ireturn) rfl rfl

-- HeapwrightLab$Slabs.splits(II)I
set_option maxRecDepth 100000 in
theorem V67_0 {sc : List Value} {w w' : List zE} {ov : Option Value} {c s : Nat} {a0 : Nat} {x1 : Int} {x2 : Int} (h : ((zrg x2 ∧ zrg 128) ∧ ((128 ≤ x2 → (ov = some (zj 0) ∧ w' = w ∧ c = 0 ∧ s = 0)) ∧ (¬ (128 ≤ x2) → ((zrg x1 ∧ zrg 128) ∧ ((x1 < 128 → (ov = some (zj 0) ∧ w' = w ∧ c = 0 ∧ s = 0)) ∧ (¬ (x1 < 128) → (ov = some (zj 1) ∧ w' = w ∧ c = 0 ∧ s = 0)))))))) : Zr sc 67 0 [zp a0, zj x1, zj x2] [] w ov w' c s := by
  refine Zr_st (q := (1, [zp a0, zj x1, zj x2], [zj x2])) rfl rfl rfl ?_
  show Zr sc 67 1 [zp a0, zj x1, zj x2] [zj x2] w ov w' c s
  refine rl_si rfl (by decide) ?_
  show Zr sc 67 4 [zp a0, zj x1, zj x2] [zj 128, zj x2] w ov w' c s
  obtain ⟨hr_1, h⟩ := h
  refine Zr_br (p := 128 ≤ x2) rfl rfl (zcmp_j (cnd := .ge) hr_1.1 hr_1.2) (fun hp => ?_) (fun hp => ?_)
  · replace h := h.1 hp
    show Zr sc 67 18 [zp a0, zj x1, zj x2] [] w ov w' c s
    refine rl_ic rfl ?_
    show Zr sc 67 19 [zp a0, zj x1, zj x2] [zj 0] w ov w' c s
    obtain ⟨h1, h2, h3, h4⟩ := h
    subst h1; subst h2; subst h3; subst h4
    exact Zr_ret (ins := .ireturn) rfl rfl
  · replace h := h.2 hp
    show Zr sc 67 7 [zp a0, zj x1, zj x2] [] w ov w' c s
    refine Zr_st (q := (8, [zp a0, zj x1, zj x2], [zj x1])) rfl rfl rfl ?_
    show Zr sc 67 8 [zp a0, zj x1, zj x2] [zj x1] w ov w' c s
    refine rl_si rfl (by decide) ?_
    show Zr sc 67 11 [zp a0, zj x1, zj x2] [zj 128, zj x1] w ov w' c s
    obtain ⟨hr_2, h⟩ := h
    refine Zr_br (p := x1 < 128) rfl rfl (zcmp_j (cnd := .lt) hr_2.1 hr_2.2) (fun hp => ?_) (fun hp => ?_)
    · replace h := h.1 hp
      show Zr sc 67 18 [zp a0, zj x1, zj x2] [] w ov w' c s
      refine rl_ic rfl ?_
      show Zr sc 67 19 [zp a0, zj x1, zj x2] [zj 0] w ov w' c s
      obtain ⟨h1, h2, h3, h4⟩ := h
      subst h1; subst h2; subst h3; subst h4
      exact Zr_ret (ins := .ireturn) rfl rfl
    · replace h := h.2 hp
      show Zr sc 67 14 [zp a0, zj x1, zj x2] [] w ov w' c s
      refine rl_ic rfl ?_
      show Zr sc 67 15 [zp a0, zj x1, zj x2] [zj 1] w ov w' c s
      refine Zr_st (q := (19, [zp a0, zj x1, zj x2], [zj 1])) rfl rfl rfl ?_
      show Zr sc 67 19 [zp a0, zj x1, zj x2] [zj 1] w ov w' c s
      obtain ⟨h1, h2, h3, h4⟩ := h
      subst h1; subst h2; subst h3; subst h4
      exact Zr_ret (ins := .ireturn) rfl rfl

