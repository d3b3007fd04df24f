/-! ===== regions: the law and its pool ===== -/
-- HeapwrightLab$Trace.add(III)LHeapwrightLab$Trace;
set_option maxRecDepth 100000 in
theorem V136_0 {sc : List Value} {w w' : List zE} {ov : Option Value} {c s : Nat} {a0 : Nat} {x1 : Int} {x2 : Int} {x3 : Int} {len : Int} {tk : List Int} {tn : List Int} {tz : List Int} (L0 : w[a0]? = some (zob 5 [zp (a0 + 1), zp (a0 + 2), zp (a0 + 3), zj len])) (L1 : w[(a0 + 1)]? = some (za tk)) (L2 : w[(a0 + 2)]? = some (za tn)) (L3 : w[(a0 + 3)]? = some (za tz)) (h : ((zrg len ∧ zrg 150) ∧ ((150 ≤ len → (ov = some (zp a0) ∧ w' = w ∧ c = 0 ∧ s = 0)) ∧ (¬ (150 ≤ len) → (((0 : Int) ≤ len ∧ len < (tk.length : Int) ∧ len ≤ (2147483647 : Int)) ∧ (((0 : Int) ≤ len ∧ len < (tn.length : Int) ∧ len ≤ (2147483647 : Int)) ∧ (((0 : Int) ≤ len ∧ len < (tz.length : Int) ∧ len ≤ (2147483647 : Int)) ∧ (ov = some (zp a0) ∧ w' = ((((w.set (a0 + 1) (za (zsi tk len x1))).set (a0 + 2) (za (zsi tn len x2))).set (a0 + 3) (za (zsi tz len x3))).set a0 (zob 5 [zp (a0 + 1), zp (a0 + 2), zp (a0 + 3), zj (len + 1)])) ∧ c = 0 ∧ s = 0)))))))) : Zr sc 136 0 [zp a0, zj x1, zj x2, zj x3] [] w ov w' c s := by
  refine Zr_st (q := (1, [zp a0, zj x1, zj x2, zj x3], [zp a0])) rfl rfl rfl ?_
  show Zr sc 136 1 [zp a0, zj x1, zj x2, zj x3] [zp a0] w ov w' c s
  refine rl_gf rfl L0 rfl rfl ?_
  show Zr sc 136 4 [zp a0, zj x1, zj x2, zj x3] [zj len] w ov w' c s
  refine rl_si rfl (by decide) ?_
  show Zr sc 136 7 [zp a0, zj x1, zj x2, zj x3] [zj 150, zj len] w ov w' c s
  obtain ⟨hr_1, h⟩ := h
  refine Zr_br (p := 150 ≤ len) rfl rfl (zcmp_j (cnd := .ge) hr_1.1 hr_1.2) (fun hp => ?_) (fun hp => ?_)
  · replace h := h.1 hp
    show Zr sc 136 50 [zp a0, zj x1, zj x2, zj x3] [] w ov w' c s
    refine Zr_st (q := (51, [zp a0, zj x1, zj x2, zj x3], [zp a0])) rfl rfl rfl ?_
    show Zr sc 136 51 [zp a0, zj x1, zj x2, zj x3] [zp a0] w ov w' c s
    obtain ⟨h1, h2, h3, h4⟩ := h
    subst h1; subst h2; subst h3; subst h4
    exact Zr_ret (ins := .areturn) rfl rfl
  · replace h := h.2 hp
    show Zr sc 136 10 [zp a0, zj x1, zj x2, zj x3] [] w ov w' c s
    refine Zr_st (q := (11, [zp a0, zj x1, zj x2, zj x3], [zp a0])) rfl rfl rfl ?_
    show Zr sc 136 11 [zp a0, zj x1, zj x2, zj x3] [zp a0] w ov w' c s
    refine rl_gf rfl L0 rfl rfl ?_
    show Zr sc 136 14 [zp a0, zj x1, zj x2, zj x3] [zp (a0 + 1)] w ov w' c s
    refine Zr_st (q := (15, [zp a0, zj x1, zj x2, zj x3], [zp a0, zp (a0 + 1)])) rfl rfl rfl ?_
    show Zr sc 136 15 [zp a0, zj x1, zj x2, zj x3] [zp a0, zp (a0 + 1)] w ov w' c s
    refine rl_gf rfl L0 rfl rfl ?_
    show Zr sc 136 18 [zp a0, zj x1, zj x2, zj x3] [zj len, zp (a0 + 1)] w ov w' c s
    refine Zr_st (q := (19, [zp a0, zj x1, zj x2, zj x3], [zj x1, zj len, zp (a0 + 1)])) rfl rfl rfl ?_
    show Zr sc 136 19 [zp a0, zj x1, zj x2, zj x3] [zj x1, zj len, zp (a0 + 1)] w ov w' c s
    obtain ⟨hi_2, h⟩ := h
    refine rl_is rfl L1 hi_2.1 hi_2.2.1 hi_2.2.2 ?_
    show Zr sc 136 20 [zp a0, zj x1, zj x2, zj x3] [] (w.set (a0 + 1) (za (zsi tk len x1))) ov w' c s
    refine Zr_st (q := (21, [zp a0, zj x1, zj x2, zj x3], [zp a0])) rfl rfl rfl ?_
    show Zr sc 136 21 [zp a0, zj x1, zj x2, zj x3] [zp a0] (w.set (a0 + 1) (za (zsi tk len x1))) ov w' c s
    refine rl_gf rfl (zw_o (by omega) L0) rfl rfl ?_
    show Zr sc 136 24 [zp a0, zj x1, zj x2, zj x3] [zp (a0 + 2)] (w.set (a0 + 1) (za (zsi tk len x1))) ov w' c s
    refine Zr_st (q := (25, [zp a0, zj x1, zj x2, zj x3], [zp a0, zp (a0 + 2)])) rfl rfl rfl ?_
    show Zr sc 136 25 [zp a0, zj x1, zj x2, zj x3] [zp a0, zp (a0 + 2)] (w.set (a0 + 1) (za (zsi tk len x1))) ov w' c s
    refine rl_gf rfl (zw_o (by omega) L0) rfl rfl ?_
    show Zr sc 136 28 [zp a0, zj x1, zj x2, zj x3] [zj len, zp (a0 + 2)] (w.set (a0 + 1) (za (zsi tk len x1))) ov w' c s
    refine Zr_st (q := (29, [zp a0, zj x1, zj x2, zj x3], [zj x2, zj len, zp (a0 + 2)])) rfl rfl rfl ?_
    show Zr sc 136 29 [zp a0, zj x1, zj x2, zj x3] [zj x2, zj len, zp (a0 + 2)] (w.set (a0 + 1) (za (zsi tk len x1))) ov w' c s
    obtain ⟨hi_3, h⟩ := h
    refine rl_is rfl (zw_o (by omega) L2) hi_3.1 hi_3.2.1 hi_3.2.2 ?_
    show Zr sc 136 30 [zp a0, zj x1, zj x2, zj x3] [] ((w.set (a0 + 1) (za (zsi tk len x1))).set (a0 + 2) (za (zsi tn len x2))) ov w' c s
    refine Zr_st (q := (31, [zp a0, zj x1, zj x2, zj x3], [zp a0])) rfl rfl rfl ?_
    show Zr sc 136 31 [zp a0, zj x1, zj x2, zj x3] [zp a0] ((w.set (a0 + 1) (za (zsi tk len x1))).set (a0 + 2) (za (zsi tn len x2))) ov w' c s
    refine rl_gf rfl (zw_o (by omega) (zw_o (by omega) L0)) rfl rfl ?_
    show Zr sc 136 34 [zp a0, zj x1, zj x2, zj x3] [zp (a0 + 3)] ((w.set (a0 + 1) (za (zsi tk len x1))).set (a0 + 2) (za (zsi tn len x2))) ov w' c s
    refine Zr_st (q := (35, [zp a0, zj x1, zj x2, zj x3], [zp a0, zp (a0 + 3)])) rfl rfl rfl ?_
    show Zr sc 136 35 [zp a0, zj x1, zj x2, zj x3] [zp a0, zp (a0 + 3)] ((w.set (a0 + 1) (za (zsi tk len x1))).set (a0 + 2) (za (zsi tn len x2))) ov w' c s
    refine rl_gf rfl (zw_o (by omega) (zw_o (by omega) L0)) rfl rfl ?_
    show Zr sc 136 38 [zp a0, zj x1, zj x2, zj x3] [zj len, zp (a0 + 3)] ((w.set (a0 + 1) (za (zsi tk len x1))).set (a0 + 2) (za (zsi tn len x2))) ov w' c s
    refine Zr_st (q := (39, [zp a0, zj x1, zj x2, zj x3], [zj x3, zj len, zp (a0 + 3)])) rfl rfl rfl ?_
    show Zr sc 136 39 [zp a0, zj x1, zj x2, zj x3] [zj x3, zj len, zp (a0 + 3)] ((w.set (a0 + 1) (za (zsi tk len x1))).set (a0 + 2) (za (zsi tn len x2))) ov w' c s
    obtain ⟨hi_4, h⟩ := h
    refine rl_is rfl (zw_o (by omega) (zw_o (by omega) L3)) hi_4.1 hi_4.2.1 hi_4.2.2 ?_
    show Zr sc 136 40 [zp a0, zj x1, zj x2, zj x3] [] (((w.set (a0 + 1) (za (zsi tk len x1))).set (a0 + 2) (za (zsi tn len x2))).set (a0 + 3) (za (zsi tz len x3))) ov w' c s
    refine Zr_st (q := (41, [zp a0, zj x1, zj x2, zj x3], [zp a0])) rfl rfl rfl ?_
    show Zr sc 136 41 [zp a0, zj x1, zj x2, zj x3] [zp a0] (((w.set (a0 + 1) (za (zsi tk len x1))).set (a0 + 2) (za (zsi tn len x2))).set (a0 + 3) (za (zsi tz len x3))) ov w' c s
    refine Zr_st (q := (42, [zp a0, zj x1, zj x2, zj x3], [zp a0, zp a0])) rfl rfl rfl ?_
    show Zr sc 136 42 [zp a0, zj x1, zj x2, zj x3] [zp a0, zp a0] (((w.set (a0 + 1) (za (zsi tk len x1))).set (a0 + 2) (za (zsi tn len x2))).set (a0 + 3) (za (zsi tz len x3))) ov w' c s
    refine rl_gf rfl (zw_o (by omega) (zw_o (by omega) (zw_o (by omega) L0))) rfl rfl ?_
    show Zr sc 136 45 [zp a0, zj x1, zj x2, zj x3] [zj len, zp a0] (((w.set (a0 + 1) (za (zsi tk len x1))).set (a0 + 2) (za (zsi tn len x2))).set (a0 + 3) (za (zsi tz len x3))) ov w' c s
    refine rl_ic rfl ?_
    show Zr sc 136 46 [zp a0, zj x1, zj x2, zj x3] [zj 1, zj len, zp a0] (((w.set (a0 + 1) (za (zsi tk len x1))).set (a0 + 2) (za (zsi tn len x2))).set (a0 + 3) (za (zsi tz len x3))) ov w' c s
    refine rl_add rfl ?_
    show Zr sc 136 47 [zp a0, zj x1, zj x2, zj x3] [zj (len + 1), zp a0] (((w.set (a0 + 1) (za (zsi tk len x1))).set (a0 + 2) (za (zsi tn len x2))).set (a0 + 3) (za (zsi tz len x3))) ov w' c s
    refine rl_pf rfl (zw_o (by omega) (zw_o (by omega) (zw_o (by omega) L0))) rfl rfl rfl ?_
    show Zr sc 136 50 [zp a0, zj x1, zj x2, zj x3] [] ((((w.set (a0 + 1) (za (zsi tk len x1))).set (a0 + 2) (za (zsi tn len x2))).set (a0 + 3) (za (zsi tz len x3))).set a0 (zob 5 [zp (a0 + 1), zp (a0 + 2), zp (a0 + 3), zj (len + 1)])) ov w' c s
    refine Zr_st (q := (51, [zp a0, zj x1, zj x2, zj x3], [zp a0])) rfl rfl rfl ?_
    show Zr sc 136 51 [zp a0, zj x1, zj x2, zj x3] [zp a0] ((((w.set (a0 + 1) (za (zsi tk len x1))).set (a0 + 2) (za (zsi tn len x2))).set (a0 + 3) (za (zsi tz len x3))).set a0 (zob 5 [zp (a0 + 1), zp (a0 + 2), zp (a0 + 3), zj (len + 1)])) ov w' c s
    obtain ⟨h1, h2, h3, h4⟩ := h
    subst h1; subst h2; subst h3; subst h4
    exact Zr_ret (ins := .areturn) rfl rfl

-- HeapwrightLabLaw$Pool.act(I)Z
set_option maxRecDepth 100000 in
theorem V137_0 {sc : List Value} {w w' : List zE} {ov : Option Value} {c s : Nat} {a0 : Nat} {x1 : Int} {dr : Int} {wy : Int} {st : Int} {hd : Int} {nm : Int} {ar : Int} {hn : Int} {pk : Int} {D : Nat} {tl : Int} (L0 : w[a0]? = some (zob 7 [zp (a0 + 1), .ref 0, zj dr, zj wy, zj st, zj hd, zp (a0 + 73), zj nm, zp (a0 + 74), zp (a0 + 75), zp (a0 + 76), zj ar, zj hn, zp (a0 + 77), zj pk, zp D, zj tl])) (h : ((zrg nm) ∧ ((nm ≠ 0 → (∃ r_4 : Int, ∃ w_2 : List zE, Zc sc 115 [zp a0, zj nm] w (some (zj r_4)) w_2 0 0 ∧ Zr sc 137 22 [zp a0, zj x1, zj r_4, zj 0, zmk] [] w_2 ov w' c s)) ∧ (¬ (nm ≠ 0) → Zr sc 137 22 [zp a0, zj x1, zj (-1), zj 0, zmk] [] w ov w' c s)))) : Zr sc 137 0 [zp a0, zj x1, zmk, zmk, zmk] [] w ov w' c s := by
  refine Zr_st (q := (1, [zp a0, zj x1, zmk, zmk, zmk], [zp a0])) rfl rfl rfl ?_
  show Zr sc 137 1 [zp a0, zj x1, zmk, zmk, zmk] [zp a0] w ov w' c s
  refine rl_gf rfl L0 rfl rfl ?_
  show Zr sc 137 4 [zp a0, zj x1, zmk, zmk, zmk] [zj nm] w ov w' c s
  obtain ⟨hr_1, h⟩ := h
  refine Zr_b0 (p := nm ≠ 0) rfl rfl (zcmp_0 (cnd := .ne) hr_1) (fun hp => ?_) (fun hp => ?_)
  · replace h := h.1 hp
    show Zr sc 137 11 [zp a0, zj x1, zmk, zmk, zmk] [] w ov w' c s
    refine Zr_st (q := (12, [zp a0, zj x1, zmk, zmk, zmk], [zp a0])) rfl rfl rfl ?_
    show Zr sc 137 12 [zp a0, zj x1, zmk, zmk, zmk] [zp a0] w ov w' c s
    refine Zr_st (q := (13, [zp a0, zj x1, zmk, zmk, zmk], [zp a0, zp a0])) rfl rfl rfl ?_
    show Zr sc 137 13 [zp a0, zj x1, zmk, zmk, zmk] [zp a0, zp a0] w ov w' c s
    refine rl_gf rfl L0 rfl rfl ?_
    show Zr sc 137 16 [zp a0, zj x1, zmk, zmk, zmk] [zj nm, zp a0] w ov w' c s
    obtain ⟨r_4, w_2, hk_3, h⟩ := h
    refine rn_cal0 (ins := .invokevirtual 68) (rest := []) rfl rfl rfl rfl (zinv_v (fs := _) L0 rfl rfl rfl rfl) rfl rfl hk_3 ?_
    show Zr sc 137 19 [zp a0, zj x1, zmk, zmk, zmk] [zj r_4] w_2 ov w' c s
    refine Zr_st (q := (20, [zp a0, zj x1, zj r_4, zmk, zmk], [])) rfl rfl rfl ?_
    show Zr sc 137 20 [zp a0, zj x1, zj r_4, zmk, zmk] [] w_2 ov w' c s
    refine rl_ic rfl ?_
    show Zr sc 137 21 [zp a0, zj x1, zj r_4, zmk, zmk] [zj 0] w_2 ov w' c s
    refine Zr_st (q := (22, [zp a0, zj x1, zj r_4, zj 0, zmk], [])) rfl rfl rfl ?_
    show Zr sc 137 22 [zp a0, zj x1, zj r_4, zj 0, zmk] [] w_2 ov w' c s
    exact h
  · replace h := h.2 hp
    show Zr sc 137 7 [zp a0, zj x1, zmk, zmk, zmk] [] w ov w' c s
    refine rl_ic rfl ?_
    show Zr sc 137 8 [zp a0, zj x1, zmk, zmk, zmk] [zj (-1)] w ov w' c s
    refine Zr_st (q := (19, [zp a0, zj x1, zmk, zmk, zmk], [zj (-1)])) rfl rfl rfl ?_
    show Zr sc 137 19 [zp a0, zj x1, zmk, zmk, zmk] [zj (-1)] w ov w' c s
    refine Zr_st (q := (20, [zp a0, zj x1, zj (-1), zmk, zmk], [])) rfl rfl rfl ?_
    show Zr sc 137 20 [zp a0, zj x1, zj (-1), zmk, zmk] [] w ov w' c s
    refine rl_ic rfl ?_
    show Zr sc 137 21 [zp a0, zj x1, zj (-1), zmk, zmk] [zj 0] w ov w' c s
    refine Zr_st (q := (22, [zp a0, zj x1, zj (-1), zj 0, zmk], [])) rfl rfl rfl ?_
    show Zr sc 137 22 [zp a0, zj x1, zj (-1), zj 0, zmk] [] w ov w' c s
    exact h
set_option maxRecDepth 100000 in
theorem V137_22 {sc : List Value} {w w' : List zE} {ov : Option Value} {c s : Nat} {a0 : Nat} {x1 : Int} {x2 : Int} {x3 : Int} {dr : Int} {wy : Int} {st : Int} {hd : Int} {nm : Int} {ar : Int} {hn : Int} {pk : Int} {D : Nat} {tl : Int} (L0 : w[a0]? = some (zob 7 [zp (a0 + 1), .ref 0, zj dr, zj wy, zj st, zj hd, zp (a0 + 73), zj nm, zp (a0 + 74), zp (a0 + 75), zp (a0 + 76), zj ar, zj hn, zp (a0 + 77), zj pk, zp D, zj tl])) (h : ((zrg x3 ∧ zrg nm) ∧ ((nm ≤ x3 → Zr sc 137 53 [zp a0, zj x1, zj x2, zj x3, zmk] [] w ov w' c s) ∧ (¬ (nm ≤ x3) → (∃ r_4 : Int, Zc sc 138 [zp a0, zj x2] w (some (zj r_4)) w 0 0 ∧ ((zrg r_4) ∧ ((0 ≤ r_4 → Zr sc 137 53 [zp a0, zj x1, zj x2, zj x3, zmk] [] w ov w' c s) ∧ (¬ (0 ≤ r_4) → (((0 : Int) ≤ (x2 + 1) ∧ (x2 + 1) ≤ (2147483647 : Int) ∧ (0 : Int) < nm ∧ nm ≤ (2147483647 : Int)) ∧ Zr sc 137 22 [zp a0, zj x1, zj ((x2 + 1) % nm), zj (x3 + 1), zmk] [] w ov w' c s))))))))) : Zr sc 137 22 [zp a0, zj x1, zj x2, zj x3, zmk] [] w ov w' c s := by
  refine Zr_st (q := (23, [zp a0, zj x1, zj x2, zj x3, zmk], [zj x3])) rfl rfl rfl ?_
  show Zr sc 137 23 [zp a0, zj x1, zj x2, zj x3, zmk] [zj x3] w ov w' c s
  refine Zr_st (q := (24, [zp a0, zj x1, zj x2, zj x3, zmk], [zp a0, zj x3])) rfl rfl rfl ?_
  show Zr sc 137 24 [zp a0, zj x1, zj x2, zj x3, zmk] [zp a0, zj x3] w ov w' c s
  refine rl_gf rfl L0 rfl rfl ?_
  show Zr sc 137 27 [zp a0, zj x1, zj x2, zj x3, zmk] [zj nm, zj x3] w ov w' c s
  obtain ⟨hr_1, h⟩ := h
  refine Zr_br (p := nm ≤ x3) rfl rfl (zcmp_j (cnd := .ge) hr_1.1 hr_1.2) (fun hp => ?_) (fun hp => ?_)
  · replace h := h.1 hp
    show Zr sc 137 53 [zp a0, zj x1, zj x2, zj x3, zmk] [] w ov w' c s
    exact h
  · replace h := h.2 hp
    show Zr sc 137 30 [zp a0, zj x1, zj x2, zj x3, zmk] [] w ov w' c s
    refine Zr_st (q := (31, [zp a0, zj x1, zj x2, zj x3, zmk], [zp a0])) rfl rfl rfl ?_
    show Zr sc 137 31 [zp a0, zj x1, zj x2, zj x3, zmk] [zp a0] w ov w' c s
    refine Zr_st (q := (32, [zp a0, zj x1, zj x2, zj x3, zmk], [zj x2, zp a0])) rfl rfl rfl ?_
    show Zr sc 137 32 [zp a0, zj x1, zj x2, zj x3, zmk] [zj x2, zp a0] w ov w' c s
    obtain ⟨r_4, hk_9, h⟩ := h
    refine rn_cal0 (ins := .invokevirtual 149) (rest := []) rfl rfl rfl rfl (zinv_v (fs := _) L0 rfl rfl rfl rfl) rfl rfl hk_9 ?_
    show Zr sc 137 35 [zp a0, zj x1, zj x2, zj x3, zmk] [zj r_4] w ov w' c s
    obtain ⟨hr_5, h⟩ := h
    refine Zr_b0 (p := 0 ≤ r_4) rfl rfl (zcmp_0 (cnd := .ge) hr_5) (fun hp => ?_) (fun hp => ?_)
    · replace h := h.1 hp
      show Zr sc 137 53 [zp a0, zj x1, zj x2, zj x3, zmk] [] w ov w' c s
      exact h
    · replace h := h.2 hp
      show Zr sc 137 38 [zp a0, zj x1, zj x2, zj x3, zmk] [] w ov w' c s
      refine Zr_st (q := (39, [zp a0, zj x1, zj x2, zj x3, zmk], [zj x2])) rfl rfl rfl ?_
      show Zr sc 137 39 [zp a0, zj x1, zj x2, zj x3, zmk] [zj x2] w ov w' c s
      refine rl_ic rfl ?_
      show Zr sc 137 40 [zp a0, zj x1, zj x2, zj x3, zmk] [zj 1, zj x2] w ov w' c s
      refine rl_add rfl ?_
      show Zr sc 137 41 [zp a0, zj x1, zj x2, zj x3, zmk] [zj (x2 + 1)] w ov w' c s
      refine Zr_st (q := (42, [zp a0, zj x1, zj x2, zj x3, zmk], [zp a0, zj (x2 + 1)])) rfl rfl rfl ?_
      show Zr sc 137 42 [zp a0, zj x1, zj x2, zj x3, zmk] [zp a0, zj (x2 + 1)] w ov w' c s
      refine rl_gf rfl L0 rfl rfl ?_
      show Zr sc 137 45 [zp a0, zj x1, zj x2, zj x3, zmk] [zj nm, zj (x2 + 1)] w ov w' c s
      obtain ⟨hd_6, h⟩ := h
      refine rl_rem rfl hd_6.1 hd_6.2.1 hd_6.2.2.1 hd_6.2.2.2 ?_
      show Zr sc 137 46 [zp a0, zj x1, zj x2, zj x3, zmk] [zj ((x2 + 1) % nm)] w ov w' c s
      refine Zr_st (q := (47, [zp a0, zj x1, zj ((x2 + 1) % nm), zj x3, zmk], [])) rfl rfl rfl ?_
      show Zr sc 137 47 [zp a0, zj x1, zj ((x2 + 1) % nm), zj x3, zmk] [] w ov w' c s
      refine rl_inc rfl rfl rfl rfl ?_
      show Zr sc 137 50 [zp a0, zj x1, zj ((x2 + 1) % nm), zj (x3 + 1), zmk] [] w ov w' c s
      refine Zr_st (q := (22, [zp a0, zj x1, zj ((x2 + 1) % nm), zj (x3 + 1), zmk], [])) rfl rfl rfl ?_
      show Zr sc 137 22 [zp a0, zj x1, zj ((x2 + 1) % nm), zj (x3 + 1), zmk] [] w ov w' c s
      exact h
set_option maxRecDepth 100000 in
theorem V137_53 {sc : List Value} {w w' : List zE} {ov : Option Value} {c s : Nat} {a0 : Nat} {x1 : Int} {x2 : Int} {x3 : Int} {dr : Int} {wy : Int} {st : Int} {hd : Int} {nm : Int} {ar : Int} {hn : Int} {pk : Int} {D : Nat} {tl : Int} (L0 : w[a0]? = some (zob 7 [zp (a0 + 1), .ref 0, zj dr, zj wy, zj st, zj hd, zp (a0 + 73), zj nm, zp (a0 + 74), zp (a0 + 75), zp (a0 + 76), zj ar, zj hn, zp (a0 + 77), zj pk, zp D, zj tl])) (h : ((zrg x2) ∧ ((x2 < 0 → Zr sc 137 69 [zp a0, zj x1, zj x2, zj x3, zmk] [] w ov w' c s) ∧ (¬ (x2 < 0) → (∃ r_4 : Int, Zc sc 138 [zp a0, zj x2] w (some (zj r_4)) w 0 0 ∧ ((zrg r_4) ∧ ((r_4 < 0 → Zr sc 137 69 [zp a0, zj x1, zj x2, zj x3, zmk] [] w ov w' c s) ∧ (¬ (r_4 < 0) → (∃ r_8 : Int, ∃ w_6 : List zE, Zc sc 115 [zp a0, zj 12] w (some (zj r_8)) w_6 0 0 ∧ ((zrg r_8 ∧ zrg 6) ∧ ((r_8 < 6 → Zr sc 137 90 [zp a0, zj x1, zj x2, zj 1, zj r_8] [] w_6 ov w' c s) ∧ (¬ (r_8 < 6) → ((zrg 1) ∧ ((zrg r_8 ∧ zrg 8) ∧ ((8 ≤ r_8 → ((zrg r_8 ∧ zrg 10) ∧ ((10 ≤ r_8 → ((zrg r_8 ∧ zrg 10) ∧ ((r_8 ≠ 10 → (∃ dr_15 : Int, ∃ wy_16 : Int, ∃ st_17 : Int, ∃ hd_18 : Int, ∃ nm_19 : Int, ∃ ar_20 : Int, ∃ hn_21 : Int, ∃ pk_22 : Int, ∃ D_23 : Nat, ∃ tl_24 : Int, w_6[a0]? = some (zob 7 [zp (a0 + 1), .ref 0, zj dr_15, zj wy_16, zj st_17, zj hd_18, zp (a0 + 73), zj nm_19, zp (a0 + 74), zp (a0 + 75), zp (a0 + 76), zj ar_20, zj hn_21, zp (a0 + 77), zj pk_22, zp D_23, zj tl_24]) ∧ ((zrg ar_20) ∧ ((ar_20 ≤ 0 → ((zrg wy_16 ∧ zrg 3) ∧ ((3 < wy_16 → Zr sc 137 220 [zp a0, zj x1, zj x2, zj 1, zj r_8] [] w_6 ov w' c s) ∧ (¬ (3 < wy_16) → (∃ r_29 : Int, ∃ w_27 : List zE, ∃ c_30 s_31 c_32 s_33 : Nat, Zc sc 149 [zp a0] w_6 (some (zj r_29)) w_27 c_30 s_31 ∧ (c = c_30 + c_32 ∧ s = s_31 + s_33) ∧ ((zrg r_29) ∧ ((r_29 = 0 → (ov = some (zj 0) ∧ w' = w_27 ∧ c_32 = 0 ∧ s_33 = 0)) ∧ (¬ (r_29 = 0) → Zr sc 137 220 [zp a0, zj x1, zj x2, zj 1, zj r_8] [] w_27 ov w' c_32 s_33)))))))) ∧ (¬ (ar_20 ≤ 0) → (∃ r_38 : Int, ∃ w_36 : List zE, ∃ c_39 s_40 c_41 s_42 : Nat, Zc sc 147 [zp a0] w_6 (some (zj r_38)) w_36 c_39 s_40 ∧ (c = c_39 + c_41 ∧ s = s_40 + s_42) ∧ ((r_38 = 0 ∨ r_38 = 1) ∧ (ov = some (zj r_38) ∧ w' = w_36 ∧ c_41 = 0 ∧ s_42 = 0)))))))) ∧ (¬ (r_8 ≠ 10) → (∃ dr_46 : Int, ∃ wy_47 : Int, ∃ st_48 : Int, ∃ hd_49 : Int, ∃ nm_50 : Int, ∃ ar_51 : Int, ∃ hn_52 : Int, ∃ pk_53 : Int, ∃ D_54 : Nat, ∃ tl_55 : Int, w_6[a0]? = some (zob 7 [zp (a0 + 1), .ref 0, zj dr_46, zj wy_47, zj st_48, zj hd_49, zp (a0 + 73), zj nm_50, zp (a0 + 74), zp (a0 + 75), zp (a0 + 76), zj ar_51, zj hn_52, zp (a0 + 77), zj pk_53, zp D_54, zj tl_55]) ∧ ((zrg ar_51 ∧ zrg 3) ∧ ((3 ≤ ar_51 → (∃ r_59 : Int, ∃ w_57 : List zE, ∃ c_60 s_61 c_62 s_63 : Nat, Zc sc 147 [zp a0] w_6 (some (zj r_59)) w_57 c_60 s_61 ∧ (c = c_60 + c_62 ∧ s = s_61 + s_63) ∧ ((r_59 = 0 ∨ r_59 = 1) ∧ (ov = some (zj r_59) ∧ w' = w_57 ∧ c_62 = 0 ∧ s_63 = 0)))) ∧ (¬ (3 ≤ ar_51) → (∃ r_68 : Int, ∃ w_66 : List zE, ∃ c_69 s_70 c_71 s_72 : Nat, Zc sc 145 [zp a0] w_6 (some (zj r_68)) w_66 c_69 s_70 ∧ (c = c_69 + c_71 ∧ s = s_70 + s_72) ∧ ((r_68 = 0 ∨ r_68 = 1) ∧ (ov = some (zj r_68) ∧ w' = w_66 ∧ c_71 = 0 ∧ s_72 = 0))))))))))) ∧ (¬ (10 ≤ r_8) → (∃ fs_76 : List Value, w_6[a0]? = some (zob 7 fs_76) ∧ (∃ r_79 : Int, ∃ w_77 : List zE, Zc sc 115 [zp a0, zj x1] w_6 (some (zj r_79)) w_77 0 0 ∧ (∃ fs_81 : List Value, w_77[a0]? = some (zob 7 fs_81) ∧ (∃ r_84 : Int, ∃ w_82 : List zE, ∃ c_85 s_86 c_87 s_88 : Nat, Zc sc 143 [zp a0, zj x2, zj (1 + r_79)] w_77 (some (zj r_84)) w_82 c_85 s_86 ∧ (c = c_85 + c_87 ∧ s = s_86 + s_88) ∧ ((r_84 = 0 ∨ r_84 = 1) ∧ (ov = some (zj r_84) ∧ w' = w_82 ∧ c_87 = 0 ∧ s_88 = 0)))))))))) ∧ (¬ (8 ≤ r_8) → (∃ fs_92 : List Value, w_6[a0]? = some (zob 7 fs_92) ∧ (∃ r_95 : Int, ∃ w_93 : List zE, ∃ c_96 s_97 c_98 s_99 : Nat, Zc sc 139 [zp a0, zj x2] w_6 (some (zj r_95)) w_93 c_96 s_97 ∧ (c = c_96 + c_98 ∧ s = s_97 + s_99) ∧ ((r_95 = 0 ∨ r_95 = 1) ∧ (ov = some (zj r_95) ∧ w' = w_93 ∧ c_98 = 0 ∧ s_99 = 0)))))))))))))))))))) : Zr sc 137 53 [zp a0, zj x1, zj x2, zj x3, zmk] [] w ov w' c s := by
  refine Zr_st (q := (54, [zp a0, zj x1, zj x2, zj x3, zmk], [zj x2])) rfl rfl rfl ?_
  show Zr sc 137 54 [zp a0, zj x1, zj x2, zj x3, zmk] [zj x2] w ov w' c s
  obtain ⟨hr_1, h⟩ := h
  refine Zr_b0 (p := x2 < 0) rfl rfl (zcmp_0 (cnd := .lt) hr_1) (fun hp => ?_) (fun hp => ?_)
  · replace h := h.1 hp
    show Zr sc 137 69 [zp a0, zj x1, zj x2, zj x3, zmk] [] w ov w' c s
    exact h
  · replace h := h.2 hp
    show Zr sc 137 57 [zp a0, zj x1, zj x2, zj x3, zmk] [] w ov w' c s
    refine Zr_st (q := (58, [zp a0, zj x1, zj x2, zj x3, zmk], [zp a0])) rfl rfl rfl ?_
    show Zr sc 137 58 [zp a0, zj x1, zj x2, zj x3, zmk] [zp a0] w ov w' c s
    refine Zr_st (q := (59, [zp a0, zj x1, zj x2, zj x3, zmk], [zj x2, zp a0])) rfl rfl rfl ?_
    show Zr sc 137 59 [zp a0, zj x1, zj x2, zj x3, zmk] [zj x2, zp a0] w ov w' c s
    obtain ⟨r_4, hk_9, h⟩ := h
    refine rn_cal0 (ins := .invokevirtual 149) (rest := []) rfl rfl rfl rfl (zinv_v (fs := _) L0 rfl rfl rfl rfl) rfl rfl hk_9 ?_
    show Zr sc 137 62 [zp a0, zj x1, zj x2, zj x3, zmk] [zj r_4] w ov w' c s
    obtain ⟨hr_5, h⟩ := h
    refine Zr_b0 (p := r_4 < 0) rfl rfl (zcmp_0 (cnd := .lt) hr_5) (fun hp => ?_) (fun hp => ?_)
    · replace h := h.1 hp
      show Zr sc 137 69 [zp a0, zj x1, zj x2, zj x3, zmk] [] w ov w' c s
      exact h
    · replace h := h.2 hp
      show Zr sc 137 65 [zp a0, zj x1, zj x2, zj x3, zmk] [] w ov w' c s
      refine rl_ic rfl ?_
      show Zr sc 137 66 [zp a0, zj x1, zj x2, zj x3, zmk] [zj 1] w ov w' c s
      refine Zr_st (q := (70, [zp a0, zj x1, zj x2, zj x3, zmk], [zj 1])) rfl rfl rfl ?_
      show Zr sc 137 70 [zp a0, zj x1, zj x2, zj x3, zmk] [zj 1] w ov w' c s
      refine Zr_st (q := (71, [zp a0, zj x1, zj x2, zj 1, zmk], [])) rfl rfl rfl ?_
      show Zr sc 137 71 [zp a0, zj x1, zj x2, zj 1, zmk] [] w ov w' c s
      refine Zr_st (q := (72, [zp a0, zj x1, zj x2, zj 1, zmk], [zp a0])) rfl rfl rfl ?_
      show Zr sc 137 72 [zp a0, zj x1, zj x2, zj 1, zmk] [zp a0] w ov w' c s
      refine rl_bi rfl (by decide) ?_
      show Zr sc 137 74 [zp a0, zj x1, zj x2, zj 1, zmk] [zj 12, zp a0] w ov w' c s
      obtain ⟨r_8, w_6, hk_7, h⟩ := h
      refine rn_cal0 (ins := .invokevirtual 68) (rest := []) rfl rfl rfl rfl (zinv_v (fs := _) L0 rfl rfl rfl rfl) rfl rfl hk_7 ?_
      show Zr sc 137 77 [zp a0, zj x1, zj x2, zj 1, zmk] [zj r_8] w_6 ov w' c s
      refine Zr_st (q := (79, [zp a0, zj x1, zj x2, zj 1, zj r_8], [])) rfl rfl rfl ?_
      show Zr sc 137 79 [zp a0, zj x1, zj x2, zj 1, zj r_8] [] w_6 ov w' c s
      refine Zr_st (q := (81, [zp a0, zj x1, zj x2, zj 1, zj r_8], [zj r_8])) rfl rfl rfl ?_
      show Zr sc 137 81 [zp a0, zj x1, zj x2, zj 1, zj r_8] [zj r_8] w_6 ov w' c s
      refine rl_bi rfl (by decide) ?_
      show Zr sc 137 83 [zp a0, zj x1, zj x2, zj 1, zj r_8] [zj 6, zj r_8] w_6 ov w' c s
      obtain ⟨hr_9, h⟩ := h
      refine Zr_br (p := r_8 < 6) rfl rfl (zcmp_j (cnd := .lt) hr_9.1 hr_9.2) (fun hp => ?_) (fun hp => ?_)
      · replace h := h.1 hp
        show Zr sc 137 90 [zp a0, zj x1, zj x2, zj 1, zj r_8] [] w_6 ov w' c s
        exact h
      · replace h := h.2 hp
        show Zr sc 137 86 [zp a0, zj x1, zj x2, zj 1, zj r_8] [] w_6 ov w' c s
        refine Zr_st (q := (87, [zp a0, zj x1, zj x2, zj 1, zj r_8], [zj 1])) rfl rfl rfl ?_
        show Zr sc 137 87 [zp a0, zj x1, zj x2, zj 1, zj r_8] [zj 1] w_6 ov w' c s
        obtain ⟨hr_10, h⟩ := h
        refine Zr_b0 (p := 1 ≠ 0) rfl rfl (zcmp_0 (cnd := .ne) hr_10) (fun hp => ?_) (fun hp => absurd (by decide) hp)
        show Zr sc 137 131 [zp a0, zj x1, zj x2, zj 1, zj r_8] [] w_6 ov w' c s
        refine Zr_st (q := (133, [zp a0, zj x1, zj x2, zj 1, zj r_8], [zj r_8])) rfl rfl rfl ?_
        show Zr sc 137 133 [zp a0, zj x1, zj x2, zj 1, zj r_8] [zj r_8] w_6 ov w' c s
        refine rl_bi rfl (by decide) ?_
        show Zr sc 137 135 [zp a0, zj x1, zj x2, zj 1, zj r_8] [zj 8, zj r_8] w_6 ov w' c s
        obtain ⟨hr_11, h⟩ := h
        refine Zr_br (p := 8 ≤ r_8) rfl rfl (zcmp_j (cnd := .ge) hr_11.1 hr_11.2) (fun hp => ?_) (fun hp => ?_)
        · replace h := h.1 hp
          show Zr sc 137 144 [zp a0, zj x1, zj x2, zj 1, zj r_8] [] w_6 ov w' c s
          refine Zr_st (q := (146, [zp a0, zj x1, zj x2, zj 1, zj r_8], [zj r_8])) rfl rfl rfl ?_
          show Zr sc 137 146 [zp a0, zj x1, zj x2, zj 1, zj r_8] [zj r_8] w_6 ov w' c s
          refine rl_bi rfl (by decide) ?_
          show Zr sc 137 148 [zp a0, zj x1, zj x2, zj 1, zj r_8] [zj 10, zj r_8] w_6 ov w' c s
          obtain ⟨hr_12, h⟩ := h
          refine Zr_br (p := 10 ≤ r_8) rfl rfl (zcmp_j (cnd := .ge) hr_12.1 hr_12.2) (fun hp => ?_) (fun hp => ?_)
          · replace h := h.1 hp
            show Zr sc 137 164 [zp a0, zj x1, zj x2, zj 1, zj r_8] [] w_6 ov w' c s
            refine Zr_st (q := (166, [zp a0, zj x1, zj x2, zj 1, zj r_8], [zj r_8])) rfl rfl rfl ?_
            show Zr sc 137 166 [zp a0, zj x1, zj x2, zj 1, zj r_8] [zj r_8] w_6 ov w' c s
            refine rl_bi rfl (by decide) ?_
            show Zr sc 137 168 [zp a0, zj x1, zj x2, zj 1, zj r_8] [zj 10, zj r_8] w_6 ov w' c s
            obtain ⟨hr_13, h⟩ := h
            refine Zr_br (p := r_8 ≠ 10) rfl rfl (zcmp_j (cnd := .ne) hr_13.1 hr_13.2) (fun hp => ?_) (fun hp => ?_)
            · replace h := h.1 hp
              show Zr sc 137 191 [zp a0, zj x1, zj x2, zj 1, zj r_8] [] w_6 ov w' c s
              refine Zr_st (q := (192, [zp a0, zj x1, zj x2, zj 1, zj r_8], [zp a0])) rfl rfl rfl ?_
              show Zr sc 137 192 [zp a0, zj x1, zj x2, zj 1, zj r_8] [zp a0] w_6 ov w' c s
              obtain ⟨dr_15, wy_16, st_17, hd_18, nm_19, ar_20, hn_21, pk_22, D_23, tl_24, hw_14, h⟩ := h
              refine rl_gf rfl hw_14 rfl rfl ?_
              show Zr sc 137 195 [zp a0, zj x1, zj x2, zj 1, zj r_8] [zj ar_20] w_6 ov w' c s
              obtain ⟨hr_25, h⟩ := h
              refine Zr_b0 (p := ar_20 ≤ 0) rfl rfl (zcmp_0 (cnd := .le) hr_25) (fun hp => ?_) (fun hp => ?_)
              · replace h := h.1 hp
                show Zr sc 137 205 [zp a0, zj x1, zj x2, zj 1, zj r_8] [] w_6 ov w' c s
                refine Zr_st (q := (206, [zp a0, zj x1, zj x2, zj 1, zj r_8], [zp a0])) rfl rfl rfl ?_
                show Zr sc 137 206 [zp a0, zj x1, zj x2, zj 1, zj r_8] [zp a0] w_6 ov w' c s
                refine rl_gf rfl hw_14 rfl rfl ?_
                show Zr sc 137 209 [zp a0, zj x1, zj x2, zj 1, zj r_8] [zj wy_16] w_6 ov w' c s
                refine rl_ic rfl ?_
                show Zr sc 137 210 [zp a0, zj x1, zj x2, zj 1, zj r_8] [zj 3, zj wy_16] w_6 ov w' c s
                obtain ⟨hr_26, h⟩ := h
                refine Zr_br (p := 3 < wy_16) rfl rfl (zcmp_j (cnd := .gt) hr_26.1 hr_26.2) (fun hp => ?_) (fun hp => ?_)
                · replace h := h.1 hp
                  show Zr sc 137 220 [zp a0, zj x1, zj x2, zj 1, zj r_8] [] w_6 ov w' c s
                  exact h
                · replace h := h.2 hp
                  show Zr sc 137 213 [zp a0, zj x1, zj x2, zj 1, zj r_8] [] w_6 ov w' c s
                  refine Zr_st (q := (214, [zp a0, zj x1, zj x2, zj 1, zj r_8], [zp a0])) rfl rfl rfl ?_
                  show Zr sc 137 214 [zp a0, zj x1, zj x2, zj 1, zj r_8] [zp a0] w_6 ov w' c s
                  obtain ⟨r_29, w_27, c_30, s_31, c_32, s_33, hk_28, hc_34, h⟩ := h
                  refine rl_cal (ins := .invokevirtual 184) (rest := []) rfl rfl rfl rfl (zinv_v (fs := _) hw_14 rfl rfl rfl rfl) rfl rfl hk_28 ?_ hc_34.1 hc_34.2
                  show Zr sc 137 217 [zp a0, zj x1, zj x2, zj 1, zj r_8] [zj r_29] w_27 ov w' c_32 s_33
                  obtain ⟨hr_35, h⟩ := h
                  refine Zr_b0 (p := r_29 = 0) rfl rfl (zcmp_0 (cnd := .eq) hr_35) (fun hp => ?_) (fun hp => ?_)
                  · replace h := h.1 hp
                    show Zr sc 137 224 [zp a0, zj x1, zj x2, zj 1, zj r_8] [] w_27 ov w' c_32 s_33
                    refine rl_ic rfl ?_
                    show Zr sc 137 225 [zp a0, zj x1, zj x2, zj 1, zj r_8] [zj 0] w_27 ov w' c_32 s_33
                    obtain ⟨h1, h2, h3, h4⟩ := h
                    subst h1; subst h2; subst h3; subst h4
                    exact Zr_ret (ins := .ireturn) rfl rfl
                  · replace h := h.2 hp
                    show Zr sc 137 220 [zp a0, zj x1, zj x2, zj 1, zj r_8] [] w_27 ov w' c_32 s_33
                    exact h
              · replace h := h.2 hp
                show Zr sc 137 198 [zp a0, zj x1, zj x2, zj 1, zj r_8] [] w_6 ov w' c s
                refine Zr_st (q := (199, [zp a0, zj x1, zj x2, zj 1, zj r_8], [zp a0])) rfl rfl rfl ?_
                show Zr sc 137 199 [zp a0, zj x1, zj x2, zj 1, zj r_8] [zp a0] w_6 ov w' c s
                obtain ⟨r_38, w_36, c_39, s_40, c_41, s_42, hk_37, hc_43, h⟩ := h
                refine rl_cal (ins := .invokevirtual 182) (rest := []) rfl rfl rfl rfl (zinv_v (fs := _) hw_14 rfl rfl rfl rfl) rfl rfl hk_37 ?_ hc_43.1 hc_43.2
                show Zr sc 137 202 [zp a0, zj x1, zj x2, zj 1, zj r_8] [zj r_38] w_36 ov w' c_41 s_42
                refine Zr_st (q := (225, [zp a0, zj x1, zj x2, zj 1, zj r_8], [zj r_38])) rfl rfl rfl ?_
                show Zr sc 137 225 [zp a0, zj x1, zj x2, zj 1, zj r_8] [zj r_38] w_36 ov w' c_41 s_42
                obtain ⟨hb_44, h⟩ := h
                obtain ⟨h1, h2, h3, h4⟩ := h
                subst h1; subst h2; subst h3; subst h4
                exact Zr_retb rfl rfl hb_44
            · replace h := h.2 hp
              show Zr sc 137 171 [zp a0, zj x1, zj x2, zj 1, zj r_8] [] w_6 ov w' c s
              refine Zr_st (q := (172, [zp a0, zj x1, zj x2, zj 1, zj r_8], [zp a0])) rfl rfl rfl ?_
              show Zr sc 137 172 [zp a0, zj x1, zj x2, zj 1, zj r_8] [zp a0] w_6 ov w' c s
              obtain ⟨dr_46, wy_47, st_48, hd_49, nm_50, ar_51, hn_52, pk_53, D_54, tl_55, hw_45, h⟩ := h
              refine rl_gf rfl hw_45 rfl rfl ?_
              show Zr sc 137 175 [zp a0, zj x1, zj x2, zj 1, zj r_8] [zj ar_51] w_6 ov w' c s
              refine rl_ic rfl ?_
              show Zr sc 137 176 [zp a0, zj x1, zj x2, zj 1, zj r_8] [zj 3, zj ar_51] w_6 ov w' c s
              obtain ⟨hr_56, h⟩ := h
              refine Zr_br (p := 3 ≤ ar_51) rfl rfl (zcmp_j (cnd := .ge) hr_56.1 hr_56.2) (fun hp => ?_) (fun hp => ?_)
              · replace h := h.1 hp
                show Zr sc 137 186 [zp a0, zj x1, zj x2, zj 1, zj r_8] [] w_6 ov w' c s
                refine Zr_st (q := (187, [zp a0, zj x1, zj x2, zj 1, zj r_8], [zp a0])) rfl rfl rfl ?_
                show Zr sc 137 187 [zp a0, zj x1, zj x2, zj 1, zj r_8] [zp a0] w_6 ov w' c s
                obtain ⟨r_59, w_57, c_60, s_61, c_62, s_63, hk_58, hc_64, h⟩ := h
                refine rl_cal (ins := .invokevirtual 182) (rest := []) rfl rfl rfl rfl (zinv_v (fs := _) hw_45 rfl rfl rfl rfl) rfl rfl hk_58 ?_ hc_64.1 hc_64.2
                show Zr sc 137 190 [zp a0, zj x1, zj x2, zj 1, zj r_8] [zj r_59] w_57 ov w' c_62 s_63
                obtain ⟨hb_65, h⟩ := h
                obtain ⟨h1, h2, h3, h4⟩ := h
                subst h1; subst h2; subst h3; subst h4
                exact Zr_retb rfl rfl hb_65
              · replace h := h.2 hp
                show Zr sc 137 179 [zp a0, zj x1, zj x2, zj 1, zj r_8] [] w_6 ov w' c s
                refine Zr_st (q := (180, [zp a0, zj x1, zj x2, zj 1, zj r_8], [zp a0])) rfl rfl rfl ?_
                show Zr sc 137 180 [zp a0, zj x1, zj x2, zj 1, zj r_8] [zp a0] w_6 ov w' c s
                obtain ⟨r_68, w_66, c_69, s_70, c_71, s_72, hk_67, hc_73, h⟩ := h
                refine rl_cal (ins := .invokevirtual 179) (rest := []) rfl rfl rfl rfl (zinv_v (fs := _) hw_45 rfl rfl rfl rfl) rfl rfl hk_67 ?_ hc_73.1 hc_73.2
                show Zr sc 137 183 [zp a0, zj x1, zj x2, zj 1, zj r_8] [zj r_68] w_66 ov w' c_71 s_72
                refine Zr_st (q := (190, [zp a0, zj x1, zj x2, zj 1, zj r_8], [zj r_68])) rfl rfl rfl ?_
                show Zr sc 137 190 [zp a0, zj x1, zj x2, zj 1, zj r_8] [zj r_68] w_66 ov w' c_71 s_72
                obtain ⟨hb_74, h⟩ := h
                obtain ⟨h1, h2, h3, h4⟩ := h
                subst h1; subst h2; subst h3; subst h4
                exact Zr_retb rfl rfl hb_74
          · replace h := h.2 hp
            show Zr sc 137 151 [zp a0, zj x1, zj x2, zj 1, zj r_8] [] w_6 ov w' c s
            refine Zr_st (q := (152, [zp a0, zj x1, zj x2, zj 1, zj r_8], [zp a0])) rfl rfl rfl ?_
            show Zr sc 137 152 [zp a0, zj x1, zj x2, zj 1, zj r_8] [zp a0] w_6 ov w' c s
            refine Zr_st (q := (153, [zp a0, zj x1, zj x2, zj 1, zj r_8], [zj x2, zp a0])) rfl rfl rfl ?_
            show Zr sc 137 153 [zp a0, zj x1, zj x2, zj 1, zj r_8] [zj x2, zp a0] w_6 ov w' c s
            refine rl_ic rfl ?_
            show Zr sc 137 154 [zp a0, zj x1, zj x2, zj 1, zj r_8] [zj 1, zj x2, zp a0] w_6 ov w' c s
            refine Zr_st (q := (155, [zp a0, zj x1, zj x2, zj 1, zj r_8], [zp a0, zj 1, zj x2, zp a0])) rfl rfl rfl ?_
            show Zr sc 137 155 [zp a0, zj x1, zj x2, zj 1, zj r_8] [zp a0, zj 1, zj x2, zp a0] w_6 ov w' c s
            refine Zr_st (q := (156, [zp a0, zj x1, zj x2, zj 1, zj r_8], [zj x1, zp a0, zj 1, zj x2, zp a0])) rfl rfl rfl ?_
            show Zr sc 137 156 [zp a0, zj x1, zj x2, zj 1, zj r_8] [zj x1, zp a0, zj 1, zj x2, zp a0] w_6 ov w' c s
            obtain ⟨fs_76, hl_75, h⟩ := h
            obtain ⟨r_79, w_77, hk_78, h⟩ := h
            refine rn_cal0 (ins := .invokevirtual 68) (rest := [zj 1, zj x2, zp a0]) rfl rfl rfl rfl (zinv_v (fs := _) hl_75 rfl rfl rfl rfl) rfl rfl hk_78 ?_
            show Zr sc 137 159 [zp a0, zj x1, zj x2, zj 1, zj r_8] [zj r_79, zj 1, zj x2, zp a0] w_77 ov w' c s
            refine rl_add rfl ?_
            show Zr sc 137 160 [zp a0, zj x1, zj x2, zj 1, zj r_8] [zj (1 + r_79), zj x2, zp a0] w_77 ov w' c s
            obtain ⟨fs_81, hl_80, h⟩ := h
            obtain ⟨r_84, w_82, c_85, s_86, c_87, s_88, hk_83, hc_89, h⟩ := h
            refine rl_cal (ins := .invokevirtual 177) (rest := []) rfl rfl rfl rfl (zinv_v (fs := _) hl_80 rfl rfl rfl rfl) rfl rfl hk_83 ?_ hc_89.1 hc_89.2
            show Zr sc 137 163 [zp a0, zj x1, zj x2, zj 1, zj r_8] [zj r_84] w_82 ov w' c_87 s_88
            obtain ⟨hb_90, h⟩ := h
            obtain ⟨h1, h2, h3, h4⟩ := h
            subst h1; subst h2; subst h3; subst h4
            exact Zr_retb rfl rfl hb_90
        · replace h := h.2 hp
          show Zr sc 137 138 [zp a0, zj x1, zj x2, zj 1, zj r_8] [] w_6 ov w' c s
          refine Zr_st (q := (139, [zp a0, zj x1, zj x2, zj 1, zj r_8], [zp a0])) rfl rfl rfl ?_
          show Zr sc 137 139 [zp a0, zj x1, zj x2, zj 1, zj r_8] [zp a0] w_6 ov w' c s
          refine Zr_st (q := (140, [zp a0, zj x1, zj x2, zj 1, zj r_8], [zj x2, zp a0])) rfl rfl rfl ?_
          show Zr sc 137 140 [zp a0, zj x1, zj x2, zj 1, zj r_8] [zj x2, zp a0] w_6 ov w' c s
          obtain ⟨fs_92, hl_91, h⟩ := h
          obtain ⟨r_95, w_93, c_96, s_97, c_98, s_99, hk_94, hc_100, h⟩ := h
          refine rl_cal (ins := .invokevirtual 175) (rest := []) rfl rfl rfl rfl (zinv_v (fs := _) hl_91 rfl rfl rfl rfl) rfl rfl hk_94 ?_ hc_100.1 hc_100.2
          show Zr sc 137 143 [zp a0, zj x1, zj x2, zj 1, zj r_8] [zj r_95] w_93 ov w' c_98 s_99
          obtain ⟨hb_101, h⟩ := h
          obtain ⟨h1, h2, h3, h4⟩ := h
          subst h1; subst h2; subst h3; subst h4
          exact Zr_retb rfl rfl hb_101
set_option maxRecDepth 100000 in
theorem V137_69 {sc : List Value} {w w' : List zE} {ov : Option Value} {c s : Nat} {a0 : Nat} {x1 : Int} {x2 : Int} {x3 : Int} {dr : Int} {wy : Int} {st : Int} {hd : Int} {nm : Int} {ar : Int} {hn : Int} {pk : Int} {D : Nat} {tl : Int} (L0 : w[a0]? = some (zob 7 [zp (a0 + 1), .ref 0, zj dr, zj wy, zj st, zj hd, zp (a0 + 73), zj nm, zp (a0 + 74), zp (a0 + 75), zp (a0 + 76), zj ar, zj hn, zp (a0 + 77), zj pk, zp D, zj tl])) (h : (∃ r_3 : Int, ∃ w_1 : List zE, Zc sc 115 [zp a0, zj 12] w (some (zj r_3)) w_1 0 0 ∧ ((zrg r_3 ∧ zrg 6) ∧ ((r_3 < 6 → Zr sc 137 90 [zp a0, zj x1, zj x2, zj 0, zj r_3] [] w_1 ov w' c s) ∧ (¬ (r_3 < 6) → ((zrg 0) ∧ Zr sc 137 90 [zp a0, zj x1, zj x2, zj 0, zj r_3] [] w_1 ov w' c s)))))) : Zr sc 137 69 [zp a0, zj x1, zj x2, zj x3, zmk] [] w ov w' c s := by
  refine rl_ic rfl ?_
  show Zr sc 137 70 [zp a0, zj x1, zj x2, zj x3, zmk] [zj 0] w ov w' c s
  refine Zr_st (q := (71, [zp a0, zj x1, zj x2, zj 0, zmk], [])) rfl rfl rfl ?_
  show Zr sc 137 71 [zp a0, zj x1, zj x2, zj 0, zmk] [] w ov w' c s
  refine Zr_st (q := (72, [zp a0, zj x1, zj x2, zj 0, zmk], [zp a0])) rfl rfl rfl ?_
  show Zr sc 137 72 [zp a0, zj x1, zj x2, zj 0, zmk] [zp a0] w ov w' c s
  refine rl_bi rfl (by decide) ?_
  show Zr sc 137 74 [zp a0, zj x1, zj x2, zj 0, zmk] [zj 12, zp a0] w ov w' c s
  obtain ⟨r_3, w_1, hk_2, h⟩ := h
  refine rn_cal0 (ins := .invokevirtual 68) (rest := []) rfl rfl rfl rfl (zinv_v (fs := _) L0 rfl rfl rfl rfl) rfl rfl hk_2 ?_
  show Zr sc 137 77 [zp a0, zj x1, zj x2, zj 0, zmk] [zj r_3] w_1 ov w' c s
  refine Zr_st (q := (79, [zp a0, zj x1, zj x2, zj 0, zj r_3], [])) rfl rfl rfl ?_
  show Zr sc 137 79 [zp a0, zj x1, zj x2, zj 0, zj r_3] [] w_1 ov w' c s
  refine Zr_st (q := (81, [zp a0, zj x1, zj x2, zj 0, zj r_3], [zj r_3])) rfl rfl rfl ?_
  show Zr sc 137 81 [zp a0, zj x1, zj x2, zj 0, zj r_3] [zj r_3] w_1 ov w' c s
  refine rl_bi rfl (by decide) ?_
  show Zr sc 137 83 [zp a0, zj x1, zj x2, zj 0, zj r_3] [zj 6, zj r_3] w_1 ov w' c s
  obtain ⟨hr_4, h⟩ := h
  refine Zr_br (p := r_3 < 6) rfl rfl (zcmp_j (cnd := .lt) hr_4.1 hr_4.2) (fun hp => ?_) (fun hp => ?_)
  · replace h := h.1 hp
    show Zr sc 137 90 [zp a0, zj x1, zj x2, zj 0, zj r_3] [] w_1 ov w' c s
    exact h
  · replace h := h.2 hp
    show Zr sc 137 86 [zp a0, zj x1, zj x2, zj 0, zj r_3] [] w_1 ov w' c s
    refine Zr_st (q := (87, [zp a0, zj x1, zj x2, zj 0, zj r_3], [zj 0])) rfl rfl rfl ?_
    show Zr sc 137 87 [zp a0, zj x1, zj x2, zj 0, zj r_3] [zj 0] w_1 ov w' c s
    obtain ⟨hr_5, h⟩ := h
    refine Zr_b0 (p := 0 ≠ 0) rfl rfl (zcmp_0 (cnd := .ne) hr_5) (fun hp => absurd hp (by decide)) (fun hp => ?_)
    show Zr sc 137 90 [zp a0, zj x1, zj x2, zj 0, zj r_3] [] w_1 ov w' c s
    exact h
set_option maxRecDepth 100000 in
theorem V137_90 {sc : List Value} {w w' : List zE} {ov : Option Value} {c s : Nat} {a0 : Nat} {x1 : Int} {x2 : Int} {x3 : Int} {x4 : Int} {dr : Int} {wy : Int} {st : Int} {hd : Int} {nm : Int} {ar : Int} {hn : Int} {pk : Int} {D : Nat} {tl : Int} (L0 : w[a0]? = some (zob 7 [zp (a0 + 1), .ref 0, zj dr, zj wy, zj st, zj hd, zp (a0 + 73), zj nm, zp (a0 + 74), zp (a0 + 75), zp (a0 + 76), zj ar, zj hn, zp (a0 + 77), zj pk, zp D, zj tl])) (h : ((zrg nm ∧ zrg 40) ∧ ((40 ≤ nm → ((zrg x3) ∧ ((x3 = 0 → Zr sc 137 125 [zp a0, zj x1, zj x2, zj x3, zj x4] [] w ov w' c s) ∧ (¬ (x3 = 0) → (∃ r_5 : Int, ∃ w_3 : List zE, ∃ c_6 s_7 c_8 s_9 : Nat, Zc sc 139 [zp a0, zj x2] w (some (zj r_5)) w_3 c_6 s_7 ∧ (c = c_6 + c_8 ∧ s = s_7 + s_9) ∧ ((zrg r_5) ∧ ((r_5 = 0 → (ov = some (zj 0) ∧ w' = w_3 ∧ c_8 = 0 ∧ s_9 = 0)) ∧ (¬ (r_5 = 0) → Zr sc 137 125 [zp a0, zj x1, zj x2, zj x3, zj x4] [] w_3 ov w' c_8 s_9)))))))) ∧ (¬ (40 ≤ nm) → (∃ r_14 : Int, ∃ w_12 : List zE, Zc sc 115 [zp a0, zj x1] w (some (zj r_14)) w_12 0 0 ∧ (∃ fs_16 : List Value, w_12[a0]? = some (zob 7 fs_16) ∧ (∃ r_19 : Int, ∃ w_17 : List zE, ∃ c_20 s_21 c_22 s_23 : Nat, Zc sc 124 [zp a0, zj (1 + r_14)] w_12 (some (zj r_19)) w_17 c_20 s_21 ∧ (c = c_20 + c_22 ∧ s = s_21 + s_23) ∧ ((r_19 = 0 ∨ r_19 = 1) ∧ (ov = some (zj r_19) ∧ w' = w_17 ∧ c_22 = 0 ∧ s_23 = 0))))))))) : Zr sc 137 90 [zp a0, zj x1, zj x2, zj x3, zj x4] [] w ov w' c s := by
  refine Zr_st (q := (91, [zp a0, zj x1, zj x2, zj x3, zj x4], [zp a0])) rfl rfl rfl ?_
  show Zr sc 137 91 [zp a0, zj x1, zj x2, zj x3, zj x4] [zp a0] w ov w' c s
  refine rl_gf rfl L0 rfl rfl ?_
  show Zr sc 137 94 [zp a0, zj x1, zj x2, zj x3, zj x4] [zj nm] w ov w' c s
  refine rl_bi rfl (by decide) ?_
  show Zr sc 137 96 [zp a0, zj x1, zj x2, zj x3, zj x4] [zj 40, zj nm] w ov w' c s
  obtain ⟨hr_1, h⟩ := h
  refine Zr_br (p := 40 ≤ nm) rfl rfl (zcmp_j (cnd := .ge) hr_1.1 hr_1.2) (fun hp => ?_) (fun hp => ?_)
  · replace h := h.1 hp
    show Zr sc 137 113 [zp a0, zj x1, zj x2, zj x3, zj x4] [] w ov w' c s
    refine Zr_st (q := (114, [zp a0, zj x1, zj x2, zj x3, zj x4], [zj x3])) rfl rfl rfl ?_
    show Zr sc 137 114 [zp a0, zj x1, zj x2, zj x3, zj x4] [zj x3] w ov w' c s
    obtain ⟨hr_2, h⟩ := h
    refine Zr_b0 (p := x3 = 0) rfl rfl (zcmp_0 (cnd := .eq) hr_2) (fun hp => ?_) (fun hp => ?_)
    · replace h := h.1 hp
      show Zr sc 137 125 [zp a0, zj x1, zj x2, zj x3, zj x4] [] w ov w' c s
      exact h
    · replace h := h.2 hp
      show Zr sc 137 117 [zp a0, zj x1, zj x2, zj x3, zj x4] [] w ov w' c s
      refine Zr_st (q := (118, [zp a0, zj x1, zj x2, zj x3, zj x4], [zp a0])) rfl rfl rfl ?_
      show Zr sc 137 118 [zp a0, zj x1, zj x2, zj x3, zj x4] [zp a0] w ov w' c s
      refine Zr_st (q := (119, [zp a0, zj x1, zj x2, zj x3, zj x4], [zj x2, zp a0])) rfl rfl rfl ?_
      show Zr sc 137 119 [zp a0, zj x1, zj x2, zj x3, zj x4] [zj x2, zp a0] w ov w' c s
      obtain ⟨r_5, w_3, c_6, s_7, c_8, s_9, hk_4, hc_10, h⟩ := h
      refine rl_cal (ins := .invokevirtual 175) (rest := []) rfl rfl rfl rfl (zinv_v (fs := _) L0 rfl rfl rfl rfl) rfl rfl hk_4 ?_ hc_10.1 hc_10.2
      show Zr sc 137 122 [zp a0, zj x1, zj x2, zj x3, zj x4] [zj r_5] w_3 ov w' c_8 s_9
      obtain ⟨hr_11, h⟩ := h
      refine Zr_b0 (p := r_5 = 0) rfl rfl (zcmp_0 (cnd := .eq) hr_11) (fun hp => ?_) (fun hp => ?_)
      · replace h := h.1 hp
        show Zr sc 137 129 [zp a0, zj x1, zj x2, zj x3, zj x4] [] w_3 ov w' c_8 s_9
        refine rl_ic rfl ?_
        show Zr sc 137 130 [zp a0, zj x1, zj x2, zj x3, zj x4] [zj 0] w_3 ov w' c_8 s_9
        obtain ⟨h1, h2, h3, h4⟩ := h
        subst h1; subst h2; subst h3; subst h4
        exact Zr_ret (ins := .ireturn) rfl rfl
      · replace h := h.2 hp
        show Zr sc 137 125 [zp a0, zj x1, zj x2, zj x3, zj x4] [] w_3 ov w' c_8 s_9
        exact h
  · replace h := h.2 hp
    show Zr sc 137 99 [zp a0, zj x1, zj x2, zj x3, zj x4] [] w ov w' c s
    refine Zr_st (q := (100, [zp a0, zj x1, zj x2, zj x3, zj x4], [zp a0])) rfl rfl rfl ?_
    show Zr sc 137 100 [zp a0, zj x1, zj x2, zj x3, zj x4] [zp a0] w ov w' c s
    refine rl_ic rfl ?_
    show Zr sc 137 101 [zp a0, zj x1, zj x2, zj x3, zj x4] [zj 1, zp a0] w ov w' c s
    refine Zr_st (q := (102, [zp a0, zj x1, zj x2, zj x3, zj x4], [zp a0, zj 1, zp a0])) rfl rfl rfl ?_
    show Zr sc 137 102 [zp a0, zj x1, zj x2, zj x3, zj x4] [zp a0, zj 1, zp a0] w ov w' c s
    refine Zr_st (q := (103, [zp a0, zj x1, zj x2, zj x3, zj x4], [zj x1, zp a0, zj 1, zp a0])) rfl rfl rfl ?_
    show Zr sc 137 103 [zp a0, zj x1, zj x2, zj x3, zj x4] [zj x1, zp a0, zj 1, zp a0] w ov w' c s
    obtain ⟨r_14, w_12, hk_13, h⟩ := h
    refine rn_cal0 (ins := .invokevirtual 68) (rest := [zj 1, zp a0]) rfl rfl rfl rfl (zinv_v (fs := _) L0 rfl rfl rfl rfl) rfl rfl hk_13 ?_
    show Zr sc 137 106 [zp a0, zj x1, zj x2, zj x3, zj x4] [zj r_14, zj 1, zp a0] w_12 ov w' c s
    refine rl_add rfl ?_
    show Zr sc 137 107 [zp a0, zj x1, zj x2, zj x3, zj x4] [zj (1 + r_14), zp a0] w_12 ov w' c s
    obtain ⟨fs_16, hl_15, h⟩ := h
    obtain ⟨r_19, w_17, c_20, s_21, c_22, s_23, hk_18, hc_24, h⟩ := h
    refine rl_cal (ins := .invokevirtual 173) (rest := []) rfl rfl rfl rfl (zinv_v (fs := _) hl_15 rfl rfl rfl rfl) rfl rfl hk_18 ?_ hc_24.1 hc_24.2
    show Zr sc 137 110 [zp a0, zj x1, zj x2, zj x3, zj x4] [zj r_19] w_17 ov w' c_22 s_23
    refine Zr_st (q := (130, [zp a0, zj x1, zj x2, zj x3, zj x4], [zj r_19])) rfl rfl rfl ?_
    show Zr sc 137 130 [zp a0, zj x1, zj x2, zj x3, zj x4] [zj r_19] w_17 ov w' c_22 s_23
    obtain ⟨hb_25, h⟩ := h
    obtain ⟨h1, h2, h3, h4⟩ := h
    subst h1; subst h2; subst h3; subst h4
    exact Zr_retb rfl rfl hb_25
set_option maxRecDepth 100000 in
theorem V137_125 {sc : List Value} {w w' : List zE} {ov : Option Value} {c s : Nat} {a0 : Nat} {x1 : Int} {x2 : Int} {x3 : Int} {x4 : Int} (h : (ov = some (zj 1) ∧ w' = w ∧ c = 0 ∧ s = 0)) : Zr sc 137 125 [zp a0, zj x1, zj x2, zj x3, zj x4] [] w ov w' c s := by
  refine rl_ic rfl ?_
  show Zr sc 137 126 [zp a0, zj x1, zj x2, zj x3, zj x4] [zj 1] w ov w' c s
  refine Zr_st (q := (130, [zp a0, zj x1, zj x2, zj x3, zj x4], [zj 1])) rfl rfl rfl ?_
  show Zr sc 137 130 [zp a0, zj x1, zj x2, zj x3, zj x4] [zj 1] w ov w' c s
  obtain ⟨h1, h2, h3, h4⟩ := h
  subst h1; subst h2; subst h3; subst h4
  exact Zr_ret (ins := .ireturn) rfl rfl
set_option maxRecDepth 100000 in
theorem V137_220 {sc : List Value} {w w' : List zE} {ov : Option Value} {c s : Nat} {a0 : Nat} {x1 : Int} {x2 : Int} {x3 : Int} {x4 : Int} (h : (ov = some (zj 1) ∧ w' = w ∧ c = 0 ∧ s = 0)) : Zr sc 137 220 [zp a0, zj x1, zj x2, zj x3, zj x4] [] w ov w' c s := by
  refine rl_ic rfl ?_
  show Zr sc 137 221 [zp a0, zj x1, zj x2, zj x3, zj x4] [zj 1] w ov w' c s
  refine Zr_st (q := (225, [zp a0, zj x1, zj x2, zj x3, zj x4], [zj 1])) rfl rfl rfl ?_
  show Zr sc 137 225 [zp a0, zj x1, zj x2, zj x3, zj x4] [zj 1] w ov w' c s
  obtain ⟨h1, h2, h3, h4⟩ := h
  subst h1; subst h2; subst h3; subst h4
  exact Zr_ret (ins := .ireturn) rfl rfl

-- HeapwrightLabLaw$Pool.place(I)I
set_option maxRecDepth 100000 in
theorem V138_0 {sc : List Value} {w w' : List zE} {ov : Option Value} {c s : Nat} {a0 : Nat} {x1 : Int} (h : Zr sc 138 2 [zp a0, zj x1, zj 0] [] w ov w' c s) : Zr sc 138 0 [zp a0, zj x1, zmk] [] w ov w' c s := by
  refine rl_ic rfl ?_
  show Zr sc 138 1 [zp a0, zj x1, zmk] [zj 0] w ov w' c s
  refine Zr_st (q := (2, [zp a0, zj x1, zj 0], [])) rfl rfl rfl ?_
  show Zr sc 138 2 [zp a0, zj x1, zj 0] [] w ov w' c s
  exact h
set_option maxRecDepth 100000 in
theorem V138_2 {sc : List Value} {w w' : List zE} {ov : Option Value} {c s : Nat} {a0 : Nat} {x1 : Int} {x2 : Int} {dr : Int} {wy : Int} {st : Int} {hd : Int} {nm : Int} {ar : Int} {hn : Int} {pk : Int} {D : Nat} {tl : Int} {ow : List Int} (L0 : w[a0]? = some (zob 7 [zp (a0 + 1), .ref 0, zj dr, zj wy, zj st, zj hd, zp (a0 + 73), zj nm, zp (a0 + 74), zp (a0 + 75), zp (a0 + 76), zj ar, zj hn, zp (a0 + 77), zj pk, zp D, zj tl])) (L73 : w[(a0 + 73)]? = some (za ow)) (h : ((zrg x2 ∧ zrg 1024) ∧ ((1024 ≤ x2 → (ov = some (zj (-1)) ∧ w' = w ∧ c = 0 ∧ s = 0)) ∧ (¬ (1024 ≤ x2) → (((0 : Int) ≤ x2 ∧ x2 < (ow.length : Int) ∧ x2 ≤ (2147483647 : Int)) ∧ ((zrg (zgi ow x2) ∧ zrg x1) ∧ (((zgi ow x2) ≠ x1 → Zr sc 138 2 [zp a0, zj x1, zj (x2 + 1)] [] w ov w' c s) ∧ (¬ ((zgi ow x2) ≠ x1) → (ov = some (zj x2) ∧ w' = w ∧ c = 0 ∧ s = 0))))))))) : Zr sc 138 2 [zp a0, zj x1, zj x2] [] w ov w' c s := by
  refine Zr_st (q := (3, [zp a0, zj x1, zj x2], [zj x2])) rfl rfl rfl ?_
  show Zr sc 138 3 [zp a0, zj x1, zj x2] [zj x2] w ov w' c s
  refine rl_si rfl (by decide) ?_
  show Zr sc 138 6 [zp a0, zj x1, zj x2] [zj 1024, zj x2] w ov w' c s
  obtain ⟨hr_1, h⟩ := h
  refine Zr_br (p := 1024 ≤ x2) rfl rfl (zcmp_j (cnd := .ge) hr_1.1 hr_1.2) (fun hp => ?_) (fun hp => ?_)
  · replace h := h.1 hp
    show Zr sc 138 27 [zp a0, zj x1, zj x2] [] w ov w' c s
    refine rl_ic rfl ?_
    show Zr sc 138 28 [zp a0, zj x1, zj x2] [zj (-1)] w ov w' c s
    obtain ⟨h1, h2, h3, h4⟩ := h
    subst h1; subst h2; subst h3; subst h4
    exact Zr_ret (ins := .ireturn) rfl rfl
  · replace h := h.2 hp
    show Zr sc 138 9 [zp a0, zj x1, zj x2] [] w ov w' c s
    refine Zr_st (q := (10, [zp a0, zj x1, zj x2], [zp a0])) rfl rfl rfl ?_
    show Zr sc 138 10 [zp a0, zj x1, zj x2] [zp a0] w ov w' c s
    refine rl_gf rfl L0 rfl rfl ?_
    show Zr sc 138 13 [zp a0, zj x1, zj x2] [zp (a0 + 73)] w ov w' c s
    refine Zr_st (q := (14, [zp a0, zj x1, zj x2], [zj x2, zp (a0 + 73)])) rfl rfl rfl ?_
    show Zr sc 138 14 [zp a0, zj x1, zj x2] [zj x2, zp (a0 + 73)] w ov w' c s
    obtain ⟨hi_2, h⟩ := h
    refine rl_ia rfl L73 hi_2.1 hi_2.2.1 hi_2.2.2 ?_
    show Zr sc 138 15 [zp a0, zj x1, zj x2] [zj (zgi ow x2)] w ov w' c s
    refine Zr_st (q := (16, [zp a0, zj x1, zj x2], [zj x1, zj (zgi ow x2)])) rfl rfl rfl ?_
    show Zr sc 138 16 [zp a0, zj x1, zj x2] [zj x1, zj (zgi ow x2)] w ov w' c s
    obtain ⟨hr_3, h⟩ := h
    refine Zr_br (p := (zgi ow x2) ≠ x1) rfl rfl (zcmp_j (cnd := .ne) hr_3.1 hr_3.2) (fun hp => ?_) (fun hp => ?_)
    · replace h := h.1 hp
      show Zr sc 138 21 [zp a0, zj x1, zj x2] [] w ov w' c s
      refine rl_inc rfl rfl rfl rfl ?_
      show Zr sc 138 24 [zp a0, zj x1, zj (x2 + 1)] [] w ov w' c s
      refine Zr_st (q := (2, [zp a0, zj x1, zj (x2 + 1)], [])) rfl rfl rfl ?_
      show Zr sc 138 2 [zp a0, zj x1, zj (x2 + 1)] [] w ov w' c s
      exact h
    · replace h := h.2 hp
      show Zr sc 138 19 [zp a0, zj x1, zj x2] [] w ov w' c s
      refine Zr_st (q := (20, [zp a0, zj x1, zj x2], [zj x2])) rfl rfl rfl ?_
      show Zr sc 138 20 [zp a0, zj x1, zj x2] [zj x2] w ov w' c s
      obtain ⟨h1, h2, h3, h4⟩ := h
      subst h1; subst h2; subst h3; subst h4
      exact Zr_ret (ins := .ireturn) rfl rfl

-- HeapwrightLabLaw$Pool.giveBack(I)Z
set_option maxRecDepth 100000 in
theorem V139_0 {sc : List Value} {w w' : List zE} {ov : Option Value} {c s : Nat} {a0 : Nat} {x1 : Int} {dr : Int} {wy : Int} {st : Int} {hd : Int} {nm : Int} {ar : Int} {hn : Int} {pk : Int} {D : Nat} {tl : Int} {rm : List Int} (L0 : w[a0]? = some (zob 7 [zp (a0 + 1), .ref 0, zj dr, zj wy, zj st, zj hd, zp (a0 + 73), zj nm, zp (a0 + 74), zp (a0 + 75), zp (a0 + 76), zj ar, zj hn, zp (a0 + 77), zj pk, zp D, zj tl])) (L75 : w[(a0 + 75)]? = some (za rm)) (h : (∃ r_3 : Int, Zc sc 138 [zp a0, zj x1] w (some (zj r_3)) w 0 0 ∧ ((zrg r_3) ∧ ((r_3 < 0 → Zr sc 139 21 [zp a0, zj x1, zj r_3] [] w ov w' c s) ∧ (¬ (r_3 < 0) → (((0 : Int) ≤ x1 ∧ x1 < (rm.length : Int) ∧ x1 ≤ (2147483647 : Int)) ∧ (∃ w_6 : List zE, Zc sc 140 [zp a0, zj r_3, zj (zgi rm x1)] w none w_6 0 0 ∧ Zr sc 139 21 [zp a0, zj x1, zj r_3] [] w_6 ov w' c s))))))) : Zr sc 139 0 [zp a0, zj x1, zmk] [] w ov w' c s := by
  refine Zr_st (q := (1, [zp a0, zj x1, zmk], [zp a0])) rfl rfl rfl ?_
  show Zr sc 139 1 [zp a0, zj x1, zmk] [zp a0] w ov w' c s
  refine Zr_st (q := (2, [zp a0, zj x1, zmk], [zj x1, zp a0])) rfl rfl rfl ?_
  show Zr sc 139 2 [zp a0, zj x1, zmk] [zj x1, zp a0] w ov w' c s
  obtain ⟨r_3, hk_9, h⟩ := h
  refine rn_cal0 (ins := .invokevirtual 149) (rest := []) rfl rfl rfl rfl (zinv_v (fs := _) L0 rfl rfl rfl rfl) rfl rfl hk_9 ?_
  show Zr sc 139 5 [zp a0, zj x1, zmk] [zj r_3] w ov w' c s
  refine Zr_st (q := (6, [zp a0, zj x1, zj r_3], [])) rfl rfl rfl ?_
  show Zr sc 139 6 [zp a0, zj x1, zj r_3] [] w ov w' c s
  refine Zr_st (q := (7, [zp a0, zj x1, zj r_3], [zj r_3])) rfl rfl rfl ?_
  show Zr sc 139 7 [zp a0, zj x1, zj r_3] [zj r_3] w ov w' c s
  obtain ⟨hr_4, h⟩ := h
  refine Zr_b0 (p := r_3 < 0) rfl rfl (zcmp_0 (cnd := .lt) hr_4) (fun hp => ?_) (fun hp => ?_)
  · replace h := h.1 hp
    show Zr sc 139 21 [zp a0, zj x1, zj r_3] [] w ov w' c s
    exact h
  · replace h := h.2 hp
    show Zr sc 139 10 [zp a0, zj x1, zj r_3] [] w ov w' c s
    refine Zr_st (q := (11, [zp a0, zj x1, zj r_3], [zp a0])) rfl rfl rfl ?_
    show Zr sc 139 11 [zp a0, zj x1, zj r_3] [zp a0] w ov w' c s
    refine Zr_st (q := (12, [zp a0, zj x1, zj r_3], [zj r_3, zp a0])) rfl rfl rfl ?_
    show Zr sc 139 12 [zp a0, zj x1, zj r_3] [zj r_3, zp a0] w ov w' c s
    refine Zr_st (q := (13, [zp a0, zj x1, zj r_3], [zp a0, zj r_3, zp a0])) rfl rfl rfl ?_
    show Zr sc 139 13 [zp a0, zj x1, zj r_3] [zp a0, zj r_3, zp a0] w ov w' c s
    refine rl_gf rfl L0 rfl rfl ?_
    show Zr sc 139 16 [zp a0, zj x1, zj r_3] [zp (a0 + 75), zj r_3, zp a0] w ov w' c s
    refine Zr_st (q := (17, [zp a0, zj x1, zj r_3], [zj x1, zp (a0 + 75), zj r_3, zp a0])) rfl rfl rfl ?_
    show Zr sc 139 17 [zp a0, zj x1, zj r_3] [zj x1, zp (a0 + 75), zj r_3, zp a0] w ov w' c s
    obtain ⟨hi_5, h⟩ := h
    refine rl_ia rfl L75 hi_5.1 hi_5.2.1 hi_5.2.2 ?_
    show Zr sc 139 18 [zp a0, zj x1, zj r_3] [zj (zgi rm x1), zj r_3, zp a0] w ov w' c s
    obtain ⟨w_6, hk_7, h⟩ := h
    refine rn_cal0 (ins := .invokevirtual 150) (rest := []) rfl rfl rfl rfl (zinv_v (fs := _) L0 rfl rfl rfl rfl) rfl rfl hk_7 ?_
    show Zr sc 139 21 [zp a0, zj x1, zj r_3] [] w_6 ov w' c s
    exact h
set_option maxRecDepth 100000 in
theorem V139_21 {sc : List Value} {w w' : List zE} {ov : Option Value} {c s : Nat} {a0 : Nat} {x1 : Int} {x2 : Int} {dr : Int} {wy : Int} {st : Int} {hd : Int} {nm : Int} {ar : Int} {hn : Int} {pk : Int} {D : Nat} {tl : Int} (L0 : w[a0]? = some (zob 7 [zp (a0 + 1), .ref 0, zj dr, zj wy, zj st, zj hd, zp (a0 + 73), zj nm, zp (a0 + 74), zp (a0 + 75), zp (a0 + 76), zj ar, zj hn, zp (a0 + 77), zj pk, zp D, zj tl])) (h : (∃ w_1 : List zE, ∃ c_3 s_4 c_5 s_6 : Nat, Zc sc 132 [zp a0, zj 1, zj x1, zj 0] w none w_1 c_3 s_4 ∧ (c = c_3 + c_5 ∧ s = s_4 + s_6) ∧ (∃ dr_9 : Int, ∃ wy_10 : Int, ∃ st_11 : Int, ∃ hd_12 : Int, ∃ nm_13 : Int, ∃ ar_14 : Int, ∃ hn_15 : Int, ∃ pk_16 : Int, ∃ D_17 : Nat, ∃ tl_18 : Int, w_1[a0]? = some (zob 7 [zp (a0 + 1), .ref 0, zj dr_9, zj wy_10, zj st_11, zj hd_12, zp (a0 + 73), zj nm_13, zp (a0 + 74), zp (a0 + 75), zp (a0 + 76), zj ar_14, zj hn_15, zp (a0 + 77), zj pk_16, zp D_17, zj tl_18]) ∧ ((zrg tl_18) ∧ ((tl_18 = 0 → (ov = some (zj 1) ∧ w' = w_1 ∧ c_5 = 0 ∧ s_6 = 0)) ∧ (¬ (tl_18 = 0) → (∃ fs_21 : List Value, w_1[(a0 + 1)]? = some (zob 6 fs_21) ∧ (∃ r_24 : Int, ∃ w_22 : List zE, Zc sc 141 [zp (a0 + 1), zj x1] w_1 (some (zj r_24)) w_22 0 0 ∧ (∃ dr_26 : Int, ∃ wy_27 : Int, ∃ st_28 : Int, ∃ hd_29 : Int, ∃ nm_30 : Int, ∃ ar_31 : Int, ∃ hn_32 : Int, ∃ pk_33 : Int, ∃ D_34 : Nat, ∃ tl_35 : Int, w_22[a0]? = some (zob 7 [zp (a0 + 1), .ref 0, zj dr_26, zj wy_27, zj st_28, zj hd_29, zp (a0 + 73), zj nm_30, zp (a0 + 74), zp (a0 + 75), zp (a0 + 76), zj ar_31, zj hn_32, zp (a0 + 77), zj pk_33, zp D_34, zj tl_35]) ∧ (∃ l_38 : List Int, w_22[(a0 + 75)]? = some (za l_38) ∧ (((0 : Int) ≤ x1 ∧ x1 < (l_38.length : Int) ∧ x1 ≤ (2147483647 : Int)) ∧ ((zrg r_24 ∧ zrg (zgi l_38 x1)) ∧ ((r_24 ≠ (zgi l_38 x1) → (ov = some (zj 0) ∧ w' = w_22 ∧ c_5 = 0 ∧ s_6 = 0)) ∧ (¬ (r_24 ≠ (zgi l_38 x1)) → (∃ fs_41 : List Value, w_22[(a0 + 1)]? = some (zob 6 fs_41) ∧ (∃ r_44 : Int, Zc sc 4 [zp (a0 + 1), zj x1] w_22 (some (zj r_44)) w_22 0 0 ∧ ((zrg r_44) ∧ ((r_44 ≠ 0 → (ov = some (zj 0) ∧ w' = w_22 ∧ c_5 = 0 ∧ s_6 = 0)) ∧ (¬ (r_44 ≠ 0) → (ov = some (zj 1) ∧ w' = w_22 ∧ c_5 = 0 ∧ s_6 = 0)))))))))))))))))))) : Zr sc 139 21 [zp a0, zj x1, zj x2] [] w ov w' c s := by
  refine Zr_st (q := (22, [zp a0, zj x1, zj x2], [zp a0])) rfl rfl rfl ?_
  show Zr sc 139 22 [zp a0, zj x1, zj x2] [zp a0] w ov w' c s
  refine rl_ic rfl ?_
  show Zr sc 139 23 [zp a0, zj x1, zj x2] [zj 1, zp a0] w ov w' c s
  refine Zr_st (q := (24, [zp a0, zj x1, zj x2], [zj x1, zj 1, zp a0])) rfl rfl rfl ?_
  show Zr sc 139 24 [zp a0, zj x1, zj x2] [zj x1, zj 1, zp a0] w ov w' c s
  refine rl_ic rfl ?_
  show Zr sc 139 25 [zp a0, zj x1, zj x2] [zj 0, zj x1, zj 1, zp a0] w ov w' c s
  obtain ⟨w_1, c_3, s_4, c_5, s_6, hk_2, hc_7, h⟩ := h
  refine rl_cal (ins := .invokevirtual 136) (rest := []) rfl rfl rfl rfl (zinv_v (fs := _) L0 rfl rfl rfl rfl) rfl rfl hk_2 ?_ hc_7.1 hc_7.2
  show Zr sc 139 28 [zp a0, zj x1, zj x2] [] w_1 ov w' c_5 s_6
  refine Zr_st (q := (29, [zp a0, zj x1, zj x2], [zp a0])) rfl rfl rfl ?_
  show Zr sc 139 29 [zp a0, zj x1, zj x2] [zp a0] w_1 ov w' c_5 s_6
  obtain ⟨dr_9, wy_10, st_11, hd_12, nm_13, ar_14, hn_15, pk_16, D_17, tl_18, hw_8, h⟩ := h
  refine rl_gf rfl hw_8 rfl rfl ?_
  show Zr sc 139 32 [zp a0, zj x1, zj x2] [zj tl_18] w_1 ov w' c_5 s_6
  obtain ⟨hr_19, h⟩ := h
  refine Zr_b0 (p := tl_18 = 0) rfl rfl (zcmp_0 (cnd := .eq) hr_19) (fun hp => ?_) (fun hp => ?_)
  · replace h := h.1 hp
    show Zr sc 139 63 [zp a0, zj x1, zj x2] [] w_1 ov w' c_5 s_6
    refine rl_ic rfl ?_
    show Zr sc 139 64 [zp a0, zj x1, zj x2] [zj 1] w_1 ov w' c_5 s_6
    refine Zr_st (q := (68, [zp a0, zj x1, zj x2], [zj 1])) rfl rfl rfl ?_
    show Zr sc 139 68 [zp a0, zj x1, zj x2] [zj 1] w_1 ov w' c_5 s_6
    obtain ⟨h1, h2, h3, h4⟩ := h
    subst h1; subst h2; subst h3; subst h4
    exact Zr_ret (ins := .ireturn) rfl rfl
  · replace h := h.2 hp
    show Zr sc 139 35 [zp a0, zj x1, zj x2] [] w_1 ov w' c_5 s_6
    refine Zr_st (q := (36, [zp a0, zj x1, zj x2], [zp a0])) rfl rfl rfl ?_
    show Zr sc 139 36 [zp a0, zj x1, zj x2] [zp a0] w_1 ov w' c_5 s_6
    refine rl_gf rfl hw_8 rfl rfl ?_
    show Zr sc 139 39 [zp a0, zj x1, zj x2] [zp (a0 + 1)] w_1 ov w' c_5 s_6
    refine Zr_st (q := (40, [zp a0, zj x1, zj x2], [zj x1, zp (a0 + 1)])) rfl rfl rfl ?_
    show Zr sc 139 40 [zp a0, zj x1, zj x2] [zj x1, zp (a0 + 1)] w_1 ov w' c_5 s_6
    obtain ⟨fs_21, hl_20, h⟩ := h
    obtain ⟨r_24, w_22, hk_23, h⟩ := h
    refine rn_cal0 (ins := .invokevirtual 154) (rest := []) rfl rfl rfl rfl (zinv_v (fs := _) hl_20 rfl rfl rfl rfl) rfl rfl hk_23 ?_
    show Zr sc 139 43 [zp a0, zj x1, zj x2] [zj r_24] w_22 ov w' c_5 s_6
    refine Zr_st (q := (44, [zp a0, zj x1, zj x2], [zp a0, zj r_24])) rfl rfl rfl ?_
    show Zr sc 139 44 [zp a0, zj x1, zj x2] [zp a0, zj r_24] w_22 ov w' c_5 s_6
    obtain ⟨dr_26, wy_27, st_28, hd_29, nm_30, ar_31, hn_32, pk_33, D_34, tl_35, hw_25, h⟩ := h
    refine rl_gf rfl hw_25 rfl rfl ?_
    show Zr sc 139 47 [zp a0, zj x1, zj x2] [zp (a0 + 75), zj r_24] w_22 ov w' c_5 s_6
    refine Zr_st (q := (48, [zp a0, zj x1, zj x2], [zj x1, zp (a0 + 75), zj r_24])) rfl rfl rfl ?_
    show Zr sc 139 48 [zp a0, zj x1, zj x2] [zj x1, zp (a0 + 75), zj r_24] w_22 ov w' c_5 s_6
    obtain ⟨l_38, hw_37, h⟩ := h
    obtain ⟨hi_36, h⟩ := h
    refine rl_ia rfl hw_37 hi_36.1 hi_36.2.1 hi_36.2.2 ?_
    show Zr sc 139 49 [zp a0, zj x1, zj x2] [zj (zgi l_38 x1), zj r_24] w_22 ov w' c_5 s_6
    obtain ⟨hr_39, h⟩ := h
    refine Zr_br (p := r_24 ≠ (zgi l_38 x1)) rfl rfl (zcmp_j (cnd := .ne) hr_39.1 hr_39.2) (fun hp => ?_) (fun hp => ?_)
    · replace h := h.1 hp
      show Zr sc 139 67 [zp a0, zj x1, zj x2] [] w_22 ov w' c_5 s_6
      refine rl_ic rfl ?_
      show Zr sc 139 68 [zp a0, zj x1, zj x2] [zj 0] w_22 ov w' c_5 s_6
      obtain ⟨h1, h2, h3, h4⟩ := h
      subst h1; subst h2; subst h3; subst h4
      exact Zr_ret (ins := .ireturn) rfl rfl
    · replace h := h.2 hp
      show Zr sc 139 52 [zp a0, zj x1, zj x2] [] w_22 ov w' c_5 s_6
      refine Zr_st (q := (53, [zp a0, zj x1, zj x2], [zp a0])) rfl rfl rfl ?_
      show Zr sc 139 53 [zp a0, zj x1, zj x2] [zp a0] w_22 ov w' c_5 s_6
      refine rl_gf rfl hw_25 rfl rfl ?_
      show Zr sc 139 56 [zp a0, zj x1, zj x2] [zp (a0 + 1)] w_22 ov w' c_5 s_6
      refine Zr_st (q := (57, [zp a0, zj x1, zj x2], [zj x1, zp (a0 + 1)])) rfl rfl rfl ?_
      show Zr sc 139 57 [zp a0, zj x1, zj x2] [zj x1, zp (a0 + 1)] w_22 ov w' c_5 s_6
      obtain ⟨fs_41, hl_40, h⟩ := h
      obtain ⟨r_44, hk_9, h⟩ := h
      refine rn_cal0 (ins := .invokevirtual 142) (rest := []) rfl rfl rfl rfl (zinv_v (fs := _) hl_40 rfl rfl rfl rfl) rfl rfl hk_9 ?_
      show Zr sc 139 60 [zp a0, zj x1, zj x2] [zj r_44] w_22 ov w' c_5 s_6
      obtain ⟨hr_45, h⟩ := h
      refine Zr_b0 (p := r_44 ≠ 0) rfl rfl (zcmp_0 (cnd := .ne) hr_45) (fun hp => ?_) (fun hp => ?_)
      · replace h := h.1 hp
        show Zr sc 139 67 [zp a0, zj x1, zj x2] [] w_22 ov w' c_5 s_6
        refine rl_ic rfl ?_
        show Zr sc 139 68 [zp a0, zj x1, zj x2] [zj 0] w_22 ov w' c_5 s_6
        obtain ⟨h1, h2, h3, h4⟩ := h
        subst h1; subst h2; subst h3; subst h4
        exact Zr_ret (ins := .ireturn) rfl rfl
      · replace h := h.2 hp
        show Zr sc 139 63 [zp a0, zj x1, zj x2] [] w_22 ov w' c_5 s_6
        refine rl_ic rfl ?_
        show Zr sc 139 64 [zp a0, zj x1, zj x2] [zj 1] w_22 ov w' c_5 s_6
        refine Zr_st (q := (68, [zp a0, zj x1, zj x2], [zj 1])) rfl rfl rfl ?_
        show Zr sc 139 68 [zp a0, zj x1, zj x2] [zj 1] w_22 ov w' c_5 s_6
        obtain ⟨h1, h2, h3, h4⟩ := h
        subst h1; subst h2; subst h3; subst h4
        exact Zr_ret (ins := .ireturn) rfl rfl

-- HeapwrightLabLaw$Pool.give(II)V
set_option maxRecDepth 100000 in
theorem V140_0 {sc : List Value} {w w' : List zE} {ov : Option Value} {c s : Nat} {a0 : Nat} {x1 : Int} {x2 : Int} {dr : Int} {wy : Int} {st : Int} {hd : Int} {nm : Int} {ar : Int} {hn : Int} {pk : Int} {D : Nat} {tl : Int} {cn : List Int} {ow : List Int} (L0 : w[a0]? = some (zob 7 [zp (a0 + 1), .ref 0, zj dr, zj wy, zj st, zj hd, zp (a0 + 73), zj nm, zp (a0 + 74), zp (a0 + 75), zp (a0 + 76), zj ar, zj hn, zp (a0 + 77), zj pk, zp D, zj tl])) (L77 : w[(a0 + 77)]? = some (za cn)) (L73 : w[(a0 + 73)]? = some (za ow)) (h : ((zrg wy ∧ zrg 4) ∧ ((4 ≤ wy → Zr sc 140 71 [zp a0, zj x1, zj x2, zmk, zmk, zmk] [] w ov w' c s) ∧ (¬ (4 ≤ wy) → (((0 : Int) ≤ 2 ∧ 2 < (cn.length : Int) ∧ 2 ≤ (2147483647 : Int)) ∧ ((zrg x1) ∧ ((x1 ≤ 0 → (((0 : Int) ≤ 2 ∧ 2 < (cn.length : Int) ∧ 2 ≤ (2147483647 : Int)) ∧ (((0 : Int) ≤ 2 ∧ 2 < ((zsi cn 2 ((zgi cn 2) + 0)).length : Int) ∧ 2 ≤ (2147483647 : Int)) ∧ ((zrg (x1 + x2) ∧ zrg 1024) ∧ ((1024 ≤ (x1 + x2) → (((0 : Int) ≤ 2 ∧ 2 < ((zsi cn 2 ((zgi cn 2) + 0)).length : Int) ∧ 2 ≤ (2147483647 : Int)) ∧ Zr sc 140 71 [zp a0, zj x1, zj x2, zmk, zmk, zmk] [] ((w.set (a0 + 77) (za (zsi cn 2 ((zgi cn 2) + 0)))).set (a0 + 77) (za (zsi (zsi cn 2 ((zgi cn 2) + 0)) 2 ((zgi (zsi cn 2 ((zgi cn 2) + 0)) 2) + 0)))) ov w' c s)) ∧ (¬ (1024 ≤ (x1 + x2)) → (((0 : Int) ≤ (x1 + x2) ∧ (x1 + x2) < (ow.length : Int) ∧ (x1 + x2) ≤ (2147483647 : Int)) ∧ ((zrg (zgi ow (x1 + x2))) ∧ ((0 ≤ (zgi ow (x1 + x2)) → (((0 : Int) ≤ 2 ∧ 2 < ((zsi cn 2 ((zgi cn 2) + 0)).length : Int) ∧ 2 ≤ (2147483647 : Int)) ∧ Zr sc 140 71 [zp a0, zj x1, zj x2, zmk, zmk, zmk] [] ((w.set (a0 + 77) (za (zsi cn 2 ((zgi cn 2) + 0)))).set (a0 + 77) (za (zsi (zsi cn 2 ((zgi cn 2) + 0)) 2 ((zgi (zsi cn 2 ((zgi cn 2) + 0)) 2) + 0)))) ov w' c s)) ∧ (¬ (0 ≤ (zgi ow (x1 + x2))) → (((0 : Int) ≤ 2 ∧ 2 < ((zsi cn 2 ((zgi cn 2) + 0)).length : Int) ∧ 2 ≤ (2147483647 : Int)) ∧ Zr sc 140 71 [zp a0, zj x1, zj x2, zmk, zmk, zmk] [] ((w.set (a0 + 77) (za (zsi cn 2 ((zgi cn 2) + 0)))).set (a0 + 77) (za (zsi (zsi cn 2 ((zgi cn 2) + 0)) 2 ((zgi (zsi cn 2 ((zgi cn 2) + 0)) 2) + 1)))) ov w' c s))))))))))) ∧ (¬ (x1 ≤ 0) → (((0 : Int) ≤ (x1 - 1) ∧ (x1 - 1) < (ow.length : Int) ∧ (x1 - 1) ≤ (2147483647 : Int)) ∧ ((zrg (zgi ow (x1 - 1))) ∧ ((0 ≤ (zgi ow (x1 - 1)) → (((0 : Int) ≤ 2 ∧ 2 < (cn.length : Int) ∧ 2 ≤ (2147483647 : Int)) ∧ (((0 : Int) ≤ 2 ∧ 2 < ((zsi cn 2 ((zgi cn 2) + 0)).length : Int) ∧ 2 ≤ (2147483647 : Int)) ∧ ((zrg (x1 + x2) ∧ zrg 1024) ∧ ((1024 ≤ (x1 + x2) → (((0 : Int) ≤ 2 ∧ 2 < ((zsi cn 2 ((zgi cn 2) + 0)).length : Int) ∧ 2 ≤ (2147483647 : Int)) ∧ Zr sc 140 71 [zp a0, zj x1, zj x2, zmk, zmk, zmk] [] ((w.set (a0 + 77) (za (zsi cn 2 ((zgi cn 2) + 0)))).set (a0 + 77) (za (zsi (zsi cn 2 ((zgi cn 2) + 0)) 2 ((zgi (zsi cn 2 ((zgi cn 2) + 0)) 2) + 0)))) ov w' c s)) ∧ (¬ (1024 ≤ (x1 + x2)) → (((0 : Int) ≤ (x1 + x2) ∧ (x1 + x2) < (ow.length : Int) ∧ (x1 + x2) ≤ (2147483647 : Int)) ∧ ((zrg (zgi ow (x1 + x2))) ∧ ((0 ≤ (zgi ow (x1 + x2)) → (((0 : Int) ≤ 2 ∧ 2 < ((zsi cn 2 ((zgi cn 2) + 0)).length : Int) ∧ 2 ≤ (2147483647 : Int)) ∧ Zr sc 140 71 [zp a0, zj x1, zj x2, zmk, zmk, zmk] [] ((w.set (a0 + 77) (za (zsi cn 2 ((zgi cn 2) + 0)))).set (a0 + 77) (za (zsi (zsi cn 2 ((zgi cn 2) + 0)) 2 ((zgi (zsi cn 2 ((zgi cn 2) + 0)) 2) + 0)))) ov w' c s)) ∧ (¬ (0 ≤ (zgi ow (x1 + x2))) → (((0 : Int) ≤ 2 ∧ 2 < ((zsi cn 2 ((zgi cn 2) + 0)).length : Int) ∧ 2 ≤ (2147483647 : Int)) ∧ Zr sc 140 71 [zp a0, zj x1, zj x2, zmk, zmk, zmk] [] ((w.set (a0 + 77) (za (zsi cn 2 ((zgi cn 2) + 0)))).set (a0 + 77) (za (zsi (zsi cn 2 ((zgi cn 2) + 0)) 2 ((zgi (zsi cn 2 ((zgi cn 2) + 0)) 2) + 1)))) ov w' c s))))))))))) ∧ (¬ (0 ≤ (zgi ow (x1 - 1))) → (((0 : Int) ≤ 2 ∧ 2 < (cn.length : Int) ∧ 2 ≤ (2147483647 : Int)) ∧ (((0 : Int) ≤ 2 ∧ 2 < ((zsi cn 2 ((zgi cn 2) + 1)).length : Int) ∧ 2 ≤ (2147483647 : Int)) ∧ ((zrg (x1 + x2) ∧ zrg 1024) ∧ ((1024 ≤ (x1 + x2) → (((0 : Int) ≤ 2 ∧ 2 < ((zsi cn 2 ((zgi cn 2) + 1)).length : Int) ∧ 2 ≤ (2147483647 : Int)) ∧ Zr sc 140 71 [zp a0, zj x1, zj x2, zmk, zmk, zmk] [] ((w.set (a0 + 77) (za (zsi cn 2 ((zgi cn 2) + 1)))).set (a0 + 77) (za (zsi (zsi cn 2 ((zgi cn 2) + 1)) 2 ((zgi (zsi cn 2 ((zgi cn 2) + 1)) 2) + 0)))) ov w' c s)) ∧ (¬ (1024 ≤ (x1 + x2)) → (((0 : Int) ≤ (x1 + x2) ∧ (x1 + x2) < (ow.length : Int) ∧ (x1 + x2) ≤ (2147483647 : Int)) ∧ ((zrg (zgi ow (x1 + x2))) ∧ ((0 ≤ (zgi ow (x1 + x2)) → (((0 : Int) ≤ 2 ∧ 2 < ((zsi cn 2 ((zgi cn 2) + 1)).length : Int) ∧ 2 ≤ (2147483647 : Int)) ∧ Zr sc 140 71 [zp a0, zj x1, zj x2, zmk, zmk, zmk] [] ((w.set (a0 + 77) (za (zsi cn 2 ((zgi cn 2) + 1)))).set (a0 + 77) (za (zsi (zsi cn 2 ((zgi cn 2) + 1)) 2 ((zgi (zsi cn 2 ((zgi cn 2) + 1)) 2) + 0)))) ov w' c s)) ∧ (¬ (0 ≤ (zgi ow (x1 + x2))) → (((0 : Int) ≤ 2 ∧ 2 < ((zsi cn 2 ((zgi cn 2) + 1)).length : Int) ∧ 2 ≤ (2147483647 : Int)) ∧ Zr sc 140 71 [zp a0, zj x1, zj x2, zmk, zmk, zmk] [] ((w.set (a0 + 77) (za (zsi cn 2 ((zgi cn 2) + 1)))).set (a0 + 77) (za (zsi (zsi cn 2 ((zgi cn 2) + 1)) 2 ((zgi (zsi cn 2 ((zgi cn 2) + 1)) 2) + 1)))) ov w' c s)))))))))))))))))))))) : Zr sc 140 0 [zp a0, zj x1, zj x2, zmk, zmk, zmk] [] w ov w' c s := by
  refine Zr_st (q := (1, [zp a0, zj x1, zj x2, zmk, zmk, zmk], [zp a0])) rfl rfl rfl ?_
  show Zr sc 140 1 [zp a0, zj x1, zj x2, zmk, zmk, zmk] [zp a0] w ov w' c s
  refine rl_gf rfl L0 rfl rfl ?_
  show Zr sc 140 4 [zp a0, zj x1, zj x2, zmk, zmk, zmk] [zj wy] w ov w' c s
  refine rl_ic rfl ?_
  show Zr sc 140 5 [zp a0, zj x1, zj x2, zmk, zmk, zmk] [zj 4, zj wy] w ov w' c s
  obtain ⟨hr_1, h⟩ := h
  refine Zr_br (p := 4 ≤ wy) rfl rfl (zcmp_j (cnd := .ge) hr_1.1 hr_1.2) (fun hp => ?_) (fun hp => ?_)
  · replace h := h.1 hp
    show Zr sc 140 71 [zp a0, zj x1, zj x2, zmk, zmk, zmk] [] w ov w' c s
    exact h
  · replace h := h.2 hp
    show Zr sc 140 8 [zp a0, zj x1, zj x2, zmk, zmk, zmk] [] w ov w' c s
    refine Zr_st (q := (9, [zp a0, zj x1, zj x2, zmk, zmk, zmk], [zp a0])) rfl rfl rfl ?_
    show Zr sc 140 9 [zp a0, zj x1, zj x2, zmk, zmk, zmk] [zp a0] w ov w' c s
    refine rl_gf rfl L0 rfl rfl ?_
    show Zr sc 140 12 [zp a0, zj x1, zj x2, zmk, zmk, zmk] [zp (a0 + 77)] w ov w' c s
    refine rl_ic rfl ?_
    show Zr sc 140 13 [zp a0, zj x1, zj x2, zmk, zmk, zmk] [zj 2, zp (a0 + 77)] w ov w' c s
    refine Zr_st (q := (14, [zp a0, zj x1, zj x2, zmk, zmk, zmk], [zj 2, zp (a0 + 77), zj 2, zp (a0 + 77)])) rfl rfl rfl ?_
    show Zr sc 140 14 [zp a0, zj x1, zj x2, zmk, zmk, zmk] [zj 2, zp (a0 + 77), zj 2, zp (a0 + 77)] w ov w' c s
    obtain ⟨hi_2, h⟩ := h
    refine rl_ia rfl L77 hi_2.1 hi_2.2.1 hi_2.2.2 ?_
    show Zr sc 140 15 [zp a0, zj x1, zj x2, zmk, zmk, zmk] [zj (zgi cn 2), zj 2, zp (a0 + 77)] w ov w' c s
    refine Zr_st (q := (16, [zp a0, zj x1, zj x2, zmk, zmk, zmk], [zj x1, zj (zgi cn 2), zj 2, zp (a0 + 77)])) rfl rfl rfl ?_
    show Zr sc 140 16 [zp a0, zj x1, zj x2, zmk, zmk, zmk] [zj x1, zj (zgi cn 2), zj 2, zp (a0 + 77)] w ov w' c s
    obtain ⟨hr_3, h⟩ := h
    refine Zr_b0 (p := x1 ≤ 0) rfl rfl (zcmp_0 (cnd := .le) hr_3) (fun hp => ?_) (fun hp => ?_)
    · replace h := h.1 hp
      show Zr sc 140 34 [zp a0, zj x1, zj x2, zmk, zmk, zmk] [zj (zgi cn 2), zj 2, zp (a0 + 77)] w ov w' c s
      refine rl_ic rfl ?_
      show Zr sc 140 35 [zp a0, zj x1, zj x2, zmk, zmk, zmk] [zj 0, zj (zgi cn 2), zj 2, zp (a0 + 77)] w ov w' c s
      refine rl_add rfl ?_
      show Zr sc 140 36 [zp a0, zj x1, zj x2, zmk, zmk, zmk] [zj ((zgi cn 2) + 0), zj 2, zp (a0 + 77)] w ov w' c s
      obtain ⟨hi_4, h⟩ := h
      refine rl_is rfl L77 hi_4.1 hi_4.2.1 hi_4.2.2 ?_
      show Zr sc 140 37 [zp a0, zj x1, zj x2, zmk, zmk, zmk] [] (w.set (a0 + 77) (za (zsi cn 2 ((zgi cn 2) + 0)))) ov w' c s
      refine Zr_st (q := (38, [zp a0, zj x1, zj x2, zmk, zmk, zmk], [zp a0])) rfl rfl rfl ?_
      show Zr sc 140 38 [zp a0, zj x1, zj x2, zmk, zmk, zmk] [zp a0] (w.set (a0 + 77) (za (zsi cn 2 ((zgi cn 2) + 0)))) ov w' c s
      refine rl_gf rfl (zw_o (by omega) L0) rfl rfl ?_
      show Zr sc 140 41 [zp a0, zj x1, zj x2, zmk, zmk, zmk] [zp (a0 + 77)] (w.set (a0 + 77) (za (zsi cn 2 ((zgi cn 2) + 0)))) ov w' c s
      refine rl_ic rfl ?_
      show Zr sc 140 42 [zp a0, zj x1, zj x2, zmk, zmk, zmk] [zj 2, zp (a0 + 77)] (w.set (a0 + 77) (za (zsi cn 2 ((zgi cn 2) + 0)))) ov w' c s
      refine Zr_st (q := (43, [zp a0, zj x1, zj x2, zmk, zmk, zmk], [zj 2, zp (a0 + 77), zj 2, zp (a0 + 77)])) rfl rfl rfl ?_
      show Zr sc 140 43 [zp a0, zj x1, zj x2, zmk, zmk, zmk] [zj 2, zp (a0 + 77), zj 2, zp (a0 + 77)] (w.set (a0 + 77) (za (zsi cn 2 ((zgi cn 2) + 0)))) ov w' c s
      obtain ⟨hi_5, h⟩ := h
      refine rl_ia rfl (zw_s L77) hi_5.1 hi_5.2.1 hi_5.2.2 ?_
      show Zr sc 140 44 [zp a0, zj x1, zj x2, zmk, zmk, zmk] [zj (zgi (zsi cn 2 ((zgi cn 2) + 0)) 2), zj 2, zp (a0 + 77)] (w.set (a0 + 77) (za (zsi cn 2 ((zgi cn 2) + 0)))) ov w' c s
      refine Zr_st (q := (45, [zp a0, zj x1, zj x2, zmk, zmk, zmk], [zj x1, zj (zgi (zsi cn 2 ((zgi cn 2) + 0)) 2), zj 2, zp (a0 + 77)])) rfl rfl rfl ?_
      show Zr sc 140 45 [zp a0, zj x1, zj x2, zmk, zmk, zmk] [zj x1, zj (zgi (zsi cn 2 ((zgi cn 2) + 0)) 2), zj 2, zp (a0 + 77)] (w.set (a0 + 77) (za (zsi cn 2 ((zgi cn 2) + 0)))) ov w' c s
      refine Zr_st (q := (46, [zp a0, zj x1, zj x2, zmk, zmk, zmk], [zj x2, zj x1, zj (zgi (zsi cn 2 ((zgi cn 2) + 0)) 2), zj 2, zp (a0 + 77)])) rfl rfl rfl ?_
      show Zr sc 140 46 [zp a0, zj x1, zj x2, zmk, zmk, zmk] [zj x2, zj x1, zj (zgi (zsi cn 2 ((zgi cn 2) + 0)) 2), zj 2, zp (a0 + 77)] (w.set (a0 + 77) (za (zsi cn 2 ((zgi cn 2) + 0)))) ov w' c s
      refine rl_add rfl ?_
      show Zr sc 140 47 [zp a0, zj x1, zj x2, zmk, zmk, zmk] [zj (x1 + x2), zj (zgi (zsi cn 2 ((zgi cn 2) + 0)) 2), zj 2, zp (a0 + 77)] (w.set (a0 + 77) (za (zsi cn 2 ((zgi cn 2) + 0)))) ov w' c s
      refine rl_si rfl (by decide) ?_
      show Zr sc 140 50 [zp a0, zj x1, zj x2, zmk, zmk, zmk] [zj 1024, zj (x1 + x2), zj (zgi (zsi cn 2 ((zgi cn 2) + 0)) 2), zj 2, zp (a0 + 77)] (w.set (a0 + 77) (za (zsi cn 2 ((zgi cn 2) + 0)))) ov w' c s
      obtain ⟨hr_6, h⟩ := h
      refine Zr_br (p := 1024 ≤ (x1 + x2)) rfl rfl (zcmp_j (cnd := .ge) hr_6.1 hr_6.2) (fun hp => ?_) (fun hp => ?_)
      · replace h := h.1 hp
        show Zr sc 140 68 [zp a0, zj x1, zj x2, zmk, zmk, zmk] [zj (zgi (zsi cn 2 ((zgi cn 2) + 0)) 2), zj 2, zp (a0 + 77)] (w.set (a0 + 77) (za (zsi cn 2 ((zgi cn 2) + 0)))) ov w' c s
        refine rl_ic rfl ?_
        show Zr sc 140 69 [zp a0, zj x1, zj x2, zmk, zmk, zmk] [zj 0, zj (zgi (zsi cn 2 ((zgi cn 2) + 0)) 2), zj 2, zp (a0 + 77)] (w.set (a0 + 77) (za (zsi cn 2 ((zgi cn 2) + 0)))) ov w' c s
        refine rl_add rfl ?_
        show Zr sc 140 70 [zp a0, zj x1, zj x2, zmk, zmk, zmk] [zj ((zgi (zsi cn 2 ((zgi cn 2) + 0)) 2) + 0), zj 2, zp (a0 + 77)] (w.set (a0 + 77) (za (zsi cn 2 ((zgi cn 2) + 0)))) ov w' c s
        obtain ⟨hi_7, h⟩ := h
        refine rl_is rfl (zw_s L77) hi_7.1 hi_7.2.1 hi_7.2.2 ?_
        show Zr sc 140 71 [zp a0, zj x1, zj x2, zmk, zmk, zmk] [] ((w.set (a0 + 77) (za (zsi cn 2 ((zgi cn 2) + 0)))).set (a0 + 77) (za (zsi (zsi cn 2 ((zgi cn 2) + 0)) 2 ((zgi (zsi cn 2 ((zgi cn 2) + 0)) 2) + 0)))) ov w' c s
        exact h
      · replace h := h.2 hp
        show Zr sc 140 53 [zp a0, zj x1, zj x2, zmk, zmk, zmk] [zj (zgi (zsi cn 2 ((zgi cn 2) + 0)) 2), zj 2, zp (a0 + 77)] (w.set (a0 + 77) (za (zsi cn 2 ((zgi cn 2) + 0)))) ov w' c s
        refine Zr_st (q := (54, [zp a0, zj x1, zj x2, zmk, zmk, zmk], [zp a0, zj (zgi (zsi cn 2 ((zgi cn 2) + 0)) 2), zj 2, zp (a0 + 77)])) rfl rfl rfl ?_
        show Zr sc 140 54 [zp a0, zj x1, zj x2, zmk, zmk, zmk] [zp a0, zj (zgi (zsi cn 2 ((zgi cn 2) + 0)) 2), zj 2, zp (a0 + 77)] (w.set (a0 + 77) (za (zsi cn 2 ((zgi cn 2) + 0)))) ov w' c s
        refine rl_gf rfl (zw_o (by omega) L0) rfl rfl ?_
        show Zr sc 140 57 [zp a0, zj x1, zj x2, zmk, zmk, zmk] [zp (a0 + 73), zj (zgi (zsi cn 2 ((zgi cn 2) + 0)) 2), zj 2, zp (a0 + 77)] (w.set (a0 + 77) (za (zsi cn 2 ((zgi cn 2) + 0)))) ov w' c s
        refine Zr_st (q := (58, [zp a0, zj x1, zj x2, zmk, zmk, zmk], [zj x1, zp (a0 + 73), zj (zgi (zsi cn 2 ((zgi cn 2) + 0)) 2), zj 2, zp (a0 + 77)])) rfl rfl rfl ?_
        show Zr sc 140 58 [zp a0, zj x1, zj x2, zmk, zmk, zmk] [zj x1, zp (a0 + 73), zj (zgi (zsi cn 2 ((zgi cn 2) + 0)) 2), zj 2, zp (a0 + 77)] (w.set (a0 + 77) (za (zsi cn 2 ((zgi cn 2) + 0)))) ov w' c s
        refine Zr_st (q := (59, [zp a0, zj x1, zj x2, zmk, zmk, zmk], [zj x2, zj x1, zp (a0 + 73), zj (zgi (zsi cn 2 ((zgi cn 2) + 0)) 2), zj 2, zp (a0 + 77)])) rfl rfl rfl ?_
        show Zr sc 140 59 [zp a0, zj x1, zj x2, zmk, zmk, zmk] [zj x2, zj x1, zp (a0 + 73), zj (zgi (zsi cn 2 ((zgi cn 2) + 0)) 2), zj 2, zp (a0 + 77)] (w.set (a0 + 77) (za (zsi cn 2 ((zgi cn 2) + 0)))) ov w' c s
        refine rl_add rfl ?_
        show Zr sc 140 60 [zp a0, zj x1, zj x2, zmk, zmk, zmk] [zj (x1 + x2), zp (a0 + 73), zj (zgi (zsi cn 2 ((zgi cn 2) + 0)) 2), zj 2, zp (a0 + 77)] (w.set (a0 + 77) (za (zsi cn 2 ((zgi cn 2) + 0)))) ov w' c s
        obtain ⟨hi_8, h⟩ := h
        refine rl_ia rfl (zw_o (by omega) L73) hi_8.1 hi_8.2.1 hi_8.2.2 ?_
        show Zr sc 140 61 [zp a0, zj x1, zj x2, zmk, zmk, zmk] [zj (zgi ow (x1 + x2)), zj (zgi (zsi cn 2 ((zgi cn 2) + 0)) 2), zj 2, zp (a0 + 77)] (w.set (a0 + 77) (za (zsi cn 2 ((zgi cn 2) + 0)))) ov w' c s
        obtain ⟨hr_9, h⟩ := h
        refine Zr_b0 (p := 0 ≤ (zgi ow (x1 + x2))) rfl rfl (zcmp_0 (cnd := .ge) hr_9) (fun hp => ?_) (fun hp => ?_)
        · replace h := h.1 hp
          show Zr sc 140 68 [zp a0, zj x1, zj x2, zmk, zmk, zmk] [zj (zgi (zsi cn 2 ((zgi cn 2) + 0)) 2), zj 2, zp (a0 + 77)] (w.set (a0 + 77) (za (zsi cn 2 ((zgi cn 2) + 0)))) ov w' c s
          refine rl_ic rfl ?_
          show Zr sc 140 69 [zp a0, zj x1, zj x2, zmk, zmk, zmk] [zj 0, zj (zgi (zsi cn 2 ((zgi cn 2) + 0)) 2), zj 2, zp (a0 + 77)] (w.set (a0 + 77) (za (zsi cn 2 ((zgi cn 2) + 0)))) ov w' c s
          refine rl_add rfl ?_
          show Zr sc 140 70 [zp a0, zj x1, zj x2, zmk, zmk, zmk] [zj ((zgi (zsi cn 2 ((zgi cn 2) + 0)) 2) + 0), zj 2, zp (a0 + 77)] (w.set (a0 + 77) (za (zsi cn 2 ((zgi cn 2) + 0)))) ov w' c s
          obtain ⟨hi_10, h⟩ := h
          refine rl_is rfl (zw_s L77) hi_10.1 hi_10.2.1 hi_10.2.2 ?_
          show Zr sc 140 71 [zp a0, zj x1, zj x2, zmk, zmk, zmk] [] ((w.set (a0 + 77) (za (zsi cn 2 ((zgi cn 2) + 0)))).set (a0 + 77) (za (zsi (zsi cn 2 ((zgi cn 2) + 0)) 2 ((zgi (zsi cn 2 ((zgi cn 2) + 0)) 2) + 0)))) ov w' c s
          exact h
        · replace h := h.2 hp
          show Zr sc 140 64 [zp a0, zj x1, zj x2, zmk, zmk, zmk] [zj (zgi (zsi cn 2 ((zgi cn 2) + 0)) 2), zj 2, zp (a0 + 77)] (w.set (a0 + 77) (za (zsi cn 2 ((zgi cn 2) + 0)))) ov w' c s
          refine rl_ic rfl ?_
          show Zr sc 140 65 [zp a0, zj x1, zj x2, zmk, zmk, zmk] [zj 1, zj (zgi (zsi cn 2 ((zgi cn 2) + 0)) 2), zj 2, zp (a0 + 77)] (w.set (a0 + 77) (za (zsi cn 2 ((zgi cn 2) + 0)))) ov w' c s
          refine Zr_st (q := (69, [zp a0, zj x1, zj x2, zmk, zmk, zmk], [zj 1, zj (zgi (zsi cn 2 ((zgi cn 2) + 0)) 2), zj 2, zp (a0 + 77)])) rfl rfl rfl ?_
          show Zr sc 140 69 [zp a0, zj x1, zj x2, zmk, zmk, zmk] [zj 1, zj (zgi (zsi cn 2 ((zgi cn 2) + 0)) 2), zj 2, zp (a0 + 77)] (w.set (a0 + 77) (za (zsi cn 2 ((zgi cn 2) + 0)))) ov w' c s
          refine rl_add rfl ?_
          show Zr sc 140 70 [zp a0, zj x1, zj x2, zmk, zmk, zmk] [zj ((zgi (zsi cn 2 ((zgi cn 2) + 0)) 2) + 1), zj 2, zp (a0 + 77)] (w.set (a0 + 77) (za (zsi cn 2 ((zgi cn 2) + 0)))) ov w' c s
          obtain ⟨hi_11, h⟩ := h
          refine rl_is rfl (zw_s L77) hi_11.1 hi_11.2.1 hi_11.2.2 ?_
          show Zr sc 140 71 [zp a0, zj x1, zj x2, zmk, zmk, zmk] [] ((w.set (a0 + 77) (za (zsi cn 2 ((zgi cn 2) + 0)))).set (a0 + 77) (za (zsi (zsi cn 2 ((zgi cn 2) + 0)) 2 ((zgi (zsi cn 2 ((zgi cn 2) + 0)) 2) + 1)))) ov w' c s
          exact h
    · replace h := h.2 hp
      show Zr sc 140 19 [zp a0, zj x1, zj x2, zmk, zmk, zmk] [zj (zgi cn 2), zj 2, zp (a0 + 77)] w ov w' c s
      refine Zr_st (q := (20, [zp a0, zj x1, zj x2, zmk, zmk, zmk], [zp a0, zj (zgi cn 2), zj 2, zp (a0 + 77)])) rfl rfl rfl ?_
      show Zr sc 140 20 [zp a0, zj x1, zj x2, zmk, zmk, zmk] [zp a0, zj (zgi cn 2), zj 2, zp (a0 + 77)] w ov w' c s
      refine rl_gf rfl L0 rfl rfl ?_
      show Zr sc 140 23 [zp a0, zj x1, zj x2, zmk, zmk, zmk] [zp (a0 + 73), zj (zgi cn 2), zj 2, zp (a0 + 77)] w ov w' c s
      refine Zr_st (q := (24, [zp a0, zj x1, zj x2, zmk, zmk, zmk], [zj x1, zp (a0 + 73), zj (zgi cn 2), zj 2, zp (a0 + 77)])) rfl rfl rfl ?_
      show Zr sc 140 24 [zp a0, zj x1, zj x2, zmk, zmk, zmk] [zj x1, zp (a0 + 73), zj (zgi cn 2), zj 2, zp (a0 + 77)] w ov w' c s
      refine rl_ic rfl ?_
      show Zr sc 140 25 [zp a0, zj x1, zj x2, zmk, zmk, zmk] [zj 1, zj x1, zp (a0 + 73), zj (zgi cn 2), zj 2, zp (a0 + 77)] w ov w' c s
      refine rl_sub rfl ?_
      show Zr sc 140 26 [zp a0, zj x1, zj x2, zmk, zmk, zmk] [zj (x1 - 1), zp (a0 + 73), zj (zgi cn 2), zj 2, zp (a0 + 77)] w ov w' c s
      obtain ⟨hi_12, h⟩ := h
      refine rl_ia rfl L73 hi_12.1 hi_12.2.1 hi_12.2.2 ?_
      show Zr sc 140 27 [zp a0, zj x1, zj x2, zmk, zmk, zmk] [zj (zgi ow (x1 - 1)), zj (zgi cn 2), zj 2, zp (a0 + 77)] w ov w' c s
      obtain ⟨hr_13, h⟩ := h
      refine Zr_b0 (p := 0 ≤ (zgi ow (x1 - 1))) rfl rfl (zcmp_0 (cnd := .ge) hr_13) (fun hp => ?_) (fun hp => ?_)
      · replace h := h.1 hp
        show Zr sc 140 34 [zp a0, zj x1, zj x2, zmk, zmk, zmk] [zj (zgi cn 2), zj 2, zp (a0 + 77)] w ov w' c s
        refine rl_ic rfl ?_
        show Zr sc 140 35 [zp a0, zj x1, zj x2, zmk, zmk, zmk] [zj 0, zj (zgi cn 2), zj 2, zp (a0 + 77)] w ov w' c s
        refine rl_add rfl ?_
        show Zr sc 140 36 [zp a0, zj x1, zj x2, zmk, zmk, zmk] [zj ((zgi cn 2) + 0), zj 2, zp (a0 + 77)] w ov w' c s
        obtain ⟨hi_14, h⟩ := h
        refine rl_is rfl L77 hi_14.1 hi_14.2.1 hi_14.2.2 ?_
        show Zr sc 140 37 [zp a0, zj x1, zj x2, zmk, zmk, zmk] [] (w.set (a0 + 77) (za (zsi cn 2 ((zgi cn 2) + 0)))) ov w' c s
        refine Zr_st (q := (38, [zp a0, zj x1, zj x2, zmk, zmk, zmk], [zp a0])) rfl rfl rfl ?_
        show Zr sc 140 38 [zp a0, zj x1, zj x2, zmk, zmk, zmk] [zp a0] (w.set (a0 + 77) (za (zsi cn 2 ((zgi cn 2) + 0)))) ov w' c s
        refine rl_gf rfl (zw_o (by omega) L0) rfl rfl ?_
        show Zr sc 140 41 [zp a0, zj x1, zj x2, zmk, zmk, zmk] [zp (a0 + 77)] (w.set (a0 + 77) (za (zsi cn 2 ((zgi cn 2) + 0)))) ov w' c s
        refine rl_ic rfl ?_
        show Zr sc 140 42 [zp a0, zj x1, zj x2, zmk, zmk, zmk] [zj 2, zp (a0 + 77)] (w.set (a0 + 77) (za (zsi cn 2 ((zgi cn 2) + 0)))) ov w' c s
        refine Zr_st (q := (43, [zp a0, zj x1, zj x2, zmk, zmk, zmk], [zj 2, zp (a0 + 77), zj 2, zp (a0 + 77)])) rfl rfl rfl ?_
        show Zr sc 140 43 [zp a0, zj x1, zj x2, zmk, zmk, zmk] [zj 2, zp (a0 + 77), zj 2, zp (a0 + 77)] (w.set (a0 + 77) (za (zsi cn 2 ((zgi cn 2) + 0)))) ov w' c s
        obtain ⟨hi_15, h⟩ := h
        refine rl_ia rfl (zw_s L77) hi_15.1 hi_15.2.1 hi_15.2.2 ?_
        show Zr sc 140 44 [zp a0, zj x1, zj x2, zmk, zmk, zmk] [zj (zgi (zsi cn 2 ((zgi cn 2) + 0)) 2), zj 2, zp (a0 + 77)] (w.set (a0 + 77) (za (zsi cn 2 ((zgi cn 2) + 0)))) ov w' c s
        refine Zr_st (q := (45, [zp a0, zj x1, zj x2, zmk, zmk, zmk], [zj x1, zj (zgi (zsi cn 2 ((zgi cn 2) + 0)) 2), zj 2, zp (a0 + 77)])) rfl rfl rfl ?_
        show Zr sc 140 45 [zp a0, zj x1, zj x2, zmk, zmk, zmk] [zj x1, zj (zgi (zsi cn 2 ((zgi cn 2) + 0)) 2), zj 2, zp (a0 + 77)] (w.set (a0 + 77) (za (zsi cn 2 ((zgi cn 2) + 0)))) ov w' c s
        refine Zr_st (q := (46, [zp a0, zj x1, zj x2, zmk, zmk, zmk], [zj x2, zj x1, zj (zgi (zsi cn 2 ((zgi cn 2) + 0)) 2), zj 2, zp (a0 + 77)])) rfl rfl rfl ?_
        show Zr sc 140 46 [zp a0, zj x1, zj x2, zmk, zmk, zmk] [zj x2, zj x1, zj (zgi (zsi cn 2 ((zgi cn 2) + 0)) 2), zj 2, zp (a0 + 77)] (w.set (a0 + 77) (za (zsi cn 2 ((zgi cn 2) + 0)))) ov w' c s
        refine rl_add rfl ?_
        show Zr sc 140 47 [zp a0, zj x1, zj x2, zmk, zmk, zmk] [zj (x1 + x2), zj (zgi (zsi cn 2 ((zgi cn 2) + 0)) 2), zj 2, zp (a0 + 77)] (w.set (a0 + 77) (za (zsi cn 2 ((zgi cn 2) + 0)))) ov w' c s
        refine rl_si rfl (by decide) ?_
        show Zr sc 140 50 [zp a0, zj x1, zj x2, zmk, zmk, zmk] [zj 1024, zj (x1 + x2), zj (zgi (zsi cn 2 ((zgi cn 2) + 0)) 2), zj 2, zp (a0 + 77)] (w.set (a0 + 77) (za (zsi cn 2 ((zgi cn 2) + 0)))) ov w' c s
        obtain ⟨hr_16, h⟩ := h
        refine Zr_br (p := 1024 ≤ (x1 + x2)) rfl rfl (zcmp_j (cnd := .ge) hr_16.1 hr_16.2) (fun hp => ?_) (fun hp => ?_)
        · replace h := h.1 hp
          show Zr sc 140 68 [zp a0, zj x1, zj x2, zmk, zmk, zmk] [zj (zgi (zsi cn 2 ((zgi cn 2) + 0)) 2), zj 2, zp (a0 + 77)] (w.set (a0 + 77) (za (zsi cn 2 ((zgi cn 2) + 0)))) ov w' c s
          refine rl_ic rfl ?_
          show Zr sc 140 69 [zp a0, zj x1, zj x2, zmk, zmk, zmk] [zj 0, zj (zgi (zsi cn 2 ((zgi cn 2) + 0)) 2), zj 2, zp (a0 + 77)] (w.set (a0 + 77) (za (zsi cn 2 ((zgi cn 2) + 0)))) ov w' c s
          refine rl_add rfl ?_
          show Zr sc 140 70 [zp a0, zj x1, zj x2, zmk, zmk, zmk] [zj ((zgi (zsi cn 2 ((zgi cn 2) + 0)) 2) + 0), zj 2, zp (a0 + 77)] (w.set (a0 + 77) (za (zsi cn 2 ((zgi cn 2) + 0)))) ov w' c s
          obtain ⟨hi_17, h⟩ := h
          refine rl_is rfl (zw_s L77) hi_17.1 hi_17.2.1 hi_17.2.2 ?_
          show Zr sc 140 71 [zp a0, zj x1, zj x2, zmk, zmk, zmk] [] ((w.set (a0 + 77) (za (zsi cn 2 ((zgi cn 2) + 0)))).set (a0 + 77) (za (zsi (zsi cn 2 ((zgi cn 2) + 0)) 2 ((zgi (zsi cn 2 ((zgi cn 2) + 0)) 2) + 0)))) ov w' c s
          exact h
        · replace h := h.2 hp
          show Zr sc 140 53 [zp a0, zj x1, zj x2, zmk, zmk, zmk] [zj (zgi (zsi cn 2 ((zgi cn 2) + 0)) 2), zj 2, zp (a0 + 77)] (w.set (a0 + 77) (za (zsi cn 2 ((zgi cn 2) + 0)))) ov w' c s
          refine Zr_st (q := (54, [zp a0, zj x1, zj x2, zmk, zmk, zmk], [zp a0, zj (zgi (zsi cn 2 ((zgi cn 2) + 0)) 2), zj 2, zp (a0 + 77)])) rfl rfl rfl ?_
          show Zr sc 140 54 [zp a0, zj x1, zj x2, zmk, zmk, zmk] [zp a0, zj (zgi (zsi cn 2 ((zgi cn 2) + 0)) 2), zj 2, zp (a0 + 77)] (w.set (a0 + 77) (za (zsi cn 2 ((zgi cn 2) + 0)))) ov w' c s
          refine rl_gf rfl (zw_o (by omega) L0) rfl rfl ?_
          show Zr sc 140 57 [zp a0, zj x1, zj x2, zmk, zmk, zmk] [zp (a0 + 73), zj (zgi (zsi cn 2 ((zgi cn 2) + 0)) 2), zj 2, zp (a0 + 77)] (w.set (a0 + 77) (za (zsi cn 2 ((zgi cn 2) + 0)))) ov w' c s
          refine Zr_st (q := (58, [zp a0, zj x1, zj x2, zmk, zmk, zmk], [zj x1, zp (a0 + 73), zj (zgi (zsi cn 2 ((zgi cn 2) + 0)) 2), zj 2, zp (a0 + 77)])) rfl rfl rfl ?_
          show Zr sc 140 58 [zp a0, zj x1, zj x2, zmk, zmk, zmk] [zj x1, zp (a0 + 73), zj (zgi (zsi cn 2 ((zgi cn 2) + 0)) 2), zj 2, zp (a0 + 77)] (w.set (a0 + 77) (za (zsi cn 2 ((zgi cn 2) + 0)))) ov w' c s
          refine Zr_st (q := (59, [zp a0, zj x1, zj x2, zmk, zmk, zmk], [zj x2, zj x1, zp (a0 + 73), zj (zgi (zsi cn 2 ((zgi cn 2) + 0)) 2), zj 2, zp (a0 + 77)])) rfl rfl rfl ?_
          show Zr sc 140 59 [zp a0, zj x1, zj x2, zmk, zmk, zmk] [zj x2, zj x1, zp (a0 + 73), zj (zgi (zsi cn 2 ((zgi cn 2) + 0)) 2), zj 2, zp (a0 + 77)] (w.set (a0 + 77) (za (zsi cn 2 ((zgi cn 2) + 0)))) ov w' c s
          refine rl_add rfl ?_
          show Zr sc 140 60 [zp a0, zj x1, zj x2, zmk, zmk, zmk] [zj (x1 + x2), zp (a0 + 73), zj (zgi (zsi cn 2 ((zgi cn 2) + 0)) 2), zj 2, zp (a0 + 77)] (w.set (a0 + 77) (za (zsi cn 2 ((zgi cn 2) + 0)))) ov w' c s
          obtain ⟨hi_18, h⟩ := h
          refine rl_ia rfl (zw_o (by omega) L73) hi_18.1 hi_18.2.1 hi_18.2.2 ?_
          show Zr sc 140 61 [zp a0, zj x1, zj x2, zmk, zmk, zmk] [zj (zgi ow (x1 + x2)), zj (zgi (zsi cn 2 ((zgi cn 2) + 0)) 2), zj 2, zp (a0 + 77)] (w.set (a0 + 77) (za (zsi cn 2 ((zgi cn 2) + 0)))) ov w' c s
          obtain ⟨hr_19, h⟩ := h
          refine Zr_b0 (p := 0 ≤ (zgi ow (x1 + x2))) rfl rfl (zcmp_0 (cnd := .ge) hr_19) (fun hp => ?_) (fun hp => ?_)
          · replace h := h.1 hp
            show Zr sc 140 68 [zp a0, zj x1, zj x2, zmk, zmk, zmk] [zj (zgi (zsi cn 2 ((zgi cn 2) + 0)) 2), zj 2, zp (a0 + 77)] (w.set (a0 + 77) (za (zsi cn 2 ((zgi cn 2) + 0)))) ov w' c s
            refine rl_ic rfl ?_
            show Zr sc 140 69 [zp a0, zj x1, zj x2, zmk, zmk, zmk] [zj 0, zj (zgi (zsi cn 2 ((zgi cn 2) + 0)) 2), zj 2, zp (a0 + 77)] (w.set (a0 + 77) (za (zsi cn 2 ((zgi cn 2) + 0)))) ov w' c s
            refine rl_add rfl ?_
            show Zr sc 140 70 [zp a0, zj x1, zj x2, zmk, zmk, zmk] [zj ((zgi (zsi cn 2 ((zgi cn 2) + 0)) 2) + 0), zj 2, zp (a0 + 77)] (w.set (a0 + 77) (za (zsi cn 2 ((zgi cn 2) + 0)))) ov w' c s
            obtain ⟨hi_20, h⟩ := h
            refine rl_is rfl (zw_s L77) hi_20.1 hi_20.2.1 hi_20.2.2 ?_
            show Zr sc 140 71 [zp a0, zj x1, zj x2, zmk, zmk, zmk] [] ((w.set (a0 + 77) (za (zsi cn 2 ((zgi cn 2) + 0)))).set (a0 + 77) (za (zsi (zsi cn 2 ((zgi cn 2) + 0)) 2 ((zgi (zsi cn 2 ((zgi cn 2) + 0)) 2) + 0)))) ov w' c s
            exact h
          · replace h := h.2 hp
            show Zr sc 140 64 [zp a0, zj x1, zj x2, zmk, zmk, zmk] [zj (zgi (zsi cn 2 ((zgi cn 2) + 0)) 2), zj 2, zp (a0 + 77)] (w.set (a0 + 77) (za (zsi cn 2 ((zgi cn 2) + 0)))) ov w' c s
            refine rl_ic rfl ?_
            show Zr sc 140 65 [zp a0, zj x1, zj x2, zmk, zmk, zmk] [zj 1, zj (zgi (zsi cn 2 ((zgi cn 2) + 0)) 2), zj 2, zp (a0 + 77)] (w.set (a0 + 77) (za (zsi cn 2 ((zgi cn 2) + 0)))) ov w' c s
            refine Zr_st (q := (69, [zp a0, zj x1, zj x2, zmk, zmk, zmk], [zj 1, zj (zgi (zsi cn 2 ((zgi cn 2) + 0)) 2), zj 2, zp (a0 + 77)])) rfl rfl rfl ?_
            show Zr sc 140 69 [zp a0, zj x1, zj x2, zmk, zmk, zmk] [zj 1, zj (zgi (zsi cn 2 ((zgi cn 2) + 0)) 2), zj 2, zp (a0 + 77)] (w.set (a0 + 77) (za (zsi cn 2 ((zgi cn 2) + 0)))) ov w' c s
            refine rl_add rfl ?_
            show Zr sc 140 70 [zp a0, zj x1, zj x2, zmk, zmk, zmk] [zj ((zgi (zsi cn 2 ((zgi cn 2) + 0)) 2) + 1), zj 2, zp (a0 + 77)] (w.set (a0 + 77) (za (zsi cn 2 ((zgi cn 2) + 0)))) ov w' c s
            obtain ⟨hi_21, h⟩ := h
            refine rl_is rfl (zw_s L77) hi_21.1 hi_21.2.1 hi_21.2.2 ?_
            show Zr sc 140 71 [zp a0, zj x1, zj x2, zmk, zmk, zmk] [] ((w.set (a0 + 77) (za (zsi cn 2 ((zgi cn 2) + 0)))).set (a0 + 77) (za (zsi (zsi cn 2 ((zgi cn 2) + 0)) 2 ((zgi (zsi cn 2 ((zgi cn 2) + 0)) 2) + 1)))) ov w' c s
            exact h
      · replace h := h.2 hp
        show Zr sc 140 30 [zp a0, zj x1, zj x2, zmk, zmk, zmk] [zj (zgi cn 2), zj 2, zp (a0 + 77)] w ov w' c s
        refine rl_ic rfl ?_
        show Zr sc 140 31 [zp a0, zj x1, zj x2, zmk, zmk, zmk] [zj 1, zj (zgi cn 2), zj 2, zp (a0 + 77)] w ov w' c s
        refine Zr_st (q := (35, [zp a0, zj x1, zj x2, zmk, zmk, zmk], [zj 1, zj (zgi cn 2), zj 2, zp (a0 + 77)])) rfl rfl rfl ?_
        show Zr sc 140 35 [zp a0, zj x1, zj x2, zmk, zmk, zmk] [zj 1, zj (zgi cn 2), zj 2, zp (a0 + 77)] w ov w' c s
        refine rl_add rfl ?_
        show Zr sc 140 36 [zp a0, zj x1, zj x2, zmk, zmk, zmk] [zj ((zgi cn 2) + 1), zj 2, zp (a0 + 77)] w ov w' c s
        obtain ⟨hi_22, h⟩ := h
        refine rl_is rfl L77 hi_22.1 hi_22.2.1 hi_22.2.2 ?_
        show Zr sc 140 37 [zp a0, zj x1, zj x2, zmk, zmk, zmk] [] (w.set (a0 + 77) (za (zsi cn 2 ((zgi cn 2) + 1)))) ov w' c s
        refine Zr_st (q := (38, [zp a0, zj x1, zj x2, zmk, zmk, zmk], [zp a0])) rfl rfl rfl ?_
        show Zr sc 140 38 [zp a0, zj x1, zj x2, zmk, zmk, zmk] [zp a0] (w.set (a0 + 77) (za (zsi cn 2 ((zgi cn 2) + 1)))) ov w' c s
        refine rl_gf rfl (zw_o (by omega) L0) rfl rfl ?_
        show Zr sc 140 41 [zp a0, zj x1, zj x2, zmk, zmk, zmk] [zp (a0 + 77)] (w.set (a0 + 77) (za (zsi cn 2 ((zgi cn 2) + 1)))) ov w' c s
        refine rl_ic rfl ?_
        show Zr sc 140 42 [zp a0, zj x1, zj x2, zmk, zmk, zmk] [zj 2, zp (a0 + 77)] (w.set (a0 + 77) (za (zsi cn 2 ((zgi cn 2) + 1)))) ov w' c s
        refine Zr_st (q := (43, [zp a0, zj x1, zj x2, zmk, zmk, zmk], [zj 2, zp (a0 + 77), zj 2, zp (a0 + 77)])) rfl rfl rfl ?_
        show Zr sc 140 43 [zp a0, zj x1, zj x2, zmk, zmk, zmk] [zj 2, zp (a0 + 77), zj 2, zp (a0 + 77)] (w.set (a0 + 77) (za (zsi cn 2 ((zgi cn 2) + 1)))) ov w' c s
        obtain ⟨hi_23, h⟩ := h
        refine rl_ia rfl (zw_s L77) hi_23.1 hi_23.2.1 hi_23.2.2 ?_
        show Zr sc 140 44 [zp a0, zj x1, zj x2, zmk, zmk, zmk] [zj (zgi (zsi cn 2 ((zgi cn 2) + 1)) 2), zj 2, zp (a0 + 77)] (w.set (a0 + 77) (za (zsi cn 2 ((zgi cn 2) + 1)))) ov w' c s
        refine Zr_st (q := (45, [zp a0, zj x1, zj x2, zmk, zmk, zmk], [zj x1, zj (zgi (zsi cn 2 ((zgi cn 2) + 1)) 2), zj 2, zp (a0 + 77)])) rfl rfl rfl ?_
        show Zr sc 140 45 [zp a0, zj x1, zj x2, zmk, zmk, zmk] [zj x1, zj (zgi (zsi cn 2 ((zgi cn 2) + 1)) 2), zj 2, zp (a0 + 77)] (w.set (a0 + 77) (za (zsi cn 2 ((zgi cn 2) + 1)))) ov w' c s
        refine Zr_st (q := (46, [zp a0, zj x1, zj x2, zmk, zmk, zmk], [zj x2, zj x1, zj (zgi (zsi cn 2 ((zgi cn 2) + 1)) 2), zj 2, zp (a0 + 77)])) rfl rfl rfl ?_
        show Zr sc 140 46 [zp a0, zj x1, zj x2, zmk, zmk, zmk] [zj x2, zj x1, zj (zgi (zsi cn 2 ((zgi cn 2) + 1)) 2), zj 2, zp (a0 + 77)] (w.set (a0 + 77) (za (zsi cn 2 ((zgi cn 2) + 1)))) ov w' c s
        refine rl_add rfl ?_
        show Zr sc 140 47 [zp a0, zj x1, zj x2, zmk, zmk, zmk] [zj (x1 + x2), zj (zgi (zsi cn 2 ((zgi cn 2) + 1)) 2), zj 2, zp (a0 + 77)] (w.set (a0 + 77) (za (zsi cn 2 ((zgi cn 2) + 1)))) ov w' c s
        refine rl_si rfl (by decide) ?_
        show Zr sc 140 50 [zp a0, zj x1, zj x2, zmk, zmk, zmk] [zj 1024, zj (x1 + x2), zj (zgi (zsi cn 2 ((zgi cn 2) + 1)) 2), zj 2, zp (a0 + 77)] (w.set (a0 + 77) (za (zsi cn 2 ((zgi cn 2) + 1)))) ov w' c s
        obtain ⟨hr_24, h⟩ := h
        refine Zr_br (p := 1024 ≤ (x1 + x2)) rfl rfl (zcmp_j (cnd := .ge) hr_24.1 hr_24.2) (fun hp => ?_) (fun hp => ?_)
        · replace h := h.1 hp
          show Zr sc 140 68 [zp a0, zj x1, zj x2, zmk, zmk, zmk] [zj (zgi (zsi cn 2 ((zgi cn 2) + 1)) 2), zj 2, zp (a0 + 77)] (w.set (a0 + 77) (za (zsi cn 2 ((zgi cn 2) + 1)))) ov w' c s
          refine rl_ic rfl ?_
          show Zr sc 140 69 [zp a0, zj x1, zj x2, zmk, zmk, zmk] [zj 0, zj (zgi (zsi cn 2 ((zgi cn 2) + 1)) 2), zj 2, zp (a0 + 77)] (w.set (a0 + 77) (za (zsi cn 2 ((zgi cn 2) + 1)))) ov w' c s
          refine rl_add rfl ?_
          show Zr sc 140 70 [zp a0, zj x1, zj x2, zmk, zmk, zmk] [zj ((zgi (zsi cn 2 ((zgi cn 2) + 1)) 2) + 0), zj 2, zp (a0 + 77)] (w.set (a0 + 77) (za (zsi cn 2 ((zgi cn 2) + 1)))) ov w' c s
          obtain ⟨hi_25, h⟩ := h
          refine rl_is rfl (zw_s L77) hi_25.1 hi_25.2.1 hi_25.2.2 ?_
          show Zr sc 140 71 [zp a0, zj x1, zj x2, zmk, zmk, zmk] [] ((w.set (a0 + 77) (za (zsi cn 2 ((zgi cn 2) + 1)))).set (a0 + 77) (za (zsi (zsi cn 2 ((zgi cn 2) + 1)) 2 ((zgi (zsi cn 2 ((zgi cn 2) + 1)) 2) + 0)))) ov w' c s
          exact h
        · replace h := h.2 hp
          show Zr sc 140 53 [zp a0, zj x1, zj x2, zmk, zmk, zmk] [zj (zgi (zsi cn 2 ((zgi cn 2) + 1)) 2), zj 2, zp (a0 + 77)] (w.set (a0 + 77) (za (zsi cn 2 ((zgi cn 2) + 1)))) ov w' c s
          refine Zr_st (q := (54, [zp a0, zj x1, zj x2, zmk, zmk, zmk], [zp a0, zj (zgi (zsi cn 2 ((zgi cn 2) + 1)) 2), zj 2, zp (a0 + 77)])) rfl rfl rfl ?_
          show Zr sc 140 54 [zp a0, zj x1, zj x2, zmk, zmk, zmk] [zp a0, zj (zgi (zsi cn 2 ((zgi cn 2) + 1)) 2), zj 2, zp (a0 + 77)] (w.set (a0 + 77) (za (zsi cn 2 ((zgi cn 2) + 1)))) ov w' c s
          refine rl_gf rfl (zw_o (by omega) L0) rfl rfl ?_
          show Zr sc 140 57 [zp a0, zj x1, zj x2, zmk, zmk, zmk] [zp (a0 + 73), zj (zgi (zsi cn 2 ((zgi cn 2) + 1)) 2), zj 2, zp (a0 + 77)] (w.set (a0 + 77) (za (zsi cn 2 ((zgi cn 2) + 1)))) ov w' c s
          refine Zr_st (q := (58, [zp a0, zj x1, zj x2, zmk, zmk, zmk], [zj x1, zp (a0 + 73), zj (zgi (zsi cn 2 ((zgi cn 2) + 1)) 2), zj 2, zp (a0 + 77)])) rfl rfl rfl ?_
          show Zr sc 140 58 [zp a0, zj x1, zj x2, zmk, zmk, zmk] [zj x1, zp (a0 + 73), zj (zgi (zsi cn 2 ((zgi cn 2) + 1)) 2), zj 2, zp (a0 + 77)] (w.set (a0 + 77) (za (zsi cn 2 ((zgi cn 2) + 1)))) ov w' c s
          refine Zr_st (q := (59, [zp a0, zj x1, zj x2, zmk, zmk, zmk], [zj x2, zj x1, zp (a0 + 73), zj (zgi (zsi cn 2 ((zgi cn 2) + 1)) 2), zj 2, zp (a0 + 77)])) rfl rfl rfl ?_
          show Zr sc 140 59 [zp a0, zj x1, zj x2, zmk, zmk, zmk] [zj x2, zj x1, zp (a0 + 73), zj (zgi (zsi cn 2 ((zgi cn 2) + 1)) 2), zj 2, zp (a0 + 77)] (w.set (a0 + 77) (za (zsi cn 2 ((zgi cn 2) + 1)))) ov w' c s
          refine rl_add rfl ?_
          show Zr sc 140 60 [zp a0, zj x1, zj x2, zmk, zmk, zmk] [zj (x1 + x2), zp (a0 + 73), zj (zgi (zsi cn 2 ((zgi cn 2) + 1)) 2), zj 2, zp (a0 + 77)] (w.set (a0 + 77) (za (zsi cn 2 ((zgi cn 2) + 1)))) ov w' c s
          obtain ⟨hi_26, h⟩ := h
          refine rl_ia rfl (zw_o (by omega) L73) hi_26.1 hi_26.2.1 hi_26.2.2 ?_
          show Zr sc 140 61 [zp a0, zj x1, zj x2, zmk, zmk, zmk] [zj (zgi ow (x1 + x2)), zj (zgi (zsi cn 2 ((zgi cn 2) + 1)) 2), zj 2, zp (a0 + 77)] (w.set (a0 + 77) (za (zsi cn 2 ((zgi cn 2) + 1)))) ov w' c s
          obtain ⟨hr_27, h⟩ := h
          refine Zr_b0 (p := 0 ≤ (zgi ow (x1 + x2))) rfl rfl (zcmp_0 (cnd := .ge) hr_27) (fun hp => ?_) (fun hp => ?_)
          · replace h := h.1 hp
            show Zr sc 140 68 [zp a0, zj x1, zj x2, zmk, zmk, zmk] [zj (zgi (zsi cn 2 ((zgi cn 2) + 1)) 2), zj 2, zp (a0 + 77)] (w.set (a0 + 77) (za (zsi cn 2 ((zgi cn 2) + 1)))) ov w' c s
            refine rl_ic rfl ?_
            show Zr sc 140 69 [zp a0, zj x1, zj x2, zmk, zmk, zmk] [zj 0, zj (zgi (zsi cn 2 ((zgi cn 2) + 1)) 2), zj 2, zp (a0 + 77)] (w.set (a0 + 77) (za (zsi cn 2 ((zgi cn 2) + 1)))) ov w' c s
            refine rl_add rfl ?_
            show Zr sc 140 70 [zp a0, zj x1, zj x2, zmk, zmk, zmk] [zj ((zgi (zsi cn 2 ((zgi cn 2) + 1)) 2) + 0), zj 2, zp (a0 + 77)] (w.set (a0 + 77) (za (zsi cn 2 ((zgi cn 2) + 1)))) ov w' c s
            obtain ⟨hi_28, h⟩ := h
            refine rl_is rfl (zw_s L77) hi_28.1 hi_28.2.1 hi_28.2.2 ?_
            show Zr sc 140 71 [zp a0, zj x1, zj x2, zmk, zmk, zmk] [] ((w.set (a0 + 77) (za (zsi cn 2 ((zgi cn 2) + 1)))).set (a0 + 77) (za (zsi (zsi cn 2 ((zgi cn 2) + 1)) 2 ((zgi (zsi cn 2 ((zgi cn 2) + 1)) 2) + 0)))) ov w' c s
            exact h
          · replace h := h.2 hp
            show Zr sc 140 64 [zp a0, zj x1, zj x2, zmk, zmk, zmk] [zj (zgi (zsi cn 2 ((zgi cn 2) + 1)) 2), zj 2, zp (a0 + 77)] (w.set (a0 + 77) (za (zsi cn 2 ((zgi cn 2) + 1)))) ov w' c s
            refine rl_ic rfl ?_
            show Zr sc 140 65 [zp a0, zj x1, zj x2, zmk, zmk, zmk] [zj 1, zj (zgi (zsi cn 2 ((zgi cn 2) + 1)) 2), zj 2, zp (a0 + 77)] (w.set (a0 + 77) (za (zsi cn 2 ((zgi cn 2) + 1)))) ov w' c s
            refine Zr_st (q := (69, [zp a0, zj x1, zj x2, zmk, zmk, zmk], [zj 1, zj (zgi (zsi cn 2 ((zgi cn 2) + 1)) 2), zj 2, zp (a0 + 77)])) rfl rfl rfl ?_
            show Zr sc 140 69 [zp a0, zj x1, zj x2, zmk, zmk, zmk] [zj 1, zj (zgi (zsi cn 2 ((zgi cn 2) + 1)) 2), zj 2, zp (a0 + 77)] (w.set (a0 + 77) (za (zsi cn 2 ((zgi cn 2) + 1)))) ov w' c s
            refine rl_add rfl ?_
            show Zr sc 140 70 [zp a0, zj x1, zj x2, zmk, zmk, zmk] [zj ((zgi (zsi cn 2 ((zgi cn 2) + 1)) 2) + 1), zj 2, zp (a0 + 77)] (w.set (a0 + 77) (za (zsi cn 2 ((zgi cn 2) + 1)))) ov w' c s
            obtain ⟨hi_29, h⟩ := h
            refine rl_is rfl (zw_s L77) hi_29.1 hi_29.2.1 hi_29.2.2 ?_
            show Zr sc 140 71 [zp a0, zj x1, zj x2, zmk, zmk, zmk] [] ((w.set (a0 + 77) (za (zsi cn 2 ((zgi cn 2) + 1)))).set (a0 + 77) (za (zsi (zsi cn 2 ((zgi cn 2) + 1)) 2 ((zgi (zsi cn 2 ((zgi cn 2) + 1)) 2) + 1)))) ov w' c s
            exact h
set_option maxRecDepth 100000 in
theorem V140_71 {sc : List Value} {w w' : List zE} {ov : Option Value} {c s : Nat} {a0 : Nat} {x1 : Int} {x2 : Int} {dr : Int} {wy : Int} {st : Int} {hd : Int} {nm : Int} {ar : Int} {hn : Int} {pk : Int} {D : Nat} {tl : Int} (L0 : w[a0]? = some (zob 7 [zp (a0 + 1), .ref 0, zj dr, zj wy, zj st, zj hd, zp (a0 + 73), zj nm, zp (a0 + 74), zp (a0 + 75), zp (a0 + 76), zj ar, zj hn, zp (a0 + 77), zj pk, zp D, zj tl])) (h : (∃ w_1 : List zE, Zc sc 131 [zp a0, zj x1, zj x2, zj (-1)] w none w_1 0 0 ∧ Zr sc 140 83 [zp a0, zj x1, zj x2, zj x1, zj x2, zmk] [] w_1 ov w' c s)) : Zr sc 140 71 [zp a0, zj x1, zj x2, zmk, zmk, zmk] [] w ov w' c s := by
  refine Zr_st (q := (72, [zp a0, zj x1, zj x2, zmk, zmk, zmk], [zp a0])) rfl rfl rfl ?_
  show Zr sc 140 72 [zp a0, zj x1, zj x2, zmk, zmk, zmk] [zp a0] w ov w' c s
  refine Zr_st (q := (73, [zp a0, zj x1, zj x2, zmk, zmk, zmk], [zj x1, zp a0])) rfl rfl rfl ?_
  show Zr sc 140 73 [zp a0, zj x1, zj x2, zmk, zmk, zmk] [zj x1, zp a0] w ov w' c s
  refine Zr_st (q := (74, [zp a0, zj x1, zj x2, zmk, zmk, zmk], [zj x2, zj x1, zp a0])) rfl rfl rfl ?_
  show Zr sc 140 74 [zp a0, zj x1, zj x2, zmk, zmk, zmk] [zj x2, zj x1, zp a0] w ov w' c s
  refine rl_ic rfl ?_
  show Zr sc 140 75 [zp a0, zj x1, zj x2, zmk, zmk, zmk] [zj (-1), zj x2, zj x1, zp a0] w ov w' c s
  obtain ⟨w_1, hk_2, h⟩ := h
  refine rn_cal0 (ins := .invokevirtual 110) (rest := []) rfl rfl rfl rfl (zinv_v (fs := _) L0 rfl rfl rfl rfl) rfl rfl hk_2 ?_
  show Zr sc 140 78 [zp a0, zj x1, zj x2, zmk, zmk, zmk] [] w_1 ov w' c s
  refine Zr_st (q := (79, [zp a0, zj x1, zj x2, zmk, zmk, zmk], [zj x1])) rfl rfl rfl ?_
  show Zr sc 140 79 [zp a0, zj x1, zj x2, zmk, zmk, zmk] [zj x1] w_1 ov w' c s
  refine Zr_st (q := (80, [zp a0, zj x1, zj x2, zj x1, zmk, zmk], [])) rfl rfl rfl ?_
  show Zr sc 140 80 [zp a0, zj x1, zj x2, zj x1, zmk, zmk] [] w_1 ov w' c s
  refine Zr_st (q := (81, [zp a0, zj x1, zj x2, zj x1, zmk, zmk], [zj x2])) rfl rfl rfl ?_
  show Zr sc 140 81 [zp a0, zj x1, zj x2, zj x1, zmk, zmk] [zj x2] w_1 ov w' c s
  refine Zr_st (q := (83, [zp a0, zj x1, zj x2, zj x1, zj x2, zmk], [])) rfl rfl rfl ?_
  show Zr sc 140 83 [zp a0, zj x1, zj x2, zj x1, zj x2, zmk] [] w_1 ov w' c s
  exact h
set_option maxRecDepth 100000 in
theorem V140_83 {sc : List Value} {w w' : List zE} {ov : Option Value} {c s : Nat} {a0 : Nat} {x1 : Int} {x2 : Int} {x3 : Int} {x4 : Int} {v5 : Value} {dr : Int} {wy : Int} {st : Int} {hd : Int} {nm : Int} {ar : Int} {hn : Int} {pk : Int} {D : Nat} {tl : Int} {cn : List Int} (L0 : w[a0]? = some (zob 7 [zp (a0 + 1), .ref 0, zj dr, zj wy, zj st, zj hd, zp (a0 + 73), zj nm, zp (a0 + 74), zp (a0 + 75), zp (a0 + 76), zj ar, zj hn, zp (a0 + 77), zj pk, zp D, zj tl])) (L77 : w[(a0 + 77)]? = some (za cn)) (h : ((zrg wy ∧ zrg 4) ∧ ((wy ≠ 4 → Zr sc 140 161 [zp a0, zj x1, zj x2, zj x3, zj x4, v5] [] w ov w' c s) ∧ (¬ (wy ≠ 4) → ((zrg x4 ∧ zrg 1024) ∧ ((1024 ≤ x4 → Zr sc 140 161 [zp a0, zj x1, zj x2, zj x3, zj x4, v5] [] w ov w' c s) ∧ (¬ (1024 ≤ x4) → (((0 : Int) ≤ x3 ∧ x3 ≤ (2147483647 : Int) ∧ (0 : Int) < x4 ∧ x4 ≤ (2147483647 : Int)) ∧ (((0 : Int) ≤ (x3 / x4) ∧ (x3 / x4) ≤ (2147483647 : Int) ∧ (0 : Int) < 2 ∧ 2 ≤ (2147483647 : Int)) ∧ ((zrg ((x3 / x4) % 2)) ∧ ((((x3 / x4) % 2) ≠ 0 → (∃ r_8 : Int, Zc sc 128 [zp a0, zj (x3 - x4), zj x4] w (some (zj r_8)) w 0 0 ∧ ((zrg r_8) ∧ ((r_8 ≠ 0 → (((0 : Int) ≤ 2 ∧ 2 < (cn.length : Int) ∧ 2 ≤ (2147483647 : Int)) ∧ (((0 : Int) ≤ 2 ∧ 2 < (cn.length : Int) ∧ 2 ≤ (2147483647 : Int)) ∧ ((zrg x3 ∧ zrg (x3 - x4)) ∧ Zr sc 140 83 [zp a0, zj x1, zj x2, zj (min x3 (x3 - x4)), zj (x4 * 2), zj (x3 - x4)] [] (w.set (a0 + 77) (za (zsi cn 2 ((zgi cn 2) + 1)))) ov w' c s)))) ∧ (¬ (r_8 ≠ 0) → Zr sc 140 161 [zp a0, zj x1, zj x2, zj x3, zj x4, zj (x3 - x4)] [] w ov w' c s))))) ∧ (¬ (((x3 / x4) % 2) ≠ 0) → (∃ r_15 : Int, Zc sc 128 [zp a0, zj (x3 + x4), zj x4] w (some (zj r_15)) w 0 0 ∧ ((zrg r_15) ∧ ((r_15 ≠ 0 → (((0 : Int) ≤ 2 ∧ 2 < (cn.length : Int) ∧ 2 ≤ (2147483647 : Int)) ∧ (((0 : Int) ≤ 2 ∧ 2 < (cn.length : Int) ∧ 2 ≤ (2147483647 : Int)) ∧ ((zrg x3 ∧ zrg (x3 + x4)) ∧ Zr sc 140 83 [zp a0, zj x1, zj x2, zj (min x3 (x3 + x4)), zj (x4 * 2), zj (x3 + x4)] [] (w.set (a0 + 77) (za (zsi cn 2 ((zgi cn 2) + 1)))) ov w' c s)))) ∧ (¬ (r_15 ≠ 0) → Zr sc 140 161 [zp a0, zj x1, zj x2, zj x3, zj x4, zj (x3 + x4)] [] w ov w' c s)))))))))))))))) : Zr sc 140 83 [zp a0, zj x1, zj x2, zj x3, zj x4, v5] [] w ov w' c s := by
  refine Zr_st (q := (84, [zp a0, zj x1, zj x2, zj x3, zj x4, v5], [zp a0])) rfl rfl rfl ?_
  show Zr sc 140 84 [zp a0, zj x1, zj x2, zj x3, zj x4, v5] [zp a0] w ov w' c s
  refine rl_gf rfl L0 rfl rfl ?_
  show Zr sc 140 87 [zp a0, zj x1, zj x2, zj x3, zj x4, v5] [zj wy] w ov w' c s
  refine rl_ic rfl ?_
  show Zr sc 140 88 [zp a0, zj x1, zj x2, zj x3, zj x4, v5] [zj 4, zj wy] w ov w' c s
  obtain ⟨hr_1, h⟩ := h
  refine Zr_br (p := wy ≠ 4) rfl rfl (zcmp_j (cnd := .ne) hr_1.1 hr_1.2) (fun hp => ?_) (fun hp => ?_)
  · replace h := h.1 hp
    show Zr sc 140 161 [zp a0, zj x1, zj x2, zj x3, zj x4, v5] [] w ov w' c s
    exact h
  · replace h := h.2 hp
    show Zr sc 140 91 [zp a0, zj x1, zj x2, zj x3, zj x4, v5] [] w ov w' c s
    refine Zr_st (q := (93, [zp a0, zj x1, zj x2, zj x3, zj x4, v5], [zj x4])) rfl rfl rfl ?_
    show Zr sc 140 93 [zp a0, zj x1, zj x2, zj x3, zj x4, v5] [zj x4] w ov w' c s
    refine rl_si rfl (by decide) ?_
    show Zr sc 140 96 [zp a0, zj x1, zj x2, zj x3, zj x4, v5] [zj 1024, zj x4] w ov w' c s
    obtain ⟨hr_2, h⟩ := h
    refine Zr_br (p := 1024 ≤ x4) rfl rfl (zcmp_j (cnd := .ge) hr_2.1 hr_2.2) (fun hp => ?_) (fun hp => ?_)
    · replace h := h.1 hp
      show Zr sc 140 161 [zp a0, zj x1, zj x2, zj x3, zj x4, v5] [] w ov w' c s
      exact h
    · replace h := h.2 hp
      show Zr sc 140 99 [zp a0, zj x1, zj x2, zj x3, zj x4, v5] [] w ov w' c s
      refine Zr_st (q := (100, [zp a0, zj x1, zj x2, zj x3, zj x4, v5], [zj x3])) rfl rfl rfl ?_
      show Zr sc 140 100 [zp a0, zj x1, zj x2, zj x3, zj x4, v5] [zj x3] w ov w' c s
      refine Zr_st (q := (102, [zp a0, zj x1, zj x2, zj x3, zj x4, v5], [zj x4, zj x3])) rfl rfl rfl ?_
      show Zr sc 140 102 [zp a0, zj x1, zj x2, zj x3, zj x4, v5] [zj x4, zj x3] w ov w' c s
      obtain ⟨hd_3, h⟩ := h
      refine rl_div rfl hd_3.1 hd_3.2.1 hd_3.2.2.1 hd_3.2.2.2 ?_
      show Zr sc 140 103 [zp a0, zj x1, zj x2, zj x3, zj x4, v5] [zj (x3 / x4)] w ov w' c s
      refine rl_ic rfl ?_
      show Zr sc 140 104 [zp a0, zj x1, zj x2, zj x3, zj x4, v5] [zj 2, zj (x3 / x4)] w ov w' c s
      obtain ⟨hd_4, h⟩ := h
      refine rl_rem rfl hd_4.1 hd_4.2.1 hd_4.2.2.1 hd_4.2.2.2 ?_
      show Zr sc 140 105 [zp a0, zj x1, zj x2, zj x3, zj x4, v5] [zj ((x3 / x4) % 2)] w ov w' c s
      obtain ⟨hr_5, h⟩ := h
      refine Zr_b0 (p := ((x3 / x4) % 2) ≠ 0) rfl rfl (zcmp_0 (cnd := .ne) hr_5) (fun hp => ?_) (fun hp => ?_)
      · replace h := h.1 hp
        show Zr sc 140 115 [zp a0, zj x1, zj x2, zj x3, zj x4, v5] [] w ov w' c s
        refine Zr_st (q := (116, [zp a0, zj x1, zj x2, zj x3, zj x4, v5], [zj x3])) rfl rfl rfl ?_
        show Zr sc 140 116 [zp a0, zj x1, zj x2, zj x3, zj x4, v5] [zj x3] w ov w' c s
        refine Zr_st (q := (118, [zp a0, zj x1, zj x2, zj x3, zj x4, v5], [zj x4, zj x3])) rfl rfl rfl ?_
        show Zr sc 140 118 [zp a0, zj x1, zj x2, zj x3, zj x4, v5] [zj x4, zj x3] w ov w' c s
        refine rl_sub rfl ?_
        show Zr sc 140 119 [zp a0, zj x1, zj x2, zj x3, zj x4, v5] [zj (x3 - x4)] w ov w' c s
        refine Zr_st (q := (121, [zp a0, zj x1, zj x2, zj x3, zj x4, zj (x3 - x4)], [])) rfl rfl rfl ?_
        show Zr sc 140 121 [zp a0, zj x1, zj x2, zj x3, zj x4, zj (x3 - x4)] [] w ov w' c s
        refine Zr_st (q := (122, [zp a0, zj x1, zj x2, zj x3, zj x4, zj (x3 - x4)], [zp a0])) rfl rfl rfl ?_
        show Zr sc 140 122 [zp a0, zj x1, zj x2, zj x3, zj x4, zj (x3 - x4)] [zp a0] w ov w' c s
        refine Zr_st (q := (124, [zp a0, zj x1, zj x2, zj x3, zj x4, zj (x3 - x4)], [zj (x3 - x4), zp a0])) rfl rfl rfl ?_
        show Zr sc 140 124 [zp a0, zj x1, zj x2, zj x3, zj x4, zj (x3 - x4)] [zj (x3 - x4), zp a0] w ov w' c s
        refine Zr_st (q := (126, [zp a0, zj x1, zj x2, zj x3, zj x4, zj (x3 - x4)], [zj x4, zj (x3 - x4), zp a0])) rfl rfl rfl ?_
        show Zr sc 140 126 [zp a0, zj x1, zj x2, zj x3, zj x4, zj (x3 - x4)] [zj x4, zj (x3 - x4), zp a0] w ov w' c s
        obtain ⟨r_8, hk_9, h⟩ := h
        refine rn_cal0 (ins := .invokevirtual 79) (rest := []) rfl rfl rfl rfl (zinv_v (fs := _) L0 rfl rfl rfl rfl) rfl rfl hk_9 ?_
        show Zr sc 140 129 [zp a0, zj x1, zj x2, zj x3, zj x4, zj (x3 - x4)] [zj r_8] w ov w' c s
        obtain ⟨hr_9, h⟩ := h
        refine Zr_b0 (p := r_8 ≠ 0) rfl rfl (zcmp_0 (cnd := .ne) hr_9) (fun hp => ?_) (fun hp => ?_)
        · replace h := h.1 hp
          show Zr sc 140 135 [zp a0, zj x1, zj x2, zj x3, zj x4, zj (x3 - x4)] [] w ov w' c s
          refine Zr_st (q := (136, [zp a0, zj x1, zj x2, zj x3, zj x4, zj (x3 - x4)], [zp a0])) rfl rfl rfl ?_
          show Zr sc 140 136 [zp a0, zj x1, zj x2, zj x3, zj x4, zj (x3 - x4)] [zp a0] w ov w' c s
          refine rl_gf rfl L0 rfl rfl ?_
          show Zr sc 140 139 [zp a0, zj x1, zj x2, zj x3, zj x4, zj (x3 - x4)] [zp (a0 + 77)] w ov w' c s
          refine rl_ic rfl ?_
          show Zr sc 140 140 [zp a0, zj x1, zj x2, zj x3, zj x4, zj (x3 - x4)] [zj 2, zp (a0 + 77)] w ov w' c s
          refine Zr_st (q := (141, [zp a0, zj x1, zj x2, zj x3, zj x4, zj (x3 - x4)], [zj 2, zp (a0 + 77), zj 2, zp (a0 + 77)])) rfl rfl rfl ?_
          show Zr sc 140 141 [zp a0, zj x1, zj x2, zj x3, zj x4, zj (x3 - x4)] [zj 2, zp (a0 + 77), zj 2, zp (a0 + 77)] w ov w' c s
          obtain ⟨hi_10, h⟩ := h
          refine rl_ia rfl L77 hi_10.1 hi_10.2.1 hi_10.2.2 ?_
          show Zr sc 140 142 [zp a0, zj x1, zj x2, zj x3, zj x4, zj (x3 - x4)] [zj (zgi cn 2), zj 2, zp (a0 + 77)] w ov w' c s
          refine rl_ic rfl ?_
          show Zr sc 140 143 [zp a0, zj x1, zj x2, zj x3, zj x4, zj (x3 - x4)] [zj 1, zj (zgi cn 2), zj 2, zp (a0 + 77)] w ov w' c s
          refine rl_add rfl ?_
          show Zr sc 140 144 [zp a0, zj x1, zj x2, zj x3, zj x4, zj (x3 - x4)] [zj ((zgi cn 2) + 1), zj 2, zp (a0 + 77)] w ov w' c s
          obtain ⟨hi_11, h⟩ := h
          refine rl_is rfl L77 hi_11.1 hi_11.2.1 hi_11.2.2 ?_
          show Zr sc 140 145 [zp a0, zj x1, zj x2, zj x3, zj x4, zj (x3 - x4)] [] (w.set (a0 + 77) (za (zsi cn 2 ((zgi cn 2) + 1)))) ov w' c s
          refine Zr_st (q := (146, [zp a0, zj x1, zj x2, zj x3, zj x4, zj (x3 - x4)], [zj x3])) rfl rfl rfl ?_
          show Zr sc 140 146 [zp a0, zj x1, zj x2, zj x3, zj x4, zj (x3 - x4)] [zj x3] (w.set (a0 + 77) (za (zsi cn 2 ((zgi cn 2) + 1)))) ov w' c s
          refine Zr_st (q := (148, [zp a0, zj x1, zj x2, zj x3, zj x4, zj (x3 - x4)], [zj (x3 - x4), zj x3])) rfl rfl rfl ?_
          show Zr sc 140 148 [zp a0, zj x1, zj x2, zj x3, zj x4, zj (x3 - x4)] [zj (x3 - x4), zj x3] (w.set (a0 + 77) (za (zsi cn 2 ((zgi cn 2) + 1)))) ov w' c s
          obtain ⟨hm_12, h⟩ := h
          refine Zr_mx (b := false) (ins := .invokestatic 114) (rest := []) rfl rfl rfl rfl (zinv_t2 (rest := []) rfl rfl rfl rfl rfl) rfl (zmx_j hm_12.1 hm_12.2) ?_
          show Zr sc 140 151 [zp a0, zj x1, zj x2, zj x3, zj x4, zj (x3 - x4)] [zj (min x3 (x3 - x4))] (w.set (a0 + 77) (za (zsi cn 2 ((zgi cn 2) + 1)))) ov w' c s
          refine Zr_st (q := (152, [zp a0, zj x1, zj x2, zj (min x3 (x3 - x4)), zj x4, zj (x3 - x4)], [])) rfl rfl rfl ?_
          show Zr sc 140 152 [zp a0, zj x1, zj x2, zj (min x3 (x3 - x4)), zj x4, zj (x3 - x4)] [] (w.set (a0 + 77) (za (zsi cn 2 ((zgi cn 2) + 1)))) ov w' c s
          refine Zr_st (q := (154, [zp a0, zj x1, zj x2, zj (min x3 (x3 - x4)), zj x4, zj (x3 - x4)], [zj x4])) rfl rfl rfl ?_
          show Zr sc 140 154 [zp a0, zj x1, zj x2, zj (min x3 (x3 - x4)), zj x4, zj (x3 - x4)] [zj x4] (w.set (a0 + 77) (za (zsi cn 2 ((zgi cn 2) + 1)))) ov w' c s
          refine rl_ic rfl ?_
          show Zr sc 140 155 [zp a0, zj x1, zj x2, zj (min x3 (x3 - x4)), zj x4, zj (x3 - x4)] [zj 2, zj x4] (w.set (a0 + 77) (za (zsi cn 2 ((zgi cn 2) + 1)))) ov w' c s
          refine rl_mul rfl ?_
          show Zr sc 140 156 [zp a0, zj x1, zj x2, zj (min x3 (x3 - x4)), zj x4, zj (x3 - x4)] [zj (x4 * 2)] (w.set (a0 + 77) (za (zsi cn 2 ((zgi cn 2) + 1)))) ov w' c s
          refine Zr_st (q := (158, [zp a0, zj x1, zj x2, zj (min x3 (x3 - x4)), zj (x4 * 2), zj (x3 - x4)], [])) rfl rfl rfl ?_
          show Zr sc 140 158 [zp a0, zj x1, zj x2, zj (min x3 (x3 - x4)), zj (x4 * 2), zj (x3 - x4)] [] (w.set (a0 + 77) (za (zsi cn 2 ((zgi cn 2) + 1)))) ov w' c s
          refine Zr_st (q := (83, [zp a0, zj x1, zj x2, zj (min x3 (x3 - x4)), zj (x4 * 2), zj (x3 - x4)], [])) rfl rfl rfl ?_
          show Zr sc 140 83 [zp a0, zj x1, zj x2, zj (min x3 (x3 - x4)), zj (x4 * 2), zj (x3 - x4)] [] (w.set (a0 + 77) (za (zsi cn 2 ((zgi cn 2) + 1)))) ov w' c s
          exact h
        · replace h := h.2 hp
          show Zr sc 140 132 [zp a0, zj x1, zj x2, zj x3, zj x4, zj (x3 - x4)] [] w ov w' c s
          refine Zr_st (q := (161, [zp a0, zj x1, zj x2, zj x3, zj x4, zj (x3 - x4)], [])) rfl rfl rfl ?_
          show Zr sc 140 161 [zp a0, zj x1, zj x2, zj x3, zj x4, zj (x3 - x4)] [] w ov w' c s
          exact h
      · replace h := h.2 hp
        show Zr sc 140 108 [zp a0, zj x1, zj x2, zj x3, zj x4, v5] [] w ov w' c s
        refine Zr_st (q := (109, [zp a0, zj x1, zj x2, zj x3, zj x4, v5], [zj x3])) rfl rfl rfl ?_
        show Zr sc 140 109 [zp a0, zj x1, zj x2, zj x3, zj x4, v5] [zj x3] w ov w' c s
        refine Zr_st (q := (111, [zp a0, zj x1, zj x2, zj x3, zj x4, v5], [zj x4, zj x3])) rfl rfl rfl ?_
        show Zr sc 140 111 [zp a0, zj x1, zj x2, zj x3, zj x4, v5] [zj x4, zj x3] w ov w' c s
        refine rl_add rfl ?_
        show Zr sc 140 112 [zp a0, zj x1, zj x2, zj x3, zj x4, v5] [zj (x3 + x4)] w ov w' c s
        refine Zr_st (q := (119, [zp a0, zj x1, zj x2, zj x3, zj x4, v5], [zj (x3 + x4)])) rfl rfl rfl ?_
        show Zr sc 140 119 [zp a0, zj x1, zj x2, zj x3, zj x4, v5] [zj (x3 + x4)] w ov w' c s
        refine Zr_st (q := (121, [zp a0, zj x1, zj x2, zj x3, zj x4, zj (x3 + x4)], [])) rfl rfl rfl ?_
        show Zr sc 140 121 [zp a0, zj x1, zj x2, zj x3, zj x4, zj (x3 + x4)] [] w ov w' c s
        refine Zr_st (q := (122, [zp a0, zj x1, zj x2, zj x3, zj x4, zj (x3 + x4)], [zp a0])) rfl rfl rfl ?_
        show Zr sc 140 122 [zp a0, zj x1, zj x2, zj x3, zj x4, zj (x3 + x4)] [zp a0] w ov w' c s
        refine Zr_st (q := (124, [zp a0, zj x1, zj x2, zj x3, zj x4, zj (x3 + x4)], [zj (x3 + x4), zp a0])) rfl rfl rfl ?_
        show Zr sc 140 124 [zp a0, zj x1, zj x2, zj x3, zj x4, zj (x3 + x4)] [zj (x3 + x4), zp a0] w ov w' c s
        refine Zr_st (q := (126, [zp a0, zj x1, zj x2, zj x3, zj x4, zj (x3 + x4)], [zj x4, zj (x3 + x4), zp a0])) rfl rfl rfl ?_
        show Zr sc 140 126 [zp a0, zj x1, zj x2, zj x3, zj x4, zj (x3 + x4)] [zj x4, zj (x3 + x4), zp a0] w ov w' c s
        obtain ⟨r_15, hk_9, h⟩ := h
        refine rn_cal0 (ins := .invokevirtual 79) (rest := []) rfl rfl rfl rfl (zinv_v (fs := _) L0 rfl rfl rfl rfl) rfl rfl hk_9 ?_
        show Zr sc 140 129 [zp a0, zj x1, zj x2, zj x3, zj x4, zj (x3 + x4)] [zj r_15] w ov w' c s
        obtain ⟨hr_16, h⟩ := h
        refine Zr_b0 (p := r_15 ≠ 0) rfl rfl (zcmp_0 (cnd := .ne) hr_16) (fun hp => ?_) (fun hp => ?_)
        · replace h := h.1 hp
          show Zr sc 140 135 [zp a0, zj x1, zj x2, zj x3, zj x4, zj (x3 + x4)] [] w ov w' c s
          refine Zr_st (q := (136, [zp a0, zj x1, zj x2, zj x3, zj x4, zj (x3 + x4)], [zp a0])) rfl rfl rfl ?_
          show Zr sc 140 136 [zp a0, zj x1, zj x2, zj x3, zj x4, zj (x3 + x4)] [zp a0] w ov w' c s
          refine rl_gf rfl L0 rfl rfl ?_
          show Zr sc 140 139 [zp a0, zj x1, zj x2, zj x3, zj x4, zj (x3 + x4)] [zp (a0 + 77)] w ov w' c s
          refine rl_ic rfl ?_
          show Zr sc 140 140 [zp a0, zj x1, zj x2, zj x3, zj x4, zj (x3 + x4)] [zj 2, zp (a0 + 77)] w ov w' c s
          refine Zr_st (q := (141, [zp a0, zj x1, zj x2, zj x3, zj x4, zj (x3 + x4)], [zj 2, zp (a0 + 77), zj 2, zp (a0 + 77)])) rfl rfl rfl ?_
          show Zr sc 140 141 [zp a0, zj x1, zj x2, zj x3, zj x4, zj (x3 + x4)] [zj 2, zp (a0 + 77), zj 2, zp (a0 + 77)] w ov w' c s
          obtain ⟨hi_17, h⟩ := h
          refine rl_ia rfl L77 hi_17.1 hi_17.2.1 hi_17.2.2 ?_
          show Zr sc 140 142 [zp a0, zj x1, zj x2, zj x3, zj x4, zj (x3 + x4)] [zj (zgi cn 2), zj 2, zp (a0 + 77)] w ov w' c s
          refine rl_ic rfl ?_
          show Zr sc 140 143 [zp a0, zj x1, zj x2, zj x3, zj x4, zj (x3 + x4)] [zj 1, zj (zgi cn 2), zj 2, zp (a0 + 77)] w ov w' c s
          refine rl_add rfl ?_
          show Zr sc 140 144 [zp a0, zj x1, zj x2, zj x3, zj x4, zj (x3 + x4)] [zj ((zgi cn 2) + 1), zj 2, zp (a0 + 77)] w ov w' c s
          obtain ⟨hi_18, h⟩ := h
          refine rl_is rfl L77 hi_18.1 hi_18.2.1 hi_18.2.2 ?_
          show Zr sc 140 145 [zp a0, zj x1, zj x2, zj x3, zj x4, zj (x3 + x4)] [] (w.set (a0 + 77) (za (zsi cn 2 ((zgi cn 2) + 1)))) ov w' c s
          refine Zr_st (q := (146, [zp a0, zj x1, zj x2, zj x3, zj x4, zj (x3 + x4)], [zj x3])) rfl rfl rfl ?_
          show Zr sc 140 146 [zp a0, zj x1, zj x2, zj x3, zj x4, zj (x3 + x4)] [zj x3] (w.set (a0 + 77) (za (zsi cn 2 ((zgi cn 2) + 1)))) ov w' c s
          refine Zr_st (q := (148, [zp a0, zj x1, zj x2, zj x3, zj x4, zj (x3 + x4)], [zj (x3 + x4), zj x3])) rfl rfl rfl ?_
          show Zr sc 140 148 [zp a0, zj x1, zj x2, zj x3, zj x4, zj (x3 + x4)] [zj (x3 + x4), zj x3] (w.set (a0 + 77) (za (zsi cn 2 ((zgi cn 2) + 1)))) ov w' c s
          obtain ⟨hm_19, h⟩ := h
          refine Zr_mx (b := false) (ins := .invokestatic 114) (rest := []) rfl rfl rfl rfl (zinv_t2 (rest := []) rfl rfl rfl rfl rfl) rfl (zmx_j hm_19.1 hm_19.2) ?_
          show Zr sc 140 151 [zp a0, zj x1, zj x2, zj x3, zj x4, zj (x3 + x4)] [zj (min x3 (x3 + x4))] (w.set (a0 + 77) (za (zsi cn 2 ((zgi cn 2) + 1)))) ov w' c s
          refine Zr_st (q := (152, [zp a0, zj x1, zj x2, zj (min x3 (x3 + x4)), zj x4, zj (x3 + x4)], [])) rfl rfl rfl ?_
          show Zr sc 140 152 [zp a0, zj x1, zj x2, zj (min x3 (x3 + x4)), zj x4, zj (x3 + x4)] [] (w.set (a0 + 77) (za (zsi cn 2 ((zgi cn 2) + 1)))) ov w' c s
          refine Zr_st (q := (154, [zp a0, zj x1, zj x2, zj (min x3 (x3 + x4)), zj x4, zj (x3 + x4)], [zj x4])) rfl rfl rfl ?_
          show Zr sc 140 154 [zp a0, zj x1, zj x2, zj (min x3 (x3 + x4)), zj x4, zj (x3 + x4)] [zj x4] (w.set (a0 + 77) (za (zsi cn 2 ((zgi cn 2) + 1)))) ov w' c s
          refine rl_ic rfl ?_
          show Zr sc 140 155 [zp a0, zj x1, zj x2, zj (min x3 (x3 + x4)), zj x4, zj (x3 + x4)] [zj 2, zj x4] (w.set (a0 + 77) (za (zsi cn 2 ((zgi cn 2) + 1)))) ov w' c s
          refine rl_mul rfl ?_
          show Zr sc 140 156 [zp a0, zj x1, zj x2, zj (min x3 (x3 + x4)), zj x4, zj (x3 + x4)] [zj (x4 * 2)] (w.set (a0 + 77) (za (zsi cn 2 ((zgi cn 2) + 1)))) ov w' c s
          refine Zr_st (q := (158, [zp a0, zj x1, zj x2, zj (min x3 (x3 + x4)), zj (x4 * 2), zj (x3 + x4)], [])) rfl rfl rfl ?_
          show Zr sc 140 158 [zp a0, zj x1, zj x2, zj (min x3 (x3 + x4)), zj (x4 * 2), zj (x3 + x4)] [] (w.set (a0 + 77) (za (zsi cn 2 ((zgi cn 2) + 1)))) ov w' c s
          refine Zr_st (q := (83, [zp a0, zj x1, zj x2, zj (min x3 (x3 + x4)), zj (x4 * 2), zj (x3 + x4)], [])) rfl rfl rfl ?_
          show Zr sc 140 83 [zp a0, zj x1, zj x2, zj (min x3 (x3 + x4)), zj (x4 * 2), zj (x3 + x4)] [] (w.set (a0 + 77) (za (zsi cn 2 ((zgi cn 2) + 1)))) ov w' c s
          exact h
        · replace h := h.2 hp
          show Zr sc 140 132 [zp a0, zj x1, zj x2, zj x3, zj x4, zj (x3 + x4)] [] w ov w' c s
          refine Zr_st (q := (161, [zp a0, zj x1, zj x2, zj x3, zj x4, zj (x3 + x4)], [])) rfl rfl rfl ?_
          show Zr sc 140 161 [zp a0, zj x1, zj x2, zj x3, zj x4, zj (x3 + x4)] [] w ov w' c s
          exact h
set_option maxRecDepth 100000 in
theorem V140_161 {sc : List Value} {w w' : List zE} {ov : Option Value} {c s : Nat} {a0 : Nat} {x1 : Int} {x2 : Int} {x3 : Int} {x4 : Int} {v5 : Value} {dr : Int} {wy : Int} {st : Int} {hd : Int} {nm : Int} {ar : Int} {hn : Int} {pk : Int} {D : Nat} {tl : Int} {cn : List Int} (L0 : w[a0]? = some (zob 7 [zp (a0 + 1), .ref 0, zj dr, zj wy, zj st, zj hd, zp (a0 + 73), zj nm, zp (a0 + 74), zp (a0 + 75), zp (a0 + 76), zj ar, zj hn, zp (a0 + 77), zj pk, zp D, zj tl])) (L77 : w[(a0 + 77)]? = some (za cn)) (h : ((zrg wy ∧ zrg 5) ∧ ((wy ≠ 5 → Zr sc 140 198 [zp a0, zj x1, zj x2, zj x3, zj x4, v5] [] w ov w' c s) ∧ (¬ (wy ≠ 5) → ((zrg x2 ∧ zrg 128) ∧ ((128 ≤ x2 → Zr sc 140 198 [zp a0, zj x1, zj x2, zj x3, zj x4, v5] [] w ov w' c s) ∧ (¬ (128 ≤ x2) → (((0 : Int) ≤ x1 ∧ x1 ≤ (2147483647 : Int) ∧ (0 : Int) < 128 ∧ 128 ≤ (2147483647 : Int)) ∧ (∃ r_6 : Int, Zc sc 129 [zp a0, zj (x1 / 128)] w (some (zj r_6)) w 0 0 ∧ ((zrg r_6) ∧ ((r_6 ≠ 0 → Zr sc 140 198 [zp a0, zj x1, zj x2, zj x3, zj x4, v5] [] w ov w' c s) ∧ (¬ (r_6 ≠ 0) → (((0 : Int) ≤ 2 ∧ 2 < (cn.length : Int) ∧ 2 ≤ (2147483647 : Int)) ∧ (((0 : Int) ≤ 2 ∧ 2 < (cn.length : Int) ∧ 2 ≤ (2147483647 : Int)) ∧ Zr sc 140 198 [zp a0, zj x1, zj x2, zj x3, zj x4, v5] [] (w.set (a0 + 77) (za (zsi cn 2 ((zgi cn 2) + 1)))) ov w' c s)))))))))))))) : Zr sc 140 161 [zp a0, zj x1, zj x2, zj x3, zj x4, v5] [] w ov w' c s := by
  refine Zr_st (q := (162, [zp a0, zj x1, zj x2, zj x3, zj x4, v5], [zp a0])) rfl rfl rfl ?_
  show Zr sc 140 162 [zp a0, zj x1, zj x2, zj x3, zj x4, v5] [zp a0] w ov w' c s
  refine rl_gf rfl L0 rfl rfl ?_
  show Zr sc 140 165 [zp a0, zj x1, zj x2, zj x3, zj x4, v5] [zj wy] w ov w' c s
  refine rl_ic rfl ?_
  show Zr sc 140 166 [zp a0, zj x1, zj x2, zj x3, zj x4, v5] [zj 5, zj wy] w ov w' c s
  obtain ⟨hr_1, h⟩ := h
  refine Zr_br (p := wy ≠ 5) rfl rfl (zcmp_j (cnd := .ne) hr_1.1 hr_1.2) (fun hp => ?_) (fun hp => ?_)
  · replace h := h.1 hp
    show Zr sc 140 198 [zp a0, zj x1, zj x2, zj x3, zj x4, v5] [] w ov w' c s
    exact h
  · replace h := h.2 hp
    show Zr sc 140 169 [zp a0, zj x1, zj x2, zj x3, zj x4, v5] [] w ov w' c s
    refine Zr_st (q := (170, [zp a0, zj x1, zj x2, zj x3, zj x4, v5], [zj x2])) rfl rfl rfl ?_
    show Zr sc 140 170 [zp a0, zj x1, zj x2, zj x3, zj x4, v5] [zj x2] w ov w' c s
    refine rl_si rfl (by decide) ?_
    show Zr sc 140 173 [zp a0, zj x1, zj x2, zj x3, zj x4, v5] [zj 128, zj x2] w ov w' c s
    obtain ⟨hr_2, h⟩ := h
    refine Zr_br (p := 128 ≤ x2) rfl rfl (zcmp_j (cnd := .ge) hr_2.1 hr_2.2) (fun hp => ?_) (fun hp => ?_)
    · replace h := h.1 hp
      show Zr sc 140 198 [zp a0, zj x1, zj x2, zj x3, zj x4, v5] [] w ov w' c s
      exact h
    · replace h := h.2 hp
      show Zr sc 140 176 [zp a0, zj x1, zj x2, zj x3, zj x4, v5] [] w ov w' c s
      refine Zr_st (q := (177, [zp a0, zj x1, zj x2, zj x3, zj x4, v5], [zp a0])) rfl rfl rfl ?_
      show Zr sc 140 177 [zp a0, zj x1, zj x2, zj x3, zj x4, v5] [zp a0] w ov w' c s
      refine Zr_st (q := (178, [zp a0, zj x1, zj x2, zj x3, zj x4, v5], [zj x1, zp a0])) rfl rfl rfl ?_
      show Zr sc 140 178 [zp a0, zj x1, zj x2, zj x3, zj x4, v5] [zj x1, zp a0] w ov w' c s
      refine rl_si rfl (by decide) ?_
      show Zr sc 140 181 [zp a0, zj x1, zj x2, zj x3, zj x4, v5] [zj 128, zj x1, zp a0] w ov w' c s
      obtain ⟨hd_3, h⟩ := h
      refine rl_div rfl hd_3.1 hd_3.2.1 hd_3.2.2.1 hd_3.2.2.2 ?_
      show Zr sc 140 182 [zp a0, zj x1, zj x2, zj x3, zj x4, v5] [zj (x1 / 128), zp a0] w ov w' c s
      obtain ⟨r_6, hk_9, h⟩ := h
      refine rn_cal0 (ins := .invokevirtual 97) (rest := []) rfl rfl rfl rfl (zinv_v (fs := _) L0 rfl rfl rfl rfl) rfl rfl hk_9 ?_
      show Zr sc 140 185 [zp a0, zj x1, zj x2, zj x3, zj x4, v5] [zj r_6] w ov w' c s
      obtain ⟨hr_7, h⟩ := h
      refine Zr_b0 (p := r_6 ≠ 0) rfl rfl (zcmp_0 (cnd := .ne) hr_7) (fun hp => ?_) (fun hp => ?_)
      · replace h := h.1 hp
        show Zr sc 140 198 [zp a0, zj x1, zj x2, zj x3, zj x4, v5] [] w ov w' c s
        exact h
      · replace h := h.2 hp
        show Zr sc 140 188 [zp a0, zj x1, zj x2, zj x3, zj x4, v5] [] w ov w' c s
        refine Zr_st (q := (189, [zp a0, zj x1, zj x2, zj x3, zj x4, v5], [zp a0])) rfl rfl rfl ?_
        show Zr sc 140 189 [zp a0, zj x1, zj x2, zj x3, zj x4, v5] [zp a0] w ov w' c s
        refine rl_gf rfl L0 rfl rfl ?_
        show Zr sc 140 192 [zp a0, zj x1, zj x2, zj x3, zj x4, v5] [zp (a0 + 77)] w ov w' c s
        refine rl_ic rfl ?_
        show Zr sc 140 193 [zp a0, zj x1, zj x2, zj x3, zj x4, v5] [zj 2, zp (a0 + 77)] w ov w' c s
        refine Zr_st (q := (194, [zp a0, zj x1, zj x2, zj x3, zj x4, v5], [zj 2, zp (a0 + 77), zj 2, zp (a0 + 77)])) rfl rfl rfl ?_
        show Zr sc 140 194 [zp a0, zj x1, zj x2, zj x3, zj x4, v5] [zj 2, zp (a0 + 77), zj 2, zp (a0 + 77)] w ov w' c s
        obtain ⟨hi_8, h⟩ := h
        refine rl_ia rfl L77 hi_8.1 hi_8.2.1 hi_8.2.2 ?_
        show Zr sc 140 195 [zp a0, zj x1, zj x2, zj x3, zj x4, v5] [zj (zgi cn 2), zj 2, zp (a0 + 77)] w ov w' c s
        refine rl_ic rfl ?_
        show Zr sc 140 196 [zp a0, zj x1, zj x2, zj x3, zj x4, v5] [zj 1, zj (zgi cn 2), zj 2, zp (a0 + 77)] w ov w' c s
        refine rl_add rfl ?_
        show Zr sc 140 197 [zp a0, zj x1, zj x2, zj x3, zj x4, v5] [zj ((zgi cn 2) + 1), zj 2, zp (a0 + 77)] w ov w' c s
        obtain ⟨hi_9, h⟩ := h
        refine rl_is rfl L77 hi_9.1 hi_9.2.1 hi_9.2.2 ?_
        show Zr sc 140 198 [zp a0, zj x1, zj x2, zj x3, zj x4, v5] [] (w.set (a0 + 77) (za (zsi cn 2 ((zgi cn 2) + 1)))) ov w' c s
        exact h
set_option maxRecDepth 100000 in
theorem V140_198 {sc : List Value} {w w' : List zE} {ov : Option Value} {c s : Nat} {a0 : Nat} {x1 : Int} {x2 : Int} {x3 : Int} {x4 : Int} {v5 : Value} (h : (ov = none ∧ w' = w ∧ c = 0 ∧ s = 0)) : Zr sc 140 198 [zp a0, zj x1, zj x2, zj x3, zj x4, v5] [] w ov w' c s := by
  obtain ⟨h1, h2, h3, h4⟩ := h
  subst h1; subst h2; subst h3; subst h4
  exact Zr_ret (ins := .return_) rfl rfl

-- HeapwrightLab.giveBack(I)I
set_option maxRecDepth 100000 in
theorem V141_0 {sc : List Value} {w w' : List zE} {ov : Option Value} {c s : Nat} {a0 : Nat} {x1 : Int} {wy : Int} (L0 : w[a0]? = some (zob 6 [zp (a0 + 1), zp (a0 + 5), zp (a0 + 16), zp (a0 + 27), zp (a0 + 38), zp (a0 + 49), zp (a0 + 60), zj wy])) (h : ((Zc sc 5 [zp a0, zj x1] w none w 0 0) ∧ ((Zc sc 142 [zp a0, zj x1] w none w 0 0) ∧ ((Zc sc 135 [zp a0] w none w 0 0) ∧ (∃ p_9 : Nat, Zc sc 1 [zp a0] w (some (zp p_9)) w 0 0 ∧ (∃ cn_10 : Nat, ∃ fs_11 : List Value, w[p_9]? = some (zob cn_10 fs_11) ∧ (cn_10 = 1 ∨ cn_10 = 2 ∨ cn_10 = 4) ∧ (∃ p_18 : Nat, Zc sc 6 [zp p_9] w (some (zp p_18)) w 0 0 ∧ (∃ fs_20 : List Value, w[p_18]? = some (zob 0 fs_20) ∧ (∃ r_23 : Int, Zc sc 13 [zp p_18, zj x1] w (some (zj r_23)) w 0 0 ∧ (∃ p_26 : Nat, Zc sc 1 [zp a0] w (some (zp p_26)) w 0 0 ∧ (∃ fs_28 : List Value, w[(a0 + 1)]? = some (zob 5 fs_28) ∧ (∃ p_31 : Nat, ∃ w_29 : List zE, Zc sc 136 [zp (a0 + 1), zj 1, zj x1, zj 0] w (some (zp p_31)) w_29 0 0 ∧ (∃ cn_32 : Nat, ∃ fs_33 : List Value, w_29[p_26]? = some (zob cn_32 fs_33) ∧ (cn_32 = 1 ∨ cn_32 = 2 ∨ cn_32 = 4) ∧ (∃ p_40 : Nat, ∃ w_38 : List zE, Zc sc 57 [zp p_26, zp p_31] w_29 (some (zp p_40)) w_38 0 0 ∧ (ov = some (zj r_23) ∧ w' = w_38 ∧ c = 0 ∧ s = 0))))))))))))))) : Zr sc 141 0 [zp a0, zj x1, zmk] [] w ov w' c s := by
  refine Zr_st (q := (1, [zp a0, zj x1, zmk], [zp a0])) rfl rfl rfl ?_
  show Zr sc 141 1 [zp a0, zj x1, zmk] [zp a0] w ov w' c s
  refine Zr_st (q := (2, [zp a0, zj x1, zmk], [zj x1, zp a0])) rfl rfl rfl ?_
  show Zr sc 141 2 [zp a0, zj x1, zmk] [zj x1, zp a0] w ov w' c s
  obtain ⟨hk_9, h⟩ := h
  refine rn_cal0 (ins := .invokevirtual 107) (rest := []) rfl rfl rfl rfl (zinv_v (fs := _) L0 rfl rfl rfl rfl) rfl rfl hk_9 ?_
  show Zr sc 141 5 [zp a0, zj x1, zmk] [] w ov w' c s
  refine Zr_st (q := (6, [zp a0, zj x1, zmk], [zp a0])) rfl rfl rfl ?_
  show Zr sc 141 6 [zp a0, zj x1, zmk] [zp a0] w ov w' c s
  refine Zr_st (q := (7, [zp a0, zj x1, zmk], [zj x1, zp a0])) rfl rfl rfl ?_
  show Zr sc 141 7 [zp a0, zj x1, zmk] [zj x1, zp a0] w ov w' c s
  obtain ⟨hk_9, h⟩ := h
  refine rn_cal0 (ins := .invokevirtual 110) (rest := []) rfl rfl rfl rfl (zinv_v (fs := _) L0 rfl rfl rfl rfl) rfl rfl hk_9 ?_
  show Zr sc 141 10 [zp a0, zj x1, zmk] [] w ov w' c s
  refine Zr_st (q := (11, [zp a0, zj x1, zmk], [zp a0])) rfl rfl rfl ?_
  show Zr sc 141 11 [zp a0, zj x1, zmk] [zp a0] w ov w' c s
  obtain ⟨hk_9, h⟩ := h
  refine rn_cal0 (ins := .invokevirtual 96) (rest := []) rfl rfl rfl rfl (zinv_v (fs := _) L0 rfl rfl rfl rfl) rfl rfl hk_9 ?_
  show Zr sc 141 14 [zp a0, zj x1, zmk] [] w ov w' c s
  refine Zr_st (q := (15, [zp a0, zj x1, zmk], [zp a0])) rfl rfl rfl ?_
  show Zr sc 141 15 [zp a0, zj x1, zmk] [zp a0] w ov w' c s
  obtain ⟨p_9, hk_9, h⟩ := h
  refine rn_cal0 (ins := .invokevirtual 83) (rest := []) rfl rfl rfl rfl (zinv_v (fs := _) L0 rfl rfl rfl rfl) rfl rfl hk_9 ?_
  show Zr sc 141 18 [zp a0, zj x1, zmk] [zp p_9] w ov w' c s
  obtain ⟨cn_10, fs_11, hw_12, hcn_13, h⟩ := h
  have hz_14 : ∃ kd, zinv 141 (.invokevirtual 113) [zp p_9] (false, w) = some (kd, 6, [zp p_9], []) ∧ decide (kd < 6) = true := by rcases hcn_13 with rfl | rfl | rfl <;> exact zinv_u hw_12 rfl rfl rfl rfl rfl rfl rfl
  obtain ⟨kd_15, hz_14⟩ := hz_14
  obtain ⟨p_18, hk_9, h⟩ := h
  refine rn_cal0 (ins := .invokevirtual 113) (rest := []) rfl rfl rfl rfl hz_14.1 rfl hz_14.2 hk_9 ?_
  show Zr sc 141 21 [zp a0, zj x1, zmk] [zp p_18] w ov w' c s
  refine Zr_st (q := (22, [zp a0, zj x1, zmk], [zj x1, zp p_18])) rfl rfl rfl ?_
  show Zr sc 141 22 [zp a0, zj x1, zmk] [zj x1, zp p_18] w ov w' c s
  obtain ⟨fs_20, hl_19, h⟩ := h
  obtain ⟨r_23, hk_9, h⟩ := h
  refine rn_cal0 (ins := .invokevirtual 117) (rest := []) rfl rfl rfl rfl (zinv_v (fs := _) hl_19 rfl rfl rfl rfl) rfl rfl hk_9 ?_
  show Zr sc 141 25 [zp a0, zj x1, zmk] [zj r_23] w ov w' c s
  refine Zr_st (q := (26, [zp a0, zj x1, zj r_23], [])) rfl rfl rfl ?_
  show Zr sc 141 26 [zp a0, zj x1, zj r_23] [] w ov w' c s
  refine Zr_st (q := (27, [zp a0, zj x1, zj r_23], [zp a0])) rfl rfl rfl ?_
  show Zr sc 141 27 [zp a0, zj x1, zj r_23] [zp a0] w ov w' c s
  obtain ⟨p_26, hk_9, h⟩ := h
  refine rn_cal0 (ins := .invokevirtual 83) (rest := []) rfl rfl rfl rfl (zinv_v (fs := _) L0 rfl rfl rfl rfl) rfl rfl hk_9 ?_
  show Zr sc 141 30 [zp a0, zj x1, zj r_23] [zp p_26] w ov w' c s
  refine Zr_st (q := (31, [zp a0, zj x1, zj r_23], [zp a0, zp p_26])) rfl rfl rfl ?_
  show Zr sc 141 31 [zp a0, zj x1, zj r_23] [zp a0, zp p_26] w ov w' c s
  refine rl_gf rfl L0 rfl rfl ?_
  show Zr sc 141 34 [zp a0, zj x1, zj r_23] [zp (a0 + 1), zp p_26] w ov w' c s
  refine rl_ic rfl ?_
  show Zr sc 141 35 [zp a0, zj x1, zj r_23] [zj 1, zp (a0 + 1), zp p_26] w ov w' c s
  refine Zr_st (q := (36, [zp a0, zj x1, zj r_23], [zj x1, zj 1, zp (a0 + 1), zp p_26])) rfl rfl rfl ?_
  show Zr sc 141 36 [zp a0, zj x1, zj r_23] [zj x1, zj 1, zp (a0 + 1), zp p_26] w ov w' c s
  refine rl_ic rfl ?_
  show Zr sc 141 37 [zp a0, zj x1, zj r_23] [zj 0, zj x1, zj 1, zp (a0 + 1), zp p_26] w ov w' c s
  obtain ⟨fs_28, hl_27, h⟩ := h
  obtain ⟨p_31, w_29, hk_30, h⟩ := h
  refine rn_cal0 (ins := .invokevirtual 99) (rest := [zp p_26]) rfl rfl rfl rfl (zinv_v (fs := _) hl_27 rfl rfl rfl rfl) rfl rfl hk_30 ?_
  show Zr sc 141 40 [zp a0, zj x1, zj r_23] [zp p_31, zp p_26] w_29 ov w' c s
  obtain ⟨cn_32, fs_33, hw_34, hcn_35, h⟩ := h
  have hz_36 : ∃ kd, zinv 141 (.invokevirtual 103) [zp p_31, zp p_26] (false, w_29) = some (kd, 57, [zp p_26, zp p_31], []) ∧ decide (kd < 6) = true := by rcases hcn_35 with rfl | rfl | rfl <;> exact zinv_u hw_34 rfl rfl rfl rfl rfl rfl rfl
  obtain ⟨kd_37, hz_36⟩ := hz_36
  obtain ⟨p_40, w_38, hk_39, h⟩ := h
  refine rn_cal0 (ins := .invokevirtual 103) (rest := []) rfl rfl rfl rfl hz_36.1 rfl hz_36.2 hk_39 ?_
  show Zr sc 141 43 [zp a0, zj x1, zj r_23] [zp p_40] w_38 ov w' c s
  refine Zr_st (q := (44, [zp a0, zj x1, zj r_23], [])) rfl rfl rfl ?_
  show Zr sc 141 44 [zp a0, zj x1, zj r_23] [] w_38 ov w' c s
  refine Zr_st (q := (45, [zp a0, zj x1, zj r_23], [zj r_23])) rfl rfl rfl ?_
  show Zr sc 141 45 [zp a0, zj x1, zj r_23] [zj r_23] w_38 ov w' c s
  obtain ⟨h1, h2, h3, h4⟩ := h
  subst h1; subst h2; subst h3; subst h4
  exact Zr_ret (ins := .ireturn) rfl rfl

-- HeapwrightLab.requireThere(I)V
set_option maxRecDepth 100000 in
theorem V142_0 {sc : List Value} {w w' : List zE} {ov : Option Value} {c s : Nat} {a0 : Nat} {x1 : Int} {wy : Int} (L0 : w[a0]? = some (zob 6 [zp (a0 + 1), zp (a0 + 5), zp (a0 + 16), zp (a0 + 27), zp (a0 + 38), zp (a0 + 49), zp (a0 + 60), zj wy])) (h : (∃ p_3 : Nat, Zc sc 1 [zp a0] w (some (zp p_3)) w 0 0 ∧ (∃ cn_4 : Nat, ∃ fs_5 : List Value, w[p_3]? = some (zob cn_4 fs_5) ∧ (cn_4 = 1 ∨ cn_4 = 2 ∨ cn_4 = 4) ∧ (∃ p_12 : Nat, Zc sc 6 [zp p_3] w (some (zp p_12)) w 0 0 ∧ (∃ fs_14 : List Value, w[p_12]? = some (zob 0 fs_14) ∧ (∃ r_17 : Int, Zc sc 7 [zp p_12, zj x1] w (some (zj r_17)) w 0 0 ∧ ((zrg r_17) ∧ ((r_17 ≠ 0 → (ov = none ∧ w' = w ∧ c = 0 ∧ s = 0)) ∧ (¬ (r_17 ≠ 0) → False))))))))) : Zr sc 142 0 [zp a0, zj x1] [] w ov w' c s := by
  refine Zr_st (q := (1, [zp a0, zj x1], [zp a0])) rfl rfl rfl ?_
  show Zr sc 142 1 [zp a0, zj x1] [zp a0] w ov w' c s
  obtain ⟨p_3, hk_9, h⟩ := h
  refine rn_cal0 (ins := .invokevirtual 83) (rest := []) rfl rfl rfl rfl (zinv_v (fs := _) L0 rfl rfl rfl rfl) rfl rfl hk_9 ?_
  show Zr sc 142 4 [zp a0, zj x1] [zp p_3] w ov w' c s
  obtain ⟨cn_4, fs_5, hw_6, hcn_7, h⟩ := h
  have hz_8 : ∃ kd, zinv 142 (.invokevirtual 113) [zp p_3] (false, w) = some (kd, 6, [zp p_3], []) ∧ decide (kd < 6) = true := by rcases hcn_7 with rfl | rfl | rfl <;> exact zinv_u hw_6 rfl rfl rfl rfl rfl rfl rfl
  obtain ⟨kd_9, hz_8⟩ := hz_8
  obtain ⟨p_12, hk_9, h⟩ := h
  refine rn_cal0 (ins := .invokevirtual 113) (rest := []) rfl rfl rfl rfl hz_8.1 rfl hz_8.2 hk_9 ?_
  show Zr sc 142 7 [zp a0, zj x1] [zp p_12] w ov w' c s
  refine Zr_st (q := (8, [zp a0, zj x1], [zj x1, zp p_12])) rfl rfl rfl ?_
  show Zr sc 142 8 [zp a0, zj x1] [zj x1, zp p_12] w ov w' c s
  obtain ⟨fs_14, hl_13, h⟩ := h
  obtain ⟨r_17, hk_9, h⟩ := h
  refine rn_cal0 (ins := .invokevirtual 144) (rest := []) rfl rfl rfl rfl (zinv_v (fs := _) hl_13 rfl rfl rfl rfl) rfl rfl hk_9 ?_
  show Zr sc 142 11 [zp a0, zj x1] [zj r_17] w ov w' c s
  obtain ⟨hr_18, h⟩ := h
  refine Zr_b0 (p := r_17 ≠ 0) rfl rfl (zcmp_0 (cnd := .ne) hr_18) (fun hp => ?_) (fun hp => ?_)
  · replace h := h.1 hp
    show Zr sc 142 24 [zp a0, zj x1] [] w ov w' c s
    obtain ⟨h1, h2, h3, h4⟩ := h
    subst h1; subst h2; subst h3; subst h4
    exact Zr_ret (ins := .return_) rfl rfl
  · replace h := h.2 hp
    show Zr sc 142 14 [zp a0, zj x1] [] w ov w' c s
    exact h.elim

-- HeapwrightLabLaw$Pool.resize(II)Z
set_option maxRecDepth 100000 in
theorem V143_0 {sc : List Value} {w w' : List zE} {ov : Option Value} {c s : Nat} {a0 : Nat} {x1 : Int} {x2 : Int} {dr : Int} {wy : Int} {st : Int} {hd : Int} {nm : Int} {ar : Int} {hn : Int} {pk : Int} {D : Nat} {tl : Int} {rm : List Int} (L0 : w[a0]? = some (zob 7 [zp (a0 + 1), .ref 0, zj dr, zj wy, zj st, zj hd, zp (a0 + 73), zj nm, zp (a0 + 74), zp (a0 + 75), zp (a0 + 76), zj ar, zj hn, zp (a0 + 77), zj pk, zp D, zj tl])) (L75 : w[(a0 + 75)]? = some (za rm)) (h : (∃ r_3 : Int, Zc sc 138 [zp a0, zj x1] w (some (zj r_3)) w 0 0 ∧ (∃ r_6 : Int, Zc sc 123 [zp a0, zj x2] w (some (zj r_6)) w 0 0 ∧ (((0 : Int) ≤ x1 ∧ x1 < (rm.length : Int) ∧ x1 ≤ (2147483647 : Int)) ∧ ((zrg r_3) ∧ ((r_3 < 0 → Zr sc 143 39 [zp a0, zj x1, zj x2, zj r_3, zj r_6, zj (zgi rm x1), zj 1, zmk] [] w ov w' c s) ∧ (¬ (r_3 < 0) → ((zrg r_6 ∧ zrg (zgi rm x1)) ∧ ((r_6 ≠ (zgi rm x1) → Zr sc 143 39 [zp a0, zj x1, zj x2, zj r_3, zj r_6, zj (zgi rm x1), zj 0, zmk] [] w ov w' c s) ∧ (¬ (r_6 ≠ (zgi rm x1)) → Zr sc 143 39 [zp a0, zj x1, zj x2, zj r_3, zj r_6, zj (zgi rm x1), zj 1, zmk] [] w ov w' c s)))))))))) : Zr sc 143 0 [zp a0, zj x1, zj x2, zmk, zmk, zmk, zmk, zmk] [] w ov w' c s := by
  refine Zr_st (q := (1, [zp a0, zj x1, zj x2, zmk, zmk, zmk, zmk, zmk], [zp a0])) rfl rfl rfl ?_
  show Zr sc 143 1 [zp a0, zj x1, zj x2, zmk, zmk, zmk, zmk, zmk] [zp a0] w ov w' c s
  refine Zr_st (q := (2, [zp a0, zj x1, zj x2, zmk, zmk, zmk, zmk, zmk], [zj x1, zp a0])) rfl rfl rfl ?_
  show Zr sc 143 2 [zp a0, zj x1, zj x2, zmk, zmk, zmk, zmk, zmk] [zj x1, zp a0] w ov w' c s
  obtain ⟨r_3, hk_9, h⟩ := h
  refine rn_cal0 (ins := .invokevirtual 149) (rest := []) rfl rfl rfl rfl (zinv_v (fs := _) L0 rfl rfl rfl rfl) rfl rfl hk_9 ?_
  show Zr sc 143 5 [zp a0, zj x1, zj x2, zmk, zmk, zmk, zmk, zmk] [zj r_3] w ov w' c s
  refine Zr_st (q := (6, [zp a0, zj x1, zj x2, zj r_3, zmk, zmk, zmk, zmk], [])) rfl rfl rfl ?_
  show Zr sc 143 6 [zp a0, zj x1, zj x2, zj r_3, zmk, zmk, zmk, zmk] [] w ov w' c s
  refine Zr_st (q := (7, [zp a0, zj x1, zj x2, zj r_3, zmk, zmk, zmk, zmk], [zp a0])) rfl rfl rfl ?_
  show Zr sc 143 7 [zp a0, zj x1, zj x2, zj r_3, zmk, zmk, zmk, zmk] [zp a0] w ov w' c s
  refine Zr_st (q := (8, [zp a0, zj x1, zj x2, zj r_3, zmk, zmk, zmk, zmk], [zj x2, zp a0])) rfl rfl rfl ?_
  show Zr sc 143 8 [zp a0, zj x1, zj x2, zj r_3, zmk, zmk, zmk, zmk] [zj x2, zp a0] w ov w' c s
  obtain ⟨r_6, hk_9, h⟩ := h
  refine rn_cal0 (ins := .invokevirtual 127) (rest := []) rfl rfl rfl rfl (zinv_v (fs := _) L0 rfl rfl rfl rfl) rfl rfl hk_9 ?_
  show Zr sc 143 11 [zp a0, zj x1, zj x2, zj r_3, zmk, zmk, zmk, zmk] [zj r_6] w ov w' c s
  refine Zr_st (q := (13, [zp a0, zj x1, zj x2, zj r_3, zj r_6, zmk, zmk, zmk], [])) rfl rfl rfl ?_
  show Zr sc 143 13 [zp a0, zj x1, zj x2, zj r_3, zj r_6, zmk, zmk, zmk] [] w ov w' c s
  refine Zr_st (q := (14, [zp a0, zj x1, zj x2, zj r_3, zj r_6, zmk, zmk, zmk], [zp a0])) rfl rfl rfl ?_
  show Zr sc 143 14 [zp a0, zj x1, zj x2, zj r_3, zj r_6, zmk, zmk, zmk] [zp a0] w ov w' c s
  refine rl_gf rfl L0 rfl rfl ?_
  show Zr sc 143 17 [zp a0, zj x1, zj x2, zj r_3, zj r_6, zmk, zmk, zmk] [zp (a0 + 75)] w ov w' c s
  refine Zr_st (q := (18, [zp a0, zj x1, zj x2, zj r_3, zj r_6, zmk, zmk, zmk], [zj x1, zp (a0 + 75)])) rfl rfl rfl ?_
  show Zr sc 143 18 [zp a0, zj x1, zj x2, zj r_3, zj r_6, zmk, zmk, zmk] [zj x1, zp (a0 + 75)] w ov w' c s
  obtain ⟨hi_7, h⟩ := h
  refine rl_ia rfl L75 hi_7.1 hi_7.2.1 hi_7.2.2 ?_
  show Zr sc 143 19 [zp a0, zj x1, zj x2, zj r_3, zj r_6, zmk, zmk, zmk] [zj (zgi rm x1)] w ov w' c s
  refine Zr_st (q := (21, [zp a0, zj x1, zj x2, zj r_3, zj r_6, zj (zgi rm x1), zmk, zmk], [])) rfl rfl rfl ?_
  show Zr sc 143 21 [zp a0, zj x1, zj x2, zj r_3, zj r_6, zj (zgi rm x1), zmk, zmk] [] w ov w' c s
  refine Zr_st (q := (22, [zp a0, zj x1, zj x2, zj r_3, zj r_6, zj (zgi rm x1), zmk, zmk], [zj r_3])) rfl rfl rfl ?_
  show Zr sc 143 22 [zp a0, zj x1, zj x2, zj r_3, zj r_6, zj (zgi rm x1), zmk, zmk] [zj r_3] w ov w' c s
  obtain ⟨hr_8, h⟩ := h
  refine Zr_b0 (p := r_3 < 0) rfl rfl (zcmp_0 (cnd := .lt) hr_8) (fun hp => ?_) (fun hp => ?_)
  · replace h := h.1 hp
    show Zr sc 143 32 [zp a0, zj x1, zj x2, zj r_3, zj r_6, zj (zgi rm x1), zmk, zmk] [] w ov w' c s
    refine rl_ic rfl ?_
    show Zr sc 143 33 [zp a0, zj x1, zj x2, zj r_3, zj r_6, zj (zgi rm x1), zmk, zmk] [zj 1] w ov w' c s
    refine Zr_st (q := (37, [zp a0, zj x1, zj x2, zj r_3, zj r_6, zj (zgi rm x1), zmk, zmk], [zj 1])) rfl rfl rfl ?_
    show Zr sc 143 37 [zp a0, zj x1, zj x2, zj r_3, zj r_6, zj (zgi rm x1), zmk, zmk] [zj 1] w ov w' c s
    refine Zr_st (q := (39, [zp a0, zj x1, zj x2, zj r_3, zj r_6, zj (zgi rm x1), zj 1, zmk], [])) rfl rfl rfl ?_
    show Zr sc 143 39 [zp a0, zj x1, zj x2, zj r_3, zj r_6, zj (zgi rm x1), zj 1, zmk] [] w ov w' c s
    exact h
  · replace h := h.2 hp
    show Zr sc 143 25 [zp a0, zj x1, zj x2, zj r_3, zj r_6, zj (zgi rm x1), zmk, zmk] [] w ov w' c s
    refine Zr_st (q := (27, [zp a0, zj x1, zj x2, zj r_3, zj r_6, zj (zgi rm x1), zmk, zmk], [zj r_6])) rfl rfl rfl ?_
    show Zr sc 143 27 [zp a0, zj x1, zj x2, zj r_3, zj r_6, zj (zgi rm x1), zmk, zmk] [zj r_6] w ov w' c s
    refine Zr_st (q := (29, [zp a0, zj x1, zj x2, zj r_3, zj r_6, zj (zgi rm x1), zmk, zmk], [zj (zgi rm x1), zj r_6])) rfl rfl rfl ?_
    show Zr sc 143 29 [zp a0, zj x1, zj x2, zj r_3, zj r_6, zj (zgi rm x1), zmk, zmk] [zj (zgi rm x1), zj r_6] w ov w' c s
    obtain ⟨hr_9, h⟩ := h
    refine Zr_br (p := r_6 ≠ (zgi rm x1)) rfl rfl (zcmp_j (cnd := .ne) hr_9.1 hr_9.2) (fun hp => ?_) (fun hp => ?_)
    · replace h := h.1 hp
      show Zr sc 143 36 [zp a0, zj x1, zj x2, zj r_3, zj r_6, zj (zgi rm x1), zmk, zmk] [] w ov w' c s
      refine rl_ic rfl ?_
      show Zr sc 143 37 [zp a0, zj x1, zj x2, zj r_3, zj r_6, zj (zgi rm x1), zmk, zmk] [zj 0] w ov w' c s
      refine Zr_st (q := (39, [zp a0, zj x1, zj x2, zj r_3, zj r_6, zj (zgi rm x1), zj 0, zmk], [])) rfl rfl rfl ?_
      show Zr sc 143 39 [zp a0, zj x1, zj x2, zj r_3, zj r_6, zj (zgi rm x1), zj 0, zmk] [] w ov w' c s
      exact h
    · replace h := h.2 hp
      show Zr sc 143 32 [zp a0, zj x1, zj x2, zj r_3, zj r_6, zj (zgi rm x1), zmk, zmk] [] w ov w' c s
      refine rl_ic rfl ?_
      show Zr sc 143 33 [zp a0, zj x1, zj x2, zj r_3, zj r_6, zj (zgi rm x1), zmk, zmk] [zj 1] w ov w' c s
      refine Zr_st (q := (37, [zp a0, zj x1, zj x2, zj r_3, zj r_6, zj (zgi rm x1), zmk, zmk], [zj 1])) rfl rfl rfl ?_
      show Zr sc 143 37 [zp a0, zj x1, zj x2, zj r_3, zj r_6, zj (zgi rm x1), zmk, zmk] [zj 1] w ov w' c s
      refine Zr_st (q := (39, [zp a0, zj x1, zj x2, zj r_3, zj r_6, zj (zgi rm x1), zj 1, zmk], [])) rfl rfl rfl ?_
      show Zr sc 143 39 [zp a0, zj x1, zj x2, zj r_3, zj r_6, zj (zgi rm x1), zj 1, zmk] [] w ov w' c s
      exact h
set_option maxRecDepth 100000 in
theorem V143_39 {sc : List Value} {w w' : List zE} {ov : Option Value} {c s : Nat} {a0 : Nat} {x1 : Int} {x2 : Int} {x3 : Int} {x4 : Int} {x5 : Int} {x6 : Int} {dr : Int} {wy : Int} {st : Int} {hd : Int} {nm : Int} {ar : Int} {hn : Int} {pk : Int} {D : Nat} {tl : Int} {cn : List Int} {ow : List Int} (L0 : w[a0]? = some (zob 7 [zp (a0 + 1), .ref 0, zj dr, zj wy, zj st, zj hd, zp (a0 + 73), zj nm, zp (a0 + 74), zp (a0 + 75), zp (a0 + 76), zj ar, zj hn, zp (a0 + 77), zj pk, zp D, zj tl])) (L77 : w[(a0 + 77)]? = some (za cn)) (L73 : w[(a0 + 73)]? = some (za ow)) (h : ((zrg x6) ∧ ((x6 ≠ 0 → Zr sc 143 112 [zp a0, zj x1, zj x2, zj x3, zj x4, zj x5, zj x6, zmk] [] w ov w' c s) ∧ (¬ (x6 ≠ 0) → ((zrg wy ∧ zrg 4) ∧ ((4 ≤ wy → Zr sc 143 112 [zp a0, zj x1, zj x2, zj x3, zj x4, zj x5, zj x6, zmk] [] w ov w' c s) ∧ (¬ (4 ≤ wy) → ((zrg x4 ∧ zrg x5) ∧ ((x5 ≤ x4 → Zr sc 143 112 [zp a0, zj x1, zj x2, zj x3, zj x4, zj x5, zj x6, zmk] [] w ov w' c s) ∧ (¬ (x5 ≤ x4) → (((0 : Int) ≤ 2 ∧ 2 < (cn.length : Int) ∧ 2 ≤ (2147483647 : Int)) ∧ ((zrg (x3 + x5) ∧ zrg 1024) ∧ ((1024 ≤ (x3 + x5) → (((0 : Int) ≤ 2 ∧ 2 < (cn.length : Int) ∧ 2 ≤ (2147483647 : Int)) ∧ (∃ w_7 : List zE, Zc sc 131 [zp a0, zj (x3 + x4), zj (x5 - x4), zj (-1)] (w.set (a0 + 77) (za (zsi cn 2 ((zgi cn 2) + 0)))) none w_7 0 0 ∧ Zr sc 143 112 [zp a0, zj x1, zj x2, zj x3, zj x4, zj x5, zj 1, zmk] [] w_7 ov w' c s))) ∧ (¬ (1024 ≤ (x3 + x5)) → (((0 : Int) ≤ (x3 + x5) ∧ (x3 + x5) < (ow.length : Int) ∧ (x3 + x5) ≤ (2147483647 : Int)) ∧ ((zrg (zgi ow (x3 + x5))) ∧ ((0 ≤ (zgi ow (x3 + x5)) → (((0 : Int) ≤ 2 ∧ 2 < (cn.length : Int) ∧ 2 ≤ (2147483647 : Int)) ∧ (∃ w_12 : List zE, Zc sc 131 [zp a0, zj (x3 + x4), zj (x5 - x4), zj (-1)] (w.set (a0 + 77) (za (zsi cn 2 ((zgi cn 2) + 0)))) none w_12 0 0 ∧ Zr sc 143 112 [zp a0, zj x1, zj x2, zj x3, zj x4, zj x5, zj 1, zmk] [] w_12 ov w' c s))) ∧ (¬ (0 ≤ (zgi ow (x3 + x5))) → (((0 : Int) ≤ 2 ∧ 2 < (cn.length : Int) ∧ 2 ≤ (2147483647 : Int)) ∧ (∃ w_15 : List zE, Zc sc 131 [zp a0, zj (x3 + x4), zj (x5 - x4), zj (-1)] (w.set (a0 + 77) (za (zsi cn 2 ((zgi cn 2) + 1)))) none w_15 0 0 ∧ Zr sc 143 112 [zp a0, zj x1, zj x2, zj x3, zj x4, zj x5, zj 1, zmk] [] w_15 ov w' c s)))))))))))))))))))) : Zr sc 143 39 [zp a0, zj x1, zj x2, zj x3, zj x4, zj x5, zj x6, zmk] [] w ov w' c s := by
  refine Zr_st (q := (41, [zp a0, zj x1, zj x2, zj x3, zj x4, zj x5, zj x6, zmk], [zj x6])) rfl rfl rfl ?_
  show Zr sc 143 41 [zp a0, zj x1, zj x2, zj x3, zj x4, zj x5, zj x6, zmk] [zj x6] w ov w' c s
  obtain ⟨hr_1, h⟩ := h
  refine Zr_b0 (p := x6 ≠ 0) rfl rfl (zcmp_0 (cnd := .ne) hr_1) (fun hp => ?_) (fun hp => ?_)
  · replace h := h.1 hp
    show Zr sc 143 112 [zp a0, zj x1, zj x2, zj x3, zj x4, zj x5, zj x6, zmk] [] w ov w' c s
    exact h
  · replace h := h.2 hp
    show Zr sc 143 44 [zp a0, zj x1, zj x2, zj x3, zj x4, zj x5, zj x6, zmk] [] w ov w' c s
    refine Zr_st (q := (45, [zp a0, zj x1, zj x2, zj x3, zj x4, zj x5, zj x6, zmk], [zp a0])) rfl rfl rfl ?_
    show Zr sc 143 45 [zp a0, zj x1, zj x2, zj x3, zj x4, zj x5, zj x6, zmk] [zp a0] w ov w' c s
    refine rl_gf rfl L0 rfl rfl ?_
    show Zr sc 143 48 [zp a0, zj x1, zj x2, zj x3, zj x4, zj x5, zj x6, zmk] [zj wy] w ov w' c s
    refine rl_ic rfl ?_
    show Zr sc 143 49 [zp a0, zj x1, zj x2, zj x3, zj x4, zj x5, zj x6, zmk] [zj 4, zj wy] w ov w' c s
    obtain ⟨hr_2, h⟩ := h
    refine Zr_br (p := 4 ≤ wy) rfl rfl (zcmp_j (cnd := .ge) hr_2.1 hr_2.2) (fun hp => ?_) (fun hp => ?_)
    · replace h := h.1 hp
      show Zr sc 143 112 [zp a0, zj x1, zj x2, zj x3, zj x4, zj x5, zj x6, zmk] [] w ov w' c s
      exact h
    · replace h := h.2 hp
      show Zr sc 143 52 [zp a0, zj x1, zj x2, zj x3, zj x4, zj x5, zj x6, zmk] [] w ov w' c s
      refine Zr_st (q := (54, [zp a0, zj x1, zj x2, zj x3, zj x4, zj x5, zj x6, zmk], [zj x4])) rfl rfl rfl ?_
      show Zr sc 143 54 [zp a0, zj x1, zj x2, zj x3, zj x4, zj x5, zj x6, zmk] [zj x4] w ov w' c s
      refine Zr_st (q := (56, [zp a0, zj x1, zj x2, zj x3, zj x4, zj x5, zj x6, zmk], [zj x5, zj x4])) rfl rfl rfl ?_
      show Zr sc 143 56 [zp a0, zj x1, zj x2, zj x3, zj x4, zj x5, zj x6, zmk] [zj x5, zj x4] w ov w' c s
      obtain ⟨hr_3, h⟩ := h
      refine Zr_br (p := x5 ≤ x4) rfl rfl (zcmp_j (cnd := .ge) hr_3.1 hr_3.2) (fun hp => ?_) (fun hp => ?_)
      · replace h := h.1 hp
        show Zr sc 143 112 [zp a0, zj x1, zj x2, zj x3, zj x4, zj x5, zj x6, zmk] [] w ov w' c s
        exact h
      · replace h := h.2 hp
        show Zr sc 143 59 [zp a0, zj x1, zj x2, zj x3, zj x4, zj x5, zj x6, zmk] [] w ov w' c s
        refine rl_ic rfl ?_
        show Zr sc 143 60 [zp a0, zj x1, zj x2, zj x3, zj x4, zj x5, zj x6, zmk] [zj 1] w ov w' c s
        refine Zr_st (q := (62, [zp a0, zj x1, zj x2, zj x3, zj x4, zj x5, zj 1, zmk], [])) rfl rfl rfl ?_
        show Zr sc 143 62 [zp a0, zj x1, zj x2, zj x3, zj x4, zj x5, zj 1, zmk] [] w ov w' c s
        refine Zr_st (q := (63, [zp a0, zj x1, zj x2, zj x3, zj x4, zj x5, zj 1, zmk], [zp a0])) rfl rfl rfl ?_
        show Zr sc 143 63 [zp a0, zj x1, zj x2, zj x3, zj x4, zj x5, zj 1, zmk] [zp a0] w ov w' c s
        refine rl_gf rfl L0 rfl rfl ?_
        show Zr sc 143 66 [zp a0, zj x1, zj x2, zj x3, zj x4, zj x5, zj 1, zmk] [zp (a0 + 77)] w ov w' c s
        refine rl_ic rfl ?_
        show Zr sc 143 67 [zp a0, zj x1, zj x2, zj x3, zj x4, zj x5, zj 1, zmk] [zj 2, zp (a0 + 77)] w ov w' c s
        refine Zr_st (q := (68, [zp a0, zj x1, zj x2, zj x3, zj x4, zj x5, zj 1, zmk], [zj 2, zp (a0 + 77), zj 2, zp (a0 + 77)])) rfl rfl rfl ?_
        show Zr sc 143 68 [zp a0, zj x1, zj x2, zj x3, zj x4, zj x5, zj 1, zmk] [zj 2, zp (a0 + 77), zj 2, zp (a0 + 77)] w ov w' c s
        obtain ⟨hi_4, h⟩ := h
        refine rl_ia rfl L77 hi_4.1 hi_4.2.1 hi_4.2.2 ?_
        show Zr sc 143 69 [zp a0, zj x1, zj x2, zj x3, zj x4, zj x5, zj 1, zmk] [zj (zgi cn 2), zj 2, zp (a0 + 77)] w ov w' c s
        refine Zr_st (q := (70, [zp a0, zj x1, zj x2, zj x3, zj x4, zj x5, zj 1, zmk], [zj x3, zj (zgi cn 2), zj 2, zp (a0 + 77)])) rfl rfl rfl ?_
        show Zr sc 143 70 [zp a0, zj x1, zj x2, zj x3, zj x4, zj x5, zj 1, zmk] [zj x3, zj (zgi cn 2), zj 2, zp (a0 + 77)] w ov w' c s
        refine Zr_st (q := (72, [zp a0, zj x1, zj x2, zj x3, zj x4, zj x5, zj 1, zmk], [zj x5, zj x3, zj (zgi cn 2), zj 2, zp (a0 + 77)])) rfl rfl rfl ?_
        show Zr sc 143 72 [zp a0, zj x1, zj x2, zj x3, zj x4, zj x5, zj 1, zmk] [zj x5, zj x3, zj (zgi cn 2), zj 2, zp (a0 + 77)] w ov w' c s
        refine rl_add rfl ?_
        show Zr sc 143 73 [zp a0, zj x1, zj x2, zj x3, zj x4, zj x5, zj 1, zmk] [zj (x3 + x5), zj (zgi cn 2), zj 2, zp (a0 + 77)] w ov w' c s
        refine rl_si rfl (by decide) ?_
        show Zr sc 143 76 [zp a0, zj x1, zj x2, zj x3, zj x4, zj x5, zj 1, zmk] [zj 1024, zj (x3 + x5), zj (zgi cn 2), zj 2, zp (a0 + 77)] w ov w' c s
        obtain ⟨hr_5, h⟩ := h
        refine Zr_br (p := 1024 ≤ (x3 + x5)) rfl rfl (zcmp_j (cnd := .ge) hr_5.1 hr_5.2) (fun hp => ?_) (fun hp => ?_)
        · replace h := h.1 hp
          show Zr sc 143 95 [zp a0, zj x1, zj x2, zj x3, zj x4, zj x5, zj 1, zmk] [zj (zgi cn 2), zj 2, zp (a0 + 77)] w ov w' c s
          refine rl_ic rfl ?_
          show Zr sc 143 96 [zp a0, zj x1, zj x2, zj x3, zj x4, zj x5, zj 1, zmk] [zj 0, zj (zgi cn 2), zj 2, zp (a0 + 77)] w ov w' c s
          refine rl_add rfl ?_
          show Zr sc 143 97 [zp a0, zj x1, zj x2, zj x3, zj x4, zj x5, zj 1, zmk] [zj ((zgi cn 2) + 0), zj 2, zp (a0 + 77)] w ov w' c s
          obtain ⟨hi_6, h⟩ := h
          refine rl_is rfl L77 hi_6.1 hi_6.2.1 hi_6.2.2 ?_
          show Zr sc 143 98 [zp a0, zj x1, zj x2, zj x3, zj x4, zj x5, zj 1, zmk] [] (w.set (a0 + 77) (za (zsi cn 2 ((zgi cn 2) + 0)))) ov w' c s
          refine Zr_st (q := (99, [zp a0, zj x1, zj x2, zj x3, zj x4, zj x5, zj 1, zmk], [zp a0])) rfl rfl rfl ?_
          show Zr sc 143 99 [zp a0, zj x1, zj x2, zj x3, zj x4, zj x5, zj 1, zmk] [zp a0] (w.set (a0 + 77) (za (zsi cn 2 ((zgi cn 2) + 0)))) ov w' c s
          refine Zr_st (q := (100, [zp a0, zj x1, zj x2, zj x3, zj x4, zj x5, zj 1, zmk], [zj x3, zp a0])) rfl rfl rfl ?_
          show Zr sc 143 100 [zp a0, zj x1, zj x2, zj x3, zj x4, zj x5, zj 1, zmk] [zj x3, zp a0] (w.set (a0 + 77) (za (zsi cn 2 ((zgi cn 2) + 0)))) ov w' c s
          refine Zr_st (q := (102, [zp a0, zj x1, zj x2, zj x3, zj x4, zj x5, zj 1, zmk], [zj x4, zj x3, zp a0])) rfl rfl rfl ?_
          show Zr sc 143 102 [zp a0, zj x1, zj x2, zj x3, zj x4, zj x5, zj 1, zmk] [zj x4, zj x3, zp a0] (w.set (a0 + 77) (za (zsi cn 2 ((zgi cn 2) + 0)))) ov w' c s
          refine rl_add rfl ?_
          show Zr sc 143 103 [zp a0, zj x1, zj x2, zj x3, zj x4, zj x5, zj 1, zmk] [zj (x3 + x4), zp a0] (w.set (a0 + 77) (za (zsi cn 2 ((zgi cn 2) + 0)))) ov w' c s
          refine Zr_st (q := (105, [zp a0, zj x1, zj x2, zj x3, zj x4, zj x5, zj 1, zmk], [zj x5, zj (x3 + x4), zp a0])) rfl rfl rfl ?_
          show Zr sc 143 105 [zp a0, zj x1, zj x2, zj x3, zj x4, zj x5, zj 1, zmk] [zj x5, zj (x3 + x4), zp a0] (w.set (a0 + 77) (za (zsi cn 2 ((zgi cn 2) + 0)))) ov w' c s
          refine Zr_st (q := (107, [zp a0, zj x1, zj x2, zj x3, zj x4, zj x5, zj 1, zmk], [zj x4, zj x5, zj (x3 + x4), zp a0])) rfl rfl rfl ?_
          show Zr sc 143 107 [zp a0, zj x1, zj x2, zj x3, zj x4, zj x5, zj 1, zmk] [zj x4, zj x5, zj (x3 + x4), zp a0] (w.set (a0 + 77) (za (zsi cn 2 ((zgi cn 2) + 0)))) ov w' c s
          refine rl_sub rfl ?_
          show Zr sc 143 108 [zp a0, zj x1, zj x2, zj x3, zj x4, zj x5, zj 1, zmk] [zj (x5 - x4), zj (x3 + x4), zp a0] (w.set (a0 + 77) (za (zsi cn 2 ((zgi cn 2) + 0)))) ov w' c s
          refine rl_ic rfl ?_
          show Zr sc 143 109 [zp a0, zj x1, zj x2, zj x3, zj x4, zj x5, zj 1, zmk] [zj (-1), zj (x5 - x4), zj (x3 + x4), zp a0] (w.set (a0 + 77) (za (zsi cn 2 ((zgi cn 2) + 0)))) ov w' c s
          obtain ⟨w_7, hk_8, h⟩ := h
          refine rn_cal0 (ins := .invokevirtual 110) (rest := []) rfl rfl rfl rfl (zinv_v (fs := _) (zw_o (by omega) L0) rfl rfl rfl rfl) rfl rfl hk_8 ?_
          show Zr sc 143 112 [zp a0, zj x1, zj x2, zj x3, zj x4, zj x5, zj 1, zmk] [] w_7 ov w' c s
          exact h
        · replace h := h.2 hp
          show Zr sc 143 79 [zp a0, zj x1, zj x2, zj x3, zj x4, zj x5, zj 1, zmk] [zj (zgi cn 2), zj 2, zp (a0 + 77)] w ov w' c s
          refine Zr_st (q := (80, [zp a0, zj x1, zj x2, zj x3, zj x4, zj x5, zj 1, zmk], [zp a0, zj (zgi cn 2), zj 2, zp (a0 + 77)])) rfl rfl rfl ?_
          show Zr sc 143 80 [zp a0, zj x1, zj x2, zj x3, zj x4, zj x5, zj 1, zmk] [zp a0, zj (zgi cn 2), zj 2, zp (a0 + 77)] w ov w' c s
          refine rl_gf rfl L0 rfl rfl ?_
          show Zr sc 143 83 [zp a0, zj x1, zj x2, zj x3, zj x4, zj x5, zj 1, zmk] [zp (a0 + 73), zj (zgi cn 2), zj 2, zp (a0 + 77)] w ov w' c s
          refine Zr_st (q := (84, [zp a0, zj x1, zj x2, zj x3, zj x4, zj x5, zj 1, zmk], [zj x3, zp (a0 + 73), zj (zgi cn 2), zj 2, zp (a0 + 77)])) rfl rfl rfl ?_
          show Zr sc 143 84 [zp a0, zj x1, zj x2, zj x3, zj x4, zj x5, zj 1, zmk] [zj x3, zp (a0 + 73), zj (zgi cn 2), zj 2, zp (a0 + 77)] w ov w' c s
          refine Zr_st (q := (86, [zp a0, zj x1, zj x2, zj x3, zj x4, zj x5, zj 1, zmk], [zj x5, zj x3, zp (a0 + 73), zj (zgi cn 2), zj 2, zp (a0 + 77)])) rfl rfl rfl ?_
          show Zr sc 143 86 [zp a0, zj x1, zj x2, zj x3, zj x4, zj x5, zj 1, zmk] [zj x5, zj x3, zp (a0 + 73), zj (zgi cn 2), zj 2, zp (a0 + 77)] w ov w' c s
          refine rl_add rfl ?_
          show Zr sc 143 87 [zp a0, zj x1, zj x2, zj x3, zj x4, zj x5, zj 1, zmk] [zj (x3 + x5), zp (a0 + 73), zj (zgi cn 2), zj 2, zp (a0 + 77)] w ov w' c s
          obtain ⟨hi_9, h⟩ := h
          refine rl_ia rfl L73 hi_9.1 hi_9.2.1 hi_9.2.2 ?_
          show Zr sc 143 88 [zp a0, zj x1, zj x2, zj x3, zj x4, zj x5, zj 1, zmk] [zj (zgi ow (x3 + x5)), zj (zgi cn 2), zj 2, zp (a0 + 77)] w ov w' c s
          obtain ⟨hr_10, h⟩ := h
          refine Zr_b0 (p := 0 ≤ (zgi ow (x3 + x5))) rfl rfl (zcmp_0 (cnd := .ge) hr_10) (fun hp => ?_) (fun hp => ?_)
          · replace h := h.1 hp
            show Zr sc 143 95 [zp a0, zj x1, zj x2, zj x3, zj x4, zj x5, zj 1, zmk] [zj (zgi cn 2), zj 2, zp (a0 + 77)] w ov w' c s
            refine rl_ic rfl ?_
            show Zr sc 143 96 [zp a0, zj x1, zj x2, zj x3, zj x4, zj x5, zj 1, zmk] [zj 0, zj (zgi cn 2), zj 2, zp (a0 + 77)] w ov w' c s
            refine rl_add rfl ?_
            show Zr sc 143 97 [zp a0, zj x1, zj x2, zj x3, zj x4, zj x5, zj 1, zmk] [zj ((zgi cn 2) + 0), zj 2, zp (a0 + 77)] w ov w' c s
            obtain ⟨hi_11, h⟩ := h
            refine rl_is rfl L77 hi_11.1 hi_11.2.1 hi_11.2.2 ?_
            show Zr sc 143 98 [zp a0, zj x1, zj x2, zj x3, zj x4, zj x5, zj 1, zmk] [] (w.set (a0 + 77) (za (zsi cn 2 ((zgi cn 2) + 0)))) ov w' c s
            refine Zr_st (q := (99, [zp a0, zj x1, zj x2, zj x3, zj x4, zj x5, zj 1, zmk], [zp a0])) rfl rfl rfl ?_
            show Zr sc 143 99 [zp a0, zj x1, zj x2, zj x3, zj x4, zj x5, zj 1, zmk] [zp a0] (w.set (a0 + 77) (za (zsi cn 2 ((zgi cn 2) + 0)))) ov w' c s
            refine Zr_st (q := (100, [zp a0, zj x1, zj x2, zj x3, zj x4, zj x5, zj 1, zmk], [zj x3, zp a0])) rfl rfl rfl ?_
            show Zr sc 143 100 [zp a0, zj x1, zj x2, zj x3, zj x4, zj x5, zj 1, zmk] [zj x3, zp a0] (w.set (a0 + 77) (za (zsi cn 2 ((zgi cn 2) + 0)))) ov w' c s
            refine Zr_st (q := (102, [zp a0, zj x1, zj x2, zj x3, zj x4, zj x5, zj 1, zmk], [zj x4, zj x3, zp a0])) rfl rfl rfl ?_
            show Zr sc 143 102 [zp a0, zj x1, zj x2, zj x3, zj x4, zj x5, zj 1, zmk] [zj x4, zj x3, zp a0] (w.set (a0 + 77) (za (zsi cn 2 ((zgi cn 2) + 0)))) ov w' c s
            refine rl_add rfl ?_
            show Zr sc 143 103 [zp a0, zj x1, zj x2, zj x3, zj x4, zj x5, zj 1, zmk] [zj (x3 + x4), zp a0] (w.set (a0 + 77) (za (zsi cn 2 ((zgi cn 2) + 0)))) ov w' c s
            refine Zr_st (q := (105, [zp a0, zj x1, zj x2, zj x3, zj x4, zj x5, zj 1, zmk], [zj x5, zj (x3 + x4), zp a0])) rfl rfl rfl ?_
            show Zr sc 143 105 [zp a0, zj x1, zj x2, zj x3, zj x4, zj x5, zj 1, zmk] [zj x5, zj (x3 + x4), zp a0] (w.set (a0 + 77) (za (zsi cn 2 ((zgi cn 2) + 0)))) ov w' c s
            refine Zr_st (q := (107, [zp a0, zj x1, zj x2, zj x3, zj x4, zj x5, zj 1, zmk], [zj x4, zj x5, zj (x3 + x4), zp a0])) rfl rfl rfl ?_
            show Zr sc 143 107 [zp a0, zj x1, zj x2, zj x3, zj x4, zj x5, zj 1, zmk] [zj x4, zj x5, zj (x3 + x4), zp a0] (w.set (a0 + 77) (za (zsi cn 2 ((zgi cn 2) + 0)))) ov w' c s
            refine rl_sub rfl ?_
            show Zr sc 143 108 [zp a0, zj x1, zj x2, zj x3, zj x4, zj x5, zj 1, zmk] [zj (x5 - x4), zj (x3 + x4), zp a0] (w.set (a0 + 77) (za (zsi cn 2 ((zgi cn 2) + 0)))) ov w' c s
            refine rl_ic rfl ?_
            show Zr sc 143 109 [zp a0, zj x1, zj x2, zj x3, zj x4, zj x5, zj 1, zmk] [zj (-1), zj (x5 - x4), zj (x3 + x4), zp a0] (w.set (a0 + 77) (za (zsi cn 2 ((zgi cn 2) + 0)))) ov w' c s
            obtain ⟨w_12, hk_13, h⟩ := h
            refine rn_cal0 (ins := .invokevirtual 110) (rest := []) rfl rfl rfl rfl (zinv_v (fs := _) (zw_o (by omega) L0) rfl rfl rfl rfl) rfl rfl hk_13 ?_
            show Zr sc 143 112 [zp a0, zj x1, zj x2, zj x3, zj x4, zj x5, zj 1, zmk] [] w_12 ov w' c s
            exact h
          · replace h := h.2 hp
            show Zr sc 143 91 [zp a0, zj x1, zj x2, zj x3, zj x4, zj x5, zj 1, zmk] [zj (zgi cn 2), zj 2, zp (a0 + 77)] w ov w' c s
            refine rl_ic rfl ?_
            show Zr sc 143 92 [zp a0, zj x1, zj x2, zj x3, zj x4, zj x5, zj 1, zmk] [zj 1, zj (zgi cn 2), zj 2, zp (a0 + 77)] w ov w' c s
            refine Zr_st (q := (96, [zp a0, zj x1, zj x2, zj x3, zj x4, zj x5, zj 1, zmk], [zj 1, zj (zgi cn 2), zj 2, zp (a0 + 77)])) rfl rfl rfl ?_
            show Zr sc 143 96 [zp a0, zj x1, zj x2, zj x3, zj x4, zj x5, zj 1, zmk] [zj 1, zj (zgi cn 2), zj 2, zp (a0 + 77)] w ov w' c s
            refine rl_add rfl ?_
            show Zr sc 143 97 [zp a0, zj x1, zj x2, zj x3, zj x4, zj x5, zj 1, zmk] [zj ((zgi cn 2) + 1), zj 2, zp (a0 + 77)] w ov w' c s
            obtain ⟨hi_14, h⟩ := h
            refine rl_is rfl L77 hi_14.1 hi_14.2.1 hi_14.2.2 ?_
            show Zr sc 143 98 [zp a0, zj x1, zj x2, zj x3, zj x4, zj x5, zj 1, zmk] [] (w.set (a0 + 77) (za (zsi cn 2 ((zgi cn 2) + 1)))) ov w' c s
            refine Zr_st (q := (99, [zp a0, zj x1, zj x2, zj x3, zj x4, zj x5, zj 1, zmk], [zp a0])) rfl rfl rfl ?_
            show Zr sc 143 99 [zp a0, zj x1, zj x2, zj x3, zj x4, zj x5, zj 1, zmk] [zp a0] (w.set (a0 + 77) (za (zsi cn 2 ((zgi cn 2) + 1)))) ov w' c s
            refine Zr_st (q := (100, [zp a0, zj x1, zj x2, zj x3, zj x4, zj x5, zj 1, zmk], [zj x3, zp a0])) rfl rfl rfl ?_
            show Zr sc 143 100 [zp a0, zj x1, zj x2, zj x3, zj x4, zj x5, zj 1, zmk] [zj x3, zp a0] (w.set (a0 + 77) (za (zsi cn 2 ((zgi cn 2) + 1)))) ov w' c s
            refine Zr_st (q := (102, [zp a0, zj x1, zj x2, zj x3, zj x4, zj x5, zj 1, zmk], [zj x4, zj x3, zp a0])) rfl rfl rfl ?_
            show Zr sc 143 102 [zp a0, zj x1, zj x2, zj x3, zj x4, zj x5, zj 1, zmk] [zj x4, zj x3, zp a0] (w.set (a0 + 77) (za (zsi cn 2 ((zgi cn 2) + 1)))) ov w' c s
            refine rl_add rfl ?_
            show Zr sc 143 103 [zp a0, zj x1, zj x2, zj x3, zj x4, zj x5, zj 1, zmk] [zj (x3 + x4), zp a0] (w.set (a0 + 77) (za (zsi cn 2 ((zgi cn 2) + 1)))) ov w' c s
            refine Zr_st (q := (105, [zp a0, zj x1, zj x2, zj x3, zj x4, zj x5, zj 1, zmk], [zj x5, zj (x3 + x4), zp a0])) rfl rfl rfl ?_
            show Zr sc 143 105 [zp a0, zj x1, zj x2, zj x3, zj x4, zj x5, zj 1, zmk] [zj x5, zj (x3 + x4), zp a0] (w.set (a0 + 77) (za (zsi cn 2 ((zgi cn 2) + 1)))) ov w' c s
            refine Zr_st (q := (107, [zp a0, zj x1, zj x2, zj x3, zj x4, zj x5, zj 1, zmk], [zj x4, zj x5, zj (x3 + x4), zp a0])) rfl rfl rfl ?_
            show Zr sc 143 107 [zp a0, zj x1, zj x2, zj x3, zj x4, zj x5, zj 1, zmk] [zj x4, zj x5, zj (x3 + x4), zp a0] (w.set (a0 + 77) (za (zsi cn 2 ((zgi cn 2) + 1)))) ov w' c s
            refine rl_sub rfl ?_
            show Zr sc 143 108 [zp a0, zj x1, zj x2, zj x3, zj x4, zj x5, zj 1, zmk] [zj (x5 - x4), zj (x3 + x4), zp a0] (w.set (a0 + 77) (za (zsi cn 2 ((zgi cn 2) + 1)))) ov w' c s
            refine rl_ic rfl ?_
            show Zr sc 143 109 [zp a0, zj x1, zj x2, zj x3, zj x4, zj x5, zj 1, zmk] [zj (-1), zj (x5 - x4), zj (x3 + x4), zp a0] (w.set (a0 + 77) (za (zsi cn 2 ((zgi cn 2) + 1)))) ov w' c s
            obtain ⟨w_15, hk_16, h⟩ := h
            refine rn_cal0 (ins := .invokevirtual 110) (rest := []) rfl rfl rfl rfl (zinv_v (fs := _) (zw_o (by omega) L0) rfl rfl rfl rfl) rfl rfl hk_16 ?_
            show Zr sc 143 112 [zp a0, zj x1, zj x2, zj x3, zj x4, zj x5, zj 1, zmk] [] w_15 ov w' c s
            exact h
set_option maxRecDepth 100000 in
theorem V143_112 {sc : List Value} {w w' : List zE} {ov : Option Value} {c s : Nat} {a0 : Nat} {x1 : Int} {x2 : Int} {x3 : Int} {x4 : Int} {x5 : Int} {x6 : Int} {dr : Int} {wy : Int} {st : Int} {hd : Int} {nm : Int} {ar : Int} {hn : Int} {pk : Int} {D : Nat} {tl : Int} (L0 : w[a0]? = some (zob 7 [zp (a0 + 1), .ref 0, zj dr, zj wy, zj st, zj hd, zp (a0 + 73), zj nm, zp (a0 + 74), zp (a0 + 75), zp (a0 + 76), zj ar, zj hn, zp (a0 + 77), zj pk, zp D, zj tl])) (h : ((zrg x6) ∧ ((x6 ≠ 0 → Zr sc 143 204 [zp a0, zj x1, zj x2, zj x3, zj x4, zj x5, zj x6, zmk] [] w ov w' c s) ∧ (¬ (x6 ≠ 0) → ((zrg wy ∧ zrg 4) ∧ ((4 ≤ wy → Zr sc 143 204 [zp a0, zj x1, zj x2, zj x3, zj x4, zj x5, zj x6, zmk] [] w ov w' c s) ∧ (¬ (4 ≤ wy) → ((zrg (x3 + x4) ∧ zrg 1024) ∧ ((1024 < (x3 + x4) → Zr sc 143 204 [zp a0, zj x1, zj x2, zj x3, zj x4, zj x5, zj x6, zmk] [] w ov w' c s) ∧ (¬ (1024 < (x3 + x4)) → (∃ r_6 : Int, Zc sc 128 [zp a0, zj (x3 + x5), zj (x4 - x5)] w (some (zj r_6)) w 0 0 ∧ ((zrg r_6) ∧ ((r_6 = 0 → Zr sc 143 204 [zp a0, zj x1, zj x2, zj x3, zj x4, zj x5, zj x6, zmk] [] w ov w' c s) ∧ (¬ (r_6 = 0) → (∃ w_8 : List zE, Zc sc 131 [zp a0, zj (x3 + x5), zj (x4 - x5), zj x1] w none w_8 0 0 ∧ (∃ dr_11 : Int, ∃ wy_12 : Int, ∃ st_13 : Int, ∃ hd_14 : Int, ∃ nm_15 : Int, ∃ ar_16 : Int, ∃ hn_17 : Int, ∃ pk_18 : Int, ∃ D_19 : Nat, ∃ tl_20 : Int, w_8[a0]? = some (zob 7 [zp (a0 + 1), .ref 0, zj dr_11, zj wy_12, zj st_13, zj hd_14, zp (a0 + 73), zj nm_15, zp (a0 + 74), zp (a0 + 75), zp (a0 + 76), zj ar_16, zj hn_17, zp (a0 + 77), zj pk_18, zp D_19, zj tl_20]) ∧ (∃ l_23 : List Int, w_8[(a0 + 77)]? = some (za l_23) ∧ (((0 : Int) ≤ 1 ∧ 1 < (l_23.length : Int) ∧ 1 ≤ (2147483647 : Int)) ∧ ((zrg (x3 + x4) ∧ zrg 1024) ∧ ((1024 ≤ (x3 + x4) → (((0 : Int) ≤ 1 ∧ 1 < (l_23.length : Int) ∧ 1 ≤ (2147483647 : Int)) ∧ Zr sc 143 204 [zp a0, zj x1, zj x2, zj x3, zj x4, zj x5, zj 1, zmk] [] (w_8.set (a0 + 77) (za (zsi l_23 1 ((zgi l_23 1) + 0)))) ov w' c s)) ∧ (¬ (1024 ≤ (x3 + x4)) → (∃ l_28 : List Int, w_8[(a0 + 73)]? = some (za l_28) ∧ (((0 : Int) ≤ (x3 + x4) ∧ (x3 + x4) < (l_28.length : Int) ∧ (x3 + x4) ≤ (2147483647 : Int)) ∧ ((zrg (zgi l_28 (x3 + x4))) ∧ ((0 ≤ (zgi l_28 (x3 + x4)) → (((0 : Int) ≤ 1 ∧ 1 < (l_23.length : Int) ∧ 1 ≤ (2147483647 : Int)) ∧ Zr sc 143 204 [zp a0, zj x1, zj x2, zj x3, zj x4, zj x5, zj 1, zmk] [] (w_8.set (a0 + 77) (za (zsi l_23 1 ((zgi l_23 1) + 0)))) ov w' c s)) ∧ (¬ (0 ≤ (zgi l_28 (x3 + x4))) → (((0 : Int) ≤ 1 ∧ 1 < (l_23.length : Int) ∧ 1 ≤ (2147483647 : Int)) ∧ Zr sc 143 204 [zp a0, zj x1, zj x2, zj x3, zj x4, zj x5, zj 1, zmk] [] (w_8.set (a0 + 77) (za (zsi l_23 1 ((zgi l_23 1) + 1)))) ov w' c s))))))))))))))))))))))))))) : Zr sc 143 112 [zp a0, zj x1, zj x2, zj x3, zj x4, zj x5, zj x6, zmk] [] w ov w' c s := by
  refine Zr_st (q := (114, [zp a0, zj x1, zj x2, zj x3, zj x4, zj x5, zj x6, zmk], [zj x6])) rfl rfl rfl ?_
  show Zr sc 143 114 [zp a0, zj x1, zj x2, zj x3, zj x4, zj x5, zj x6, zmk] [zj x6] w ov w' c s
  obtain ⟨hr_1, h⟩ := h
  refine Zr_b0 (p := x6 ≠ 0) rfl rfl (zcmp_0 (cnd := .ne) hr_1) (fun hp => ?_) (fun hp => ?_)
  · replace h := h.1 hp
    show Zr sc 143 204 [zp a0, zj x1, zj x2, zj x3, zj x4, zj x5, zj x6, zmk] [] w ov w' c s
    exact h
  · replace h := h.2 hp
    show Zr sc 143 117 [zp a0, zj x1, zj x2, zj x3, zj x4, zj x5, zj x6, zmk] [] w ov w' c s
    refine Zr_st (q := (118, [zp a0, zj x1, zj x2, zj x3, zj x4, zj x5, zj x6, zmk], [zp a0])) rfl rfl rfl ?_
    show Zr sc 143 118 [zp a0, zj x1, zj x2, zj x3, zj x4, zj x5, zj x6, zmk] [zp a0] w ov w' c s
    refine rl_gf rfl L0 rfl rfl ?_
    show Zr sc 143 121 [zp a0, zj x1, zj x2, zj x3, zj x4, zj x5, zj x6, zmk] [zj wy] w ov w' c s
    refine rl_ic rfl ?_
    show Zr sc 143 122 [zp a0, zj x1, zj x2, zj x3, zj x4, zj x5, zj x6, zmk] [zj 4, zj wy] w ov w' c s
    obtain ⟨hr_2, h⟩ := h
    refine Zr_br (p := 4 ≤ wy) rfl rfl (zcmp_j (cnd := .ge) hr_2.1 hr_2.2) (fun hp => ?_) (fun hp => ?_)
    · replace h := h.1 hp
      show Zr sc 143 204 [zp a0, zj x1, zj x2, zj x3, zj x4, zj x5, zj x6, zmk] [] w ov w' c s
      exact h
    · replace h := h.2 hp
      show Zr sc 143 125 [zp a0, zj x1, zj x2, zj x3, zj x4, zj x5, zj x6, zmk] [] w ov w' c s
      refine Zr_st (q := (126, [zp a0, zj x1, zj x2, zj x3, zj x4, zj x5, zj x6, zmk], [zj x3])) rfl rfl rfl ?_
      show Zr sc 143 126 [zp a0, zj x1, zj x2, zj x3, zj x4, zj x5, zj x6, zmk] [zj x3] w ov w' c s
      refine Zr_st (q := (128, [zp a0, zj x1, zj x2, zj x3, zj x4, zj x5, zj x6, zmk], [zj x4, zj x3])) rfl rfl rfl ?_
      show Zr sc 143 128 [zp a0, zj x1, zj x2, zj x3, zj x4, zj x5, zj x6, zmk] [zj x4, zj x3] w ov w' c s
      refine rl_add rfl ?_
      show Zr sc 143 129 [zp a0, zj x1, zj x2, zj x3, zj x4, zj x5, zj x6, zmk] [zj (x3 + x4)] w ov w' c s
      refine rl_si rfl (by decide) ?_
      show Zr sc 143 132 [zp a0, zj x1, zj x2, zj x3, zj x4, zj x5, zj x6, zmk] [zj 1024, zj (x3 + x4)] w ov w' c s
      obtain ⟨hr_3, h⟩ := h
      refine Zr_br (p := 1024 < (x3 + x4)) rfl rfl (zcmp_j (cnd := .gt) hr_3.1 hr_3.2) (fun hp => ?_) (fun hp => ?_)
      · replace h := h.1 hp
        show Zr sc 143 204 [zp a0, zj x1, zj x2, zj x3, zj x4, zj x5, zj x6, zmk] [] w ov w' c s
        exact h
      · replace h := h.2 hp
        show Zr sc 143 135 [zp a0, zj x1, zj x2, zj x3, zj x4, zj x5, zj x6, zmk] [] w ov w' c s
        refine Zr_st (q := (136, [zp a0, zj x1, zj x2, zj x3, zj x4, zj x5, zj x6, zmk], [zp a0])) rfl rfl rfl ?_
        show Zr sc 143 136 [zp a0, zj x1, zj x2, zj x3, zj x4, zj x5, zj x6, zmk] [zp a0] w ov w' c s
        refine Zr_st (q := (137, [zp a0, zj x1, zj x2, zj x3, zj x4, zj x5, zj x6, zmk], [zj x3, zp a0])) rfl rfl rfl ?_
        show Zr sc 143 137 [zp a0, zj x1, zj x2, zj x3, zj x4, zj x5, zj x6, zmk] [zj x3, zp a0] w ov w' c s
        refine Zr_st (q := (139, [zp a0, zj x1, zj x2, zj x3, zj x4, zj x5, zj x6, zmk], [zj x5, zj x3, zp a0])) rfl rfl rfl ?_
        show Zr sc 143 139 [zp a0, zj x1, zj x2, zj x3, zj x4, zj x5, zj x6, zmk] [zj x5, zj x3, zp a0] w ov w' c s
        refine rl_add rfl ?_
        show Zr sc 143 140 [zp a0, zj x1, zj x2, zj x3, zj x4, zj x5, zj x6, zmk] [zj (x3 + x5), zp a0] w ov w' c s
        refine Zr_st (q := (142, [zp a0, zj x1, zj x2, zj x3, zj x4, zj x5, zj x6, zmk], [zj x4, zj (x3 + x5), zp a0])) rfl rfl rfl ?_
        show Zr sc 143 142 [zp a0, zj x1, zj x2, zj x3, zj x4, zj x5, zj x6, zmk] [zj x4, zj (x3 + x5), zp a0] w ov w' c s
        refine Zr_st (q := (144, [zp a0, zj x1, zj x2, zj x3, zj x4, zj x5, zj x6, zmk], [zj x5, zj x4, zj (x3 + x5), zp a0])) rfl rfl rfl ?_
        show Zr sc 143 144 [zp a0, zj x1, zj x2, zj x3, zj x4, zj x5, zj x6, zmk] [zj x5, zj x4, zj (x3 + x5), zp a0] w ov w' c s
        refine rl_sub rfl ?_
        show Zr sc 143 145 [zp a0, zj x1, zj x2, zj x3, zj x4, zj x5, zj x6, zmk] [zj (x4 - x5), zj (x3 + x5), zp a0] w ov w' c s
        obtain ⟨r_6, hk_9, h⟩ := h
        refine rn_cal0 (ins := .invokevirtual 79) (rest := []) rfl rfl rfl rfl (zinv_v (fs := _) L0 rfl rfl rfl rfl) rfl rfl hk_9 ?_
        show Zr sc 143 148 [zp a0, zj x1, zj x2, zj x3, zj x4, zj x5, zj x6, zmk] [zj r_6] w ov w' c s
        obtain ⟨hr_7, h⟩ := h
        refine Zr_b0 (p := r_6 = 0) rfl rfl (zcmp_0 (cnd := .eq) hr_7) (fun hp => ?_) (fun hp => ?_)
        · replace h := h.1 hp
          show Zr sc 143 204 [zp a0, zj x1, zj x2, zj x3, zj x4, zj x5, zj x6, zmk] [] w ov w' c s
          exact h
        · replace h := h.2 hp
          show Zr sc 143 151 [zp a0, zj x1, zj x2, zj x3, zj x4, zj x5, zj x6, zmk] [] w ov w' c s
          refine rl_ic rfl ?_
          show Zr sc 143 152 [zp a0, zj x1, zj x2, zj x3, zj x4, zj x5, zj x6, zmk] [zj 1] w ov w' c s
          refine Zr_st (q := (154, [zp a0, zj x1, zj x2, zj x3, zj x4, zj x5, zj 1, zmk], [])) rfl rfl rfl ?_
          show Zr sc 143 154 [zp a0, zj x1, zj x2, zj x3, zj x4, zj x5, zj 1, zmk] [] w ov w' c s
          refine Zr_st (q := (155, [zp a0, zj x1, zj x2, zj x3, zj x4, zj x5, zj 1, zmk], [zp a0])) rfl rfl rfl ?_
          show Zr sc 143 155 [zp a0, zj x1, zj x2, zj x3, zj x4, zj x5, zj 1, zmk] [zp a0] w ov w' c s
          refine Zr_st (q := (156, [zp a0, zj x1, zj x2, zj x3, zj x4, zj x5, zj 1, zmk], [zj x3, zp a0])) rfl rfl rfl ?_
          show Zr sc 143 156 [zp a0, zj x1, zj x2, zj x3, zj x4, zj x5, zj 1, zmk] [zj x3, zp a0] w ov w' c s
          refine Zr_st (q := (158, [zp a0, zj x1, zj x2, zj x3, zj x4, zj x5, zj 1, zmk], [zj x5, zj x3, zp a0])) rfl rfl rfl ?_
          show Zr sc 143 158 [zp a0, zj x1, zj x2, zj x3, zj x4, zj x5, zj 1, zmk] [zj x5, zj x3, zp a0] w ov w' c s
          refine rl_add rfl ?_
          show Zr sc 143 159 [zp a0, zj x1, zj x2, zj x3, zj x4, zj x5, zj 1, zmk] [zj (x3 + x5), zp a0] w ov w' c s
          refine Zr_st (q := (161, [zp a0, zj x1, zj x2, zj x3, zj x4, zj x5, zj 1, zmk], [zj x4, zj (x3 + x5), zp a0])) rfl rfl rfl ?_
          show Zr sc 143 161 [zp a0, zj x1, zj x2, zj x3, zj x4, zj x5, zj 1, zmk] [zj x4, zj (x3 + x5), zp a0] w ov w' c s
          refine Zr_st (q := (163, [zp a0, zj x1, zj x2, zj x3, zj x4, zj x5, zj 1, zmk], [zj x5, zj x4, zj (x3 + x5), zp a0])) rfl rfl rfl ?_
          show Zr sc 143 163 [zp a0, zj x1, zj x2, zj x3, zj x4, zj x5, zj 1, zmk] [zj x5, zj x4, zj (x3 + x5), zp a0] w ov w' c s
          refine rl_sub rfl ?_
          show Zr sc 143 164 [zp a0, zj x1, zj x2, zj x3, zj x4, zj x5, zj 1, zmk] [zj (x4 - x5), zj (x3 + x5), zp a0] w ov w' c s
          refine Zr_st (q := (165, [zp a0, zj x1, zj x2, zj x3, zj x4, zj x5, zj 1, zmk], [zj x1, zj (x4 - x5), zj (x3 + x5), zp a0])) rfl rfl rfl ?_
          show Zr sc 143 165 [zp a0, zj x1, zj x2, zj x3, zj x4, zj x5, zj 1, zmk] [zj x1, zj (x4 - x5), zj (x3 + x5), zp a0] w ov w' c s
          obtain ⟨w_8, hk_9, h⟩ := h
          refine rn_cal0 (ins := .invokevirtual 110) (rest := []) rfl rfl rfl rfl (zinv_v (fs := _) L0 rfl rfl rfl rfl) rfl rfl hk_9 ?_
          show Zr sc 143 168 [zp a0, zj x1, zj x2, zj x3, zj x4, zj x5, zj 1, zmk] [] w_8 ov w' c s
          refine Zr_st (q := (169, [zp a0, zj x1, zj x2, zj x3, zj x4, zj x5, zj 1, zmk], [zp a0])) rfl rfl rfl ?_
          show Zr sc 143 169 [zp a0, zj x1, zj x2, zj x3, zj x4, zj x5, zj 1, zmk] [zp a0] w_8 ov w' c s
          obtain ⟨dr_11, wy_12, st_13, hd_14, nm_15, ar_16, hn_17, pk_18, D_19, tl_20, hw_10, h⟩ := h
          refine rl_gf rfl hw_10 rfl rfl ?_
          show Zr sc 143 172 [zp a0, zj x1, zj x2, zj x3, zj x4, zj x5, zj 1, zmk] [zp (a0 + 77)] w_8 ov w' c s
          refine rl_ic rfl ?_
          show Zr sc 143 173 [zp a0, zj x1, zj x2, zj x3, zj x4, zj x5, zj 1, zmk] [zj 1, zp (a0 + 77)] w_8 ov w' c s
          refine Zr_st (q := (174, [zp a0, zj x1, zj x2, zj x3, zj x4, zj x5, zj 1, zmk], [zj 1, zp (a0 + 77), zj 1, zp (a0 + 77)])) rfl rfl rfl ?_
          show Zr sc 143 174 [zp a0, zj x1, zj x2, zj x3, zj x4, zj x5, zj 1, zmk] [zj 1, zp (a0 + 77), zj 1, zp (a0 + 77)] w_8 ov w' c s
          obtain ⟨l_23, hw_22, h⟩ := h
          obtain ⟨hi_21, h⟩ := h
          refine rl_ia rfl hw_22 hi_21.1 hi_21.2.1 hi_21.2.2 ?_
          show Zr sc 143 175 [zp a0, zj x1, zj x2, zj x3, zj x4, zj x5, zj 1, zmk] [zj (zgi l_23 1), zj 1, zp (a0 + 77)] w_8 ov w' c s
          refine Zr_st (q := (176, [zp a0, zj x1, zj x2, zj x3, zj x4, zj x5, zj 1, zmk], [zj x3, zj (zgi l_23 1), zj 1, zp (a0 + 77)])) rfl rfl rfl ?_
          show Zr sc 143 176 [zp a0, zj x1, zj x2, zj x3, zj x4, zj x5, zj 1, zmk] [zj x3, zj (zgi l_23 1), zj 1, zp (a0 + 77)] w_8 ov w' c s
          refine Zr_st (q := (178, [zp a0, zj x1, zj x2, zj x3, zj x4, zj x5, zj 1, zmk], [zj x4, zj x3, zj (zgi l_23 1), zj 1, zp (a0 + 77)])) rfl rfl rfl ?_
          show Zr sc 143 178 [zp a0, zj x1, zj x2, zj x3, zj x4, zj x5, zj 1, zmk] [zj x4, zj x3, zj (zgi l_23 1), zj 1, zp (a0 + 77)] w_8 ov w' c s
          refine rl_add rfl ?_
          show Zr sc 143 179 [zp a0, zj x1, zj x2, zj x3, zj x4, zj x5, zj 1, zmk] [zj (x3 + x4), zj (zgi l_23 1), zj 1, zp (a0 + 77)] w_8 ov w' c s
          refine rl_si rfl (by decide) ?_
          show Zr sc 143 182 [zp a0, zj x1, zj x2, zj x3, zj x4, zj x5, zj 1, zmk] [zj 1024, zj (x3 + x4), zj (zgi l_23 1), zj 1, zp (a0 + 77)] w_8 ov w' c s
          obtain ⟨hr_24, h⟩ := h
          refine Zr_br (p := 1024 ≤ (x3 + x4)) rfl rfl (zcmp_j (cnd := .ge) hr_24.1 hr_24.2) (fun hp => ?_) (fun hp => ?_)
          · replace h := h.1 hp
            show Zr sc 143 201 [zp a0, zj x1, zj x2, zj x3, zj x4, zj x5, zj 1, zmk] [zj (zgi l_23 1), zj 1, zp (a0 + 77)] w_8 ov w' c s
            refine rl_ic rfl ?_
            show Zr sc 143 202 [zp a0, zj x1, zj x2, zj x3, zj x4, zj x5, zj 1, zmk] [zj 0, zj (zgi l_23 1), zj 1, zp (a0 + 77)] w_8 ov w' c s
            refine rl_add rfl ?_
            show Zr sc 143 203 [zp a0, zj x1, zj x2, zj x3, zj x4, zj x5, zj 1, zmk] [zj ((zgi l_23 1) + 0), zj 1, zp (a0 + 77)] w_8 ov w' c s
            obtain ⟨hi_25, h⟩ := h
            refine rl_is rfl hw_22 hi_25.1 hi_25.2.1 hi_25.2.2 ?_
            show Zr sc 143 204 [zp a0, zj x1, zj x2, zj x3, zj x4, zj x5, zj 1, zmk] [] (w_8.set (a0 + 77) (za (zsi l_23 1 ((zgi l_23 1) + 0)))) ov w' c s
            exact h
          · replace h := h.2 hp
            show Zr sc 143 185 [zp a0, zj x1, zj x2, zj x3, zj x4, zj x5, zj 1, zmk] [zj (zgi l_23 1), zj 1, zp (a0 + 77)] w_8 ov w' c s
            refine Zr_st (q := (186, [zp a0, zj x1, zj x2, zj x3, zj x4, zj x5, zj 1, zmk], [zp a0, zj (zgi l_23 1), zj 1, zp (a0 + 77)])) rfl rfl rfl ?_
            show Zr sc 143 186 [zp a0, zj x1, zj x2, zj x3, zj x4, zj x5, zj 1, zmk] [zp a0, zj (zgi l_23 1), zj 1, zp (a0 + 77)] w_8 ov w' c s
            refine rl_gf rfl hw_10 rfl rfl ?_
            show Zr sc 143 189 [zp a0, zj x1, zj x2, zj x3, zj x4, zj x5, zj 1, zmk] [zp (a0 + 73), zj (zgi l_23 1), zj 1, zp (a0 + 77)] w_8 ov w' c s
            refine Zr_st (q := (190, [zp a0, zj x1, zj x2, zj x3, zj x4, zj x5, zj 1, zmk], [zj x3, zp (a0 + 73), zj (zgi l_23 1), zj 1, zp (a0 + 77)])) rfl rfl rfl ?_
            show Zr sc 143 190 [zp a0, zj x1, zj x2, zj x3, zj x4, zj x5, zj 1, zmk] [zj x3, zp (a0 + 73), zj (zgi l_23 1), zj 1, zp (a0 + 77)] w_8 ov w' c s
            refine Zr_st (q := (192, [zp a0, zj x1, zj x2, zj x3, zj x4, zj x5, zj 1, zmk], [zj x4, zj x3, zp (a0 + 73), zj (zgi l_23 1), zj 1, zp (a0 + 77)])) rfl rfl rfl ?_
            show Zr sc 143 192 [zp a0, zj x1, zj x2, zj x3, zj x4, zj x5, zj 1, zmk] [zj x4, zj x3, zp (a0 + 73), zj (zgi l_23 1), zj 1, zp (a0 + 77)] w_8 ov w' c s
            refine rl_add rfl ?_
            show Zr sc 143 193 [zp a0, zj x1, zj x2, zj x3, zj x4, zj x5, zj 1, zmk] [zj (x3 + x4), zp (a0 + 73), zj (zgi l_23 1), zj 1, zp (a0 + 77)] w_8 ov w' c s
            obtain ⟨l_28, hw_27, h⟩ := h
            obtain ⟨hi_26, h⟩ := h
            refine rl_ia rfl hw_27 hi_26.1 hi_26.2.1 hi_26.2.2 ?_
            show Zr sc 143 194 [zp a0, zj x1, zj x2, zj x3, zj x4, zj x5, zj 1, zmk] [zj (zgi l_28 (x3 + x4)), zj (zgi l_23 1), zj 1, zp (a0 + 77)] w_8 ov w' c s
            obtain ⟨hr_29, h⟩ := h
            refine Zr_b0 (p := 0 ≤ (zgi l_28 (x3 + x4))) rfl rfl (zcmp_0 (cnd := .ge) hr_29) (fun hp => ?_) (fun hp => ?_)
            · replace h := h.1 hp
              show Zr sc 143 201 [zp a0, zj x1, zj x2, zj x3, zj x4, zj x5, zj 1, zmk] [zj (zgi l_23 1), zj 1, zp (a0 + 77)] w_8 ov w' c s
              refine rl_ic rfl ?_
              show Zr sc 143 202 [zp a0, zj x1, zj x2, zj x3, zj x4, zj x5, zj 1, zmk] [zj 0, zj (zgi l_23 1), zj 1, zp (a0 + 77)] w_8 ov w' c s
              refine rl_add rfl ?_
              show Zr sc 143 203 [zp a0, zj x1, zj x2, zj x3, zj x4, zj x5, zj 1, zmk] [zj ((zgi l_23 1) + 0), zj 1, zp (a0 + 77)] w_8 ov w' c s
              obtain ⟨hi_30, h⟩ := h
              refine rl_is rfl hw_22 hi_30.1 hi_30.2.1 hi_30.2.2 ?_
              show Zr sc 143 204 [zp a0, zj x1, zj x2, zj x3, zj x4, zj x5, zj 1, zmk] [] (w_8.set (a0 + 77) (za (zsi l_23 1 ((zgi l_23 1) + 0)))) ov w' c s
              exact h
            · replace h := h.2 hp
              show Zr sc 143 197 [zp a0, zj x1, zj x2, zj x3, zj x4, zj x5, zj 1, zmk] [zj (zgi l_23 1), zj 1, zp (a0 + 77)] w_8 ov w' c s
              refine rl_ic rfl ?_
              show Zr sc 143 198 [zp a0, zj x1, zj x2, zj x3, zj x4, zj x5, zj 1, zmk] [zj 1, zj (zgi l_23 1), zj 1, zp (a0 + 77)] w_8 ov w' c s
              refine Zr_st (q := (202, [zp a0, zj x1, zj x2, zj x3, zj x4, zj x5, zj 1, zmk], [zj 1, zj (zgi l_23 1), zj 1, zp (a0 + 77)])) rfl rfl rfl ?_
              show Zr sc 143 202 [zp a0, zj x1, zj x2, zj x3, zj x4, zj x5, zj 1, zmk] [zj 1, zj (zgi l_23 1), zj 1, zp (a0 + 77)] w_8 ov w' c s
              refine rl_add rfl ?_
              show Zr sc 143 203 [zp a0, zj x1, zj x2, zj x3, zj x4, zj x5, zj 1, zmk] [zj ((zgi l_23 1) + 1), zj 1, zp (a0 + 77)] w_8 ov w' c s
              obtain ⟨hi_31, h⟩ := h
              refine rl_is rfl hw_22 hi_31.1 hi_31.2.1 hi_31.2.2 ?_
              show Zr sc 143 204 [zp a0, zj x1, zj x2, zj x3, zj x4, zj x5, zj 1, zmk] [] (w_8.set (a0 + 77) (za (zsi l_23 1 ((zgi l_23 1) + 1)))) ov w' c s
              exact h
set_option maxRecDepth 100000 in
theorem V143_204 {sc : List Value} {w w' : List zE} {ov : Option Value} {c s : Nat} {a0 : Nat} {x1 : Int} {x2 : Int} {x3 : Int} {x4 : Int} {x5 : Int} {x6 : Int} {dr : Int} {wy : Int} {st : Int} {hd : Int} {nm : Int} {ar : Int} {hn : Int} {pk : Int} {D : Nat} {tl : Int} (L0 : w[a0]? = some (zob 7 [zp (a0 + 1), .ref 0, zj dr, zj wy, zj st, zj hd, zp (a0 + 73), zj nm, zp (a0 + 74), zp (a0 + 75), zp (a0 + 76), zj ar, zj hn, zp (a0 + 77), zj pk, zp D, zj tl])) (h : ((zrg x6) ∧ ((x6 = 0 → (∃ r_4 : Int, ∃ w_2 : List zE, ∃ c_5 s_6 c_7 s_8 : Nat, Zc sc 125 [zp a0, zj x4] w (some (zj r_4)) w_2 c_5 s_6 ∧ (c = c_5 + c_7 ∧ s = s_6 + s_8) ∧ Zr sc 143 221 [zp a0, zj x1, zj x2, zj x3, zj x4, zj x5, zj x6, zj r_4] [] w_2 ov w' c_7 s_8)) ∧ (¬ (x6 = 0) → Zr sc 143 221 [zp a0, zj x1, zj x2, zj x3, zj x4, zj x5, zj x6, zj x3] [] w ov w' c s)))) : Zr sc 143 204 [zp a0, zj x1, zj x2, zj x3, zj x4, zj x5, zj x6, zmk] [] w ov w' c s := by
  refine Zr_st (q := (206, [zp a0, zj x1, zj x2, zj x3, zj x4, zj x5, zj x6, zmk], [zj x6])) rfl rfl rfl ?_
  show Zr sc 143 206 [zp a0, zj x1, zj x2, zj x3, zj x4, zj x5, zj x6, zmk] [zj x6] w ov w' c s
  obtain ⟨hr_1, h⟩ := h
  refine Zr_b0 (p := x6 = 0) rfl rfl (zcmp_0 (cnd := .eq) hr_1) (fun hp => ?_) (fun hp => ?_)
  · replace h := h.1 hp
    show Zr sc 143 213 [zp a0, zj x1, zj x2, zj x3, zj x4, zj x5, zj x6, zmk] [] w ov w' c s
    refine Zr_st (q := (214, [zp a0, zj x1, zj x2, zj x3, zj x4, zj x5, zj x6, zmk], [zp a0])) rfl rfl rfl ?_
    show Zr sc 143 214 [zp a0, zj x1, zj x2, zj x3, zj x4, zj x5, zj x6, zmk] [zp a0] w ov w' c s
    refine Zr_st (q := (216, [zp a0, zj x1, zj x2, zj x3, zj x4, zj x5, zj x6, zmk], [zj x4, zp a0])) rfl rfl rfl ?_
    show Zr sc 143 216 [zp a0, zj x1, zj x2, zj x3, zj x4, zj x5, zj x6, zmk] [zj x4, zp a0] w ov w' c s
    obtain ⟨r_4, w_2, c_5, s_6, c_7, s_8, hk_3, hc_9, h⟩ := h
    refine rl_cal (ins := .invokevirtual 133) (rest := []) rfl rfl rfl rfl (zinv_v (fs := _) L0 rfl rfl rfl rfl) rfl rfl hk_3 ?_ hc_9.1 hc_9.2
    show Zr sc 143 219 [zp a0, zj x1, zj x2, zj x3, zj x4, zj x5, zj x6, zmk] [zj r_4] w_2 ov w' c_7 s_8
    refine Zr_st (q := (221, [zp a0, zj x1, zj x2, zj x3, zj x4, zj x5, zj x6, zj r_4], [])) rfl rfl rfl ?_
    show Zr sc 143 221 [zp a0, zj x1, zj x2, zj x3, zj x4, zj x5, zj x6, zj r_4] [] w_2 ov w' c_7 s_8
    exact h
  · replace h := h.2 hp
    show Zr sc 143 209 [zp a0, zj x1, zj x2, zj x3, zj x4, zj x5, zj x6, zmk] [] w ov w' c s
    refine Zr_st (q := (210, [zp a0, zj x1, zj x2, zj x3, zj x4, zj x5, zj x6, zmk], [zj x3])) rfl rfl rfl ?_
    show Zr sc 143 210 [zp a0, zj x1, zj x2, zj x3, zj x4, zj x5, zj x6, zmk] [zj x3] w ov w' c s
    refine Zr_st (q := (219, [zp a0, zj x1, zj x2, zj x3, zj x4, zj x5, zj x6, zmk], [zj x3])) rfl rfl rfl ?_
    show Zr sc 143 219 [zp a0, zj x1, zj x2, zj x3, zj x4, zj x5, zj x6, zmk] [zj x3] w ov w' c s
    refine Zr_st (q := (221, [zp a0, zj x1, zj x2, zj x3, zj x4, zj x5, zj x6, zj x3], [])) rfl rfl rfl ?_
    show Zr sc 143 221 [zp a0, zj x1, zj x2, zj x3, zj x4, zj x5, zj x6, zj x3] [] w ov w' c s
    exact h
set_option maxRecDepth 100000 in
theorem V143_221 {sc : List Value} {w w' : List zE} {ov : Option Value} {c s : Nat} {a0 : Nat} {x1 : Int} {x2 : Int} {x3 : Int} {x4 : Int} {x5 : Int} {x6 : Int} {x7 : Int} {dr : Int} {wy : Int} {st : Int} {hd : Int} {nm : Int} {ar : Int} {hn : Int} {pk : Int} {D : Nat} {tl : Int} {cn : List Int} (L0 : w[a0]? = some (zob 7 [zp (a0 + 1), .ref 0, zj dr, zj wy, zj st, zj hd, zp (a0 + 73), zj nm, zp (a0 + 74), zp (a0 + 75), zp (a0 + 76), zj ar, zj hn, zp (a0 + 77), zj pk, zp D, zj tl])) (L77 : w[(a0 + 77)]? = some (za cn)) (h : ((zrg x7) ∧ ((0 ≤ x7 → Zr sc 143 241 [zp a0, zj x1, zj x2, zj x3, zj x4, zj x5, zj x6, zj x7] [] w ov w' c s) ∧ (¬ (0 ≤ x7) → ((zrg x6) ∧ ((x6 ≠ 0 → Zr sc 143 241 [zp a0, zj x1, zj x2, zj x3, zj x4, zj x5, zj x6, zj x7] [] w ov w' c s) ∧ (¬ (x6 ≠ 0) → (((0 : Int) ≤ 4 ∧ 4 < (cn.length : Int) ∧ 4 ≤ (2147483647 : Int)) ∧ (((0 : Int) ≤ 4 ∧ 4 < (cn.length : Int) ∧ 4 ≤ (2147483647 : Int)) ∧ Zr sc 143 241 [zp a0, zj x1, zj x2, zj x3, zj x4, zj x5, zj x6, zj x7] [] (w.set (a0 + 77) (za (zsi cn 4 ((zgi cn 4) + 1)))) ov w' c s))))))))) : Zr sc 143 221 [zp a0, zj x1, zj x2, zj x3, zj x4, zj x5, zj x6, zj x7] [] w ov w' c s := by
  refine Zr_st (q := (223, [zp a0, zj x1, zj x2, zj x3, zj x4, zj x5, zj x6, zj x7], [zj x7])) rfl rfl rfl ?_
  show Zr sc 143 223 [zp a0, zj x1, zj x2, zj x3, zj x4, zj x5, zj x6, zj x7] [zj x7] w ov w' c s
  obtain ⟨hr_1, h⟩ := h
  refine Zr_b0 (p := 0 ≤ x7) rfl rfl (zcmp_0 (cnd := .ge) hr_1) (fun hp => ?_) (fun hp => ?_)
  · replace h := h.1 hp
    show Zr sc 143 241 [zp a0, zj x1, zj x2, zj x3, zj x4, zj x5, zj x6, zj x7] [] w ov w' c s
    exact h
  · replace h := h.2 hp
    show Zr sc 143 226 [zp a0, zj x1, zj x2, zj x3, zj x4, zj x5, zj x6, zj x7] [] w ov w' c s
    refine Zr_st (q := (228, [zp a0, zj x1, zj x2, zj x3, zj x4, zj x5, zj x6, zj x7], [zj x6])) rfl rfl rfl ?_
    show Zr sc 143 228 [zp a0, zj x1, zj x2, zj x3, zj x4, zj x5, zj x6, zj x7] [zj x6] w ov w' c s
    obtain ⟨hr_2, h⟩ := h
    refine Zr_b0 (p := x6 ≠ 0) rfl rfl (zcmp_0 (cnd := .ne) hr_2) (fun hp => ?_) (fun hp => ?_)
    · replace h := h.1 hp
      show Zr sc 143 241 [zp a0, zj x1, zj x2, zj x3, zj x4, zj x5, zj x6, zj x7] [] w ov w' c s
      exact h
    · replace h := h.2 hp
      show Zr sc 143 231 [zp a0, zj x1, zj x2, zj x3, zj x4, zj x5, zj x6, zj x7] [] w ov w' c s
      refine Zr_st (q := (232, [zp a0, zj x1, zj x2, zj x3, zj x4, zj x5, zj x6, zj x7], [zp a0])) rfl rfl rfl ?_
      show Zr sc 143 232 [zp a0, zj x1, zj x2, zj x3, zj x4, zj x5, zj x6, zj x7] [zp a0] w ov w' c s
      refine rl_gf rfl L0 rfl rfl ?_
      show Zr sc 143 235 [zp a0, zj x1, zj x2, zj x3, zj x4, zj x5, zj x6, zj x7] [zp (a0 + 77)] w ov w' c s
      refine rl_ic rfl ?_
      show Zr sc 143 236 [zp a0, zj x1, zj x2, zj x3, zj x4, zj x5, zj x6, zj x7] [zj 4, zp (a0 + 77)] w ov w' c s
      refine Zr_st (q := (237, [zp a0, zj x1, zj x2, zj x3, zj x4, zj x5, zj x6, zj x7], [zj 4, zp (a0 + 77), zj 4, zp (a0 + 77)])) rfl rfl rfl ?_
      show Zr sc 143 237 [zp a0, zj x1, zj x2, zj x3, zj x4, zj x5, zj x6, zj x7] [zj 4, zp (a0 + 77), zj 4, zp (a0 + 77)] w ov w' c s
      obtain ⟨hi_3, h⟩ := h
      refine rl_ia rfl L77 hi_3.1 hi_3.2.1 hi_3.2.2 ?_
      show Zr sc 143 238 [zp a0, zj x1, zj x2, zj x3, zj x4, zj x5, zj x6, zj x7] [zj (zgi cn 4), zj 4, zp (a0 + 77)] w ov w' c s
      refine rl_ic rfl ?_
      show Zr sc 143 239 [zp a0, zj x1, zj x2, zj x3, zj x4, zj x5, zj x6, zj x7] [zj 1, zj (zgi cn 4), zj 4, zp (a0 + 77)] w ov w' c s
      refine rl_add rfl ?_
      show Zr sc 143 240 [zp a0, zj x1, zj x2, zj x3, zj x4, zj x5, zj x6, zj x7] [zj ((zgi cn 4) + 1), zj 4, zp (a0 + 77)] w ov w' c s
      obtain ⟨hi_4, h⟩ := h
      refine rl_is rfl L77 hi_4.1 hi_4.2.1 hi_4.2.2 ?_
      show Zr sc 143 241 [zp a0, zj x1, zj x2, zj x3, zj x4, zj x5, zj x6, zj x7] [] (w.set (a0 + 77) (za (zsi cn 4 ((zgi cn 4) + 1)))) ov w' c s
      exact h
set_option maxRecDepth 100000 in
theorem V143_241 {sc : List Value} {w w' : List zE} {ov : Option Value} {c s : Nat} {a0 : Nat} {x1 : Int} {x2 : Int} {x3 : Int} {x4 : Int} {x5 : Int} {x6 : Int} {x7 : Int} {dr : Int} {wy : Int} {st : Int} {hd : Int} {nm : Int} {ar : Int} {hn : Int} {pk : Int} {D : Nat} {tl : Int} {cn : List Int} {sz : List Int} {rm : List Int} (L0 : w[a0]? = some (zob 7 [zp (a0 + 1), .ref 0, zj dr, zj wy, zj st, zj hd, zp (a0 + 73), zj nm, zp (a0 + 74), zp (a0 + 75), zp (a0 + 76), zj ar, zj hn, zp (a0 + 77), zj pk, zp D, zj tl])) (L77 : w[(a0 + 77)]? = some (za cn)) (L74 : w[(a0 + 74)]? = some (za sz)) (L75 : w[(a0 + 75)]? = some (za rm)) (h : ((zrg x7) ∧ ((x7 < 0 → Zr sc 143 305 [zp a0, zj x1, zj x2, zj x3, zj x4, zj x5, zj x6, zj x7] [] w ov w' c s) ∧ (¬ (x7 < 0) → ((zrg x6) ∧ ((x6 ≠ 0 → Zr sc 143 305 [zp a0, zj x1, zj x2, zj x3, zj x4, zj x5, zj x6, zj x7] [] w ov w' c s) ∧ (¬ (x6 ≠ 0) → (((0 : Int) ≤ 3 ∧ 3 < (cn.length : Int) ∧ 3 ≤ (2147483647 : Int)) ∧ (((0 : Int) ≤ x1 ∧ x1 < (sz.length : Int) ∧ x1 ≤ (2147483647 : Int)) ∧ ((zrg x2 ∧ zrg (zgi sz x1)) ∧ (((0 : Int) ≤ 3 ∧ 3 < (cn.length : Int) ∧ 3 ≤ (2147483647 : Int)) ∧ (((0 : Int) ≤ 80 ∧ 80 < (rm.length : Int) ∧ 80 ≤ (2147483647 : Int)) ∧ (∃ w_8 : List zE, Zc sc 131 [zp a0, zj x7, zj x4, zj 80] ((w.set (a0 + 77) (za (zsi cn 3 ((zgi cn 3) + (min x2 (zgi sz x1)))))).set (a0 + 75) (za (zsi rm 80 x4))) none w_8 0 0 ∧ (∃ fs_11 : List Value, w_8[a0]? = some (zob 7 fs_11) ∧ (∃ w_12 : List zE, Zc sc 140 [zp a0, zj x3, zj x5] w_8 none w_12 0 0 ∧ (∃ fs_15 : List Value, w_12[a0]? = some (zob 7 fs_15) ∧ (∃ w_16 : List zE, Zc sc 131 [zp a0, zj x7, zj x4, zj x1] w_12 none w_16 0 0 ∧ Zr sc 143 305 [zp a0, zj x1, zj x2, zj x3, zj x4, zj x5, zj x6, zj x7] [] w_16 ov w' c s))))))))))))))))) : Zr sc 143 241 [zp a0, zj x1, zj x2, zj x3, zj x4, zj x5, zj x6, zj x7] [] w ov w' c s := by
  refine Zr_st (q := (243, [zp a0, zj x1, zj x2, zj x3, zj x4, zj x5, zj x6, zj x7], [zj x7])) rfl rfl rfl ?_
  show Zr sc 143 243 [zp a0, zj x1, zj x2, zj x3, zj x4, zj x5, zj x6, zj x7] [zj x7] w ov w' c s
  obtain ⟨hr_1, h⟩ := h
  refine Zr_b0 (p := x7 < 0) rfl rfl (zcmp_0 (cnd := .lt) hr_1) (fun hp => ?_) (fun hp => ?_)
  · replace h := h.1 hp
    show Zr sc 143 305 [zp a0, zj x1, zj x2, zj x3, zj x4, zj x5, zj x6, zj x7] [] w ov w' c s
    exact h
  · replace h := h.2 hp
    show Zr sc 143 246 [zp a0, zj x1, zj x2, zj x3, zj x4, zj x5, zj x6, zj x7] [] w ov w' c s
    refine Zr_st (q := (248, [zp a0, zj x1, zj x2, zj x3, zj x4, zj x5, zj x6, zj x7], [zj x6])) rfl rfl rfl ?_
    show Zr sc 143 248 [zp a0, zj x1, zj x2, zj x3, zj x4, zj x5, zj x6, zj x7] [zj x6] w ov w' c s
    obtain ⟨hr_2, h⟩ := h
    refine Zr_b0 (p := x6 ≠ 0) rfl rfl (zcmp_0 (cnd := .ne) hr_2) (fun hp => ?_) (fun hp => ?_)
    · replace h := h.1 hp
      show Zr sc 143 305 [zp a0, zj x1, zj x2, zj x3, zj x4, zj x5, zj x6, zj x7] [] w ov w' c s
      exact h
    · replace h := h.2 hp
      show Zr sc 143 251 [zp a0, zj x1, zj x2, zj x3, zj x4, zj x5, zj x6, zj x7] [] w ov w' c s
      refine Zr_st (q := (252, [zp a0, zj x1, zj x2, zj x3, zj x4, zj x5, zj x6, zj x7], [zp a0])) rfl rfl rfl ?_
      show Zr sc 143 252 [zp a0, zj x1, zj x2, zj x3, zj x4, zj x5, zj x6, zj x7] [zp a0] w ov w' c s
      refine rl_gf rfl L0 rfl rfl ?_
      show Zr sc 143 255 [zp a0, zj x1, zj x2, zj x3, zj x4, zj x5, zj x6, zj x7] [zp (a0 + 77)] w ov w' c s
      refine rl_ic rfl ?_
      show Zr sc 143 256 [zp a0, zj x1, zj x2, zj x3, zj x4, zj x5, zj x6, zj x7] [zj 3, zp (a0 + 77)] w ov w' c s
      refine Zr_st (q := (257, [zp a0, zj x1, zj x2, zj x3, zj x4, zj x5, zj x6, zj x7], [zj 3, zp (a0 + 77), zj 3, zp (a0 + 77)])) rfl rfl rfl ?_
      show Zr sc 143 257 [zp a0, zj x1, zj x2, zj x3, zj x4, zj x5, zj x6, zj x7] [zj 3, zp (a0 + 77), zj 3, zp (a0 + 77)] w ov w' c s
      obtain ⟨hi_3, h⟩ := h
      refine rl_ia rfl L77 hi_3.1 hi_3.2.1 hi_3.2.2 ?_
      show Zr sc 143 258 [zp a0, zj x1, zj x2, zj x3, zj x4, zj x5, zj x6, zj x7] [zj (zgi cn 3), zj 3, zp (a0 + 77)] w ov w' c s
      refine Zr_st (q := (259, [zp a0, zj x1, zj x2, zj x3, zj x4, zj x5, zj x6, zj x7], [zj x2, zj (zgi cn 3), zj 3, zp (a0 + 77)])) rfl rfl rfl ?_
      show Zr sc 143 259 [zp a0, zj x1, zj x2, zj x3, zj x4, zj x5, zj x6, zj x7] [zj x2, zj (zgi cn 3), zj 3, zp (a0 + 77)] w ov w' c s
      refine Zr_st (q := (260, [zp a0, zj x1, zj x2, zj x3, zj x4, zj x5, zj x6, zj x7], [zp a0, zj x2, zj (zgi cn 3), zj 3, zp (a0 + 77)])) rfl rfl rfl ?_
      show Zr sc 143 260 [zp a0, zj x1, zj x2, zj x3, zj x4, zj x5, zj x6, zj x7] [zp a0, zj x2, zj (zgi cn 3), zj 3, zp (a0 + 77)] w ov w' c s
      refine rl_gf rfl L0 rfl rfl ?_
      show Zr sc 143 263 [zp a0, zj x1, zj x2, zj x3, zj x4, zj x5, zj x6, zj x7] [zp (a0 + 74), zj x2, zj (zgi cn 3), zj 3, zp (a0 + 77)] w ov w' c s
      refine Zr_st (q := (264, [zp a0, zj x1, zj x2, zj x3, zj x4, zj x5, zj x6, zj x7], [zj x1, zp (a0 + 74), zj x2, zj (zgi cn 3), zj 3, zp (a0 + 77)])) rfl rfl rfl ?_
      show Zr sc 143 264 [zp a0, zj x1, zj x2, zj x3, zj x4, zj x5, zj x6, zj x7] [zj x1, zp (a0 + 74), zj x2, zj (zgi cn 3), zj 3, zp (a0 + 77)] w ov w' c s
      obtain ⟨hi_4, h⟩ := h
      refine rl_ia rfl L74 hi_4.1 hi_4.2.1 hi_4.2.2 ?_
      show Zr sc 143 265 [zp a0, zj x1, zj x2, zj x3, zj x4, zj x5, zj x6, zj x7] [zj (zgi sz x1), zj x2, zj (zgi cn 3), zj 3, zp (a0 + 77)] w ov w' c s
      obtain ⟨hm_5, h⟩ := h
      refine Zr_mx (b := false) (ins := .invokestatic 114) (rest := [zj (zgi cn 3), zj 3, zp (a0 + 77)]) rfl rfl rfl rfl (zinv_t2 (rest := [zj (zgi cn 3), zj 3, zp (a0 + 77)]) rfl rfl rfl rfl rfl) rfl (zmx_j hm_5.1 hm_5.2) ?_
      show Zr sc 143 268 [zp a0, zj x1, zj x2, zj x3, zj x4, zj x5, zj x6, zj x7] [zj (min x2 (zgi sz x1)), zj (zgi cn 3), zj 3, zp (a0 + 77)] w ov w' c s
      refine rl_add rfl ?_
      show Zr sc 143 269 [zp a0, zj x1, zj x2, zj x3, zj x4, zj x5, zj x6, zj x7] [zj ((zgi cn 3) + (min x2 (zgi sz x1))), zj 3, zp (a0 + 77)] w ov w' c s
      obtain ⟨hi_6, h⟩ := h
      refine rl_is rfl L77 hi_6.1 hi_6.2.1 hi_6.2.2 ?_
      show Zr sc 143 270 [zp a0, zj x1, zj x2, zj x3, zj x4, zj x5, zj x6, zj x7] [] (w.set (a0 + 77) (za (zsi cn 3 ((zgi cn 3) + (min x2 (zgi sz x1)))))) ov w' c s
      refine Zr_st (q := (271, [zp a0, zj x1, zj x2, zj x3, zj x4, zj x5, zj x6, zj x7], [zp a0])) rfl rfl rfl ?_
      show Zr sc 143 271 [zp a0, zj x1, zj x2, zj x3, zj x4, zj x5, zj x6, zj x7] [zp a0] (w.set (a0 + 77) (za (zsi cn 3 ((zgi cn 3) + (min x2 (zgi sz x1)))))) ov w' c s
      refine rl_gf rfl (zw_o (by omega) L0) rfl rfl ?_
      show Zr sc 143 274 [zp a0, zj x1, zj x2, zj x3, zj x4, zj x5, zj x6, zj x7] [zp (a0 + 75)] (w.set (a0 + 77) (za (zsi cn 3 ((zgi cn 3) + (min x2 (zgi sz x1)))))) ov w' c s
      refine rl_bi rfl (by decide) ?_
      show Zr sc 143 276 [zp a0, zj x1, zj x2, zj x3, zj x4, zj x5, zj x6, zj x7] [zj 80, zp (a0 + 75)] (w.set (a0 + 77) (za (zsi cn 3 ((zgi cn 3) + (min x2 (zgi sz x1)))))) ov w' c s
      refine Zr_st (q := (278, [zp a0, zj x1, zj x2, zj x3, zj x4, zj x5, zj x6, zj x7], [zj x4, zj 80, zp (a0 + 75)])) rfl rfl rfl ?_
      show Zr sc 143 278 [zp a0, zj x1, zj x2, zj x3, zj x4, zj x5, zj x6, zj x7] [zj x4, zj 80, zp (a0 + 75)] (w.set (a0 + 77) (za (zsi cn 3 ((zgi cn 3) + (min x2 (zgi sz x1)))))) ov w' c s
      obtain ⟨hi_7, h⟩ := h
      refine rl_is rfl (zw_o (by omega) L75) hi_7.1 hi_7.2.1 hi_7.2.2 ?_
      show Zr sc 143 279 [zp a0, zj x1, zj x2, zj x3, zj x4, zj x5, zj x6, zj x7] [] ((w.set (a0 + 77) (za (zsi cn 3 ((zgi cn 3) + (min x2 (zgi sz x1)))))).set (a0 + 75) (za (zsi rm 80 x4))) ov w' c s
      refine Zr_st (q := (280, [zp a0, zj x1, zj x2, zj x3, zj x4, zj x5, zj x6, zj x7], [zp a0])) rfl rfl rfl ?_
      show Zr sc 143 280 [zp a0, zj x1, zj x2, zj x3, zj x4, zj x5, zj x6, zj x7] [zp a0] ((w.set (a0 + 77) (za (zsi cn 3 ((zgi cn 3) + (min x2 (zgi sz x1)))))).set (a0 + 75) (za (zsi rm 80 x4))) ov w' c s
      refine Zr_st (q := (282, [zp a0, zj x1, zj x2, zj x3, zj x4, zj x5, zj x6, zj x7], [zj x7, zp a0])) rfl rfl rfl ?_
      show Zr sc 143 282 [zp a0, zj x1, zj x2, zj x3, zj x4, zj x5, zj x6, zj x7] [zj x7, zp a0] ((w.set (a0 + 77) (za (zsi cn 3 ((zgi cn 3) + (min x2 (zgi sz x1)))))).set (a0 + 75) (za (zsi rm 80 x4))) ov w' c s
      refine Zr_st (q := (284, [zp a0, zj x1, zj x2, zj x3, zj x4, zj x5, zj x6, zj x7], [zj x4, zj x7, zp a0])) rfl rfl rfl ?_
      show Zr sc 143 284 [zp a0, zj x1, zj x2, zj x3, zj x4, zj x5, zj x6, zj x7] [zj x4, zj x7, zp a0] ((w.set (a0 + 77) (za (zsi cn 3 ((zgi cn 3) + (min x2 (zgi sz x1)))))).set (a0 + 75) (za (zsi rm 80 x4))) ov w' c s
      refine rl_bi rfl (by decide) ?_
      show Zr sc 143 286 [zp a0, zj x1, zj x2, zj x3, zj x4, zj x5, zj x6, zj x7] [zj 80, zj x4, zj x7, zp a0] ((w.set (a0 + 77) (za (zsi cn 3 ((zgi cn 3) + (min x2 (zgi sz x1)))))).set (a0 + 75) (za (zsi rm 80 x4))) ov w' c s
      obtain ⟨w_8, hk_9, h⟩ := h
      refine rn_cal0 (ins := .invokevirtual 110) (rest := []) rfl rfl rfl rfl (zinv_v (fs := _) (zw_o (by omega) (zw_o (by omega) L0)) rfl rfl rfl rfl) rfl rfl hk_9 ?_
      show Zr sc 143 289 [zp a0, zj x1, zj x2, zj x3, zj x4, zj x5, zj x6, zj x7] [] w_8 ov w' c s
      refine Zr_st (q := (290, [zp a0, zj x1, zj x2, zj x3, zj x4, zj x5, zj x6, zj x7], [zp a0])) rfl rfl rfl ?_
      show Zr sc 143 290 [zp a0, zj x1, zj x2, zj x3, zj x4, zj x5, zj x6, zj x7] [zp a0] w_8 ov w' c s
      refine Zr_st (q := (291, [zp a0, zj x1, zj x2, zj x3, zj x4, zj x5, zj x6, zj x7], [zj x3, zp a0])) rfl rfl rfl ?_
      show Zr sc 143 291 [zp a0, zj x1, zj x2, zj x3, zj x4, zj x5, zj x6, zj x7] [zj x3, zp a0] w_8 ov w' c s
      refine Zr_st (q := (293, [zp a0, zj x1, zj x2, zj x3, zj x4, zj x5, zj x6, zj x7], [zj x5, zj x3, zp a0])) rfl rfl rfl ?_
      show Zr sc 143 293 [zp a0, zj x1, zj x2, zj x3, zj x4, zj x5, zj x6, zj x7] [zj x5, zj x3, zp a0] w_8 ov w' c s
      obtain ⟨fs_11, hl_10, h⟩ := h
      obtain ⟨w_12, hk_13, h⟩ := h
      refine rn_cal0 (ins := .invokevirtual 150) (rest := []) rfl rfl rfl rfl (zinv_v (fs := _) hl_10 rfl rfl rfl rfl) rfl rfl hk_13 ?_
      show Zr sc 143 296 [zp a0, zj x1, zj x2, zj x3, zj x4, zj x5, zj x6, zj x7] [] w_12 ov w' c s
      refine Zr_st (q := (297, [zp a0, zj x1, zj x2, zj x3, zj x4, zj x5, zj x6, zj x7], [zp a0])) rfl rfl rfl ?_
      show Zr sc 143 297 [zp a0, zj x1, zj x2, zj x3, zj x4, zj x5, zj x6, zj x7] [zp a0] w_12 ov w' c s
      refine Zr_st (q := (299, [zp a0, zj x1, zj x2, zj x3, zj x4, zj x5, zj x6, zj x7], [zj x7, zp a0])) rfl rfl rfl ?_
      show Zr sc 143 299 [zp a0, zj x1, zj x2, zj x3, zj x4, zj x5, zj x6, zj x7] [zj x7, zp a0] w_12 ov w' c s
      refine Zr_st (q := (301, [zp a0, zj x1, zj x2, zj x3, zj x4, zj x5, zj x6, zj x7], [zj x4, zj x7, zp a0])) rfl rfl rfl ?_
      show Zr sc 143 301 [zp a0, zj x1, zj x2, zj x3, zj x4, zj x5, zj x6, zj x7] [zj x4, zj x7, zp a0] w_12 ov w' c s
      refine Zr_st (q := (302, [zp a0, zj x1, zj x2, zj x3, zj x4, zj x5, zj x6, zj x7], [zj x1, zj x4, zj x7, zp a0])) rfl rfl rfl ?_
      show Zr sc 143 302 [zp a0, zj x1, zj x2, zj x3, zj x4, zj x5, zj x6, zj x7] [zj x1, zj x4, zj x7, zp a0] w_12 ov w' c s
      obtain ⟨fs_15, hl_14, h⟩ := h
      obtain ⟨w_16, hk_17, h⟩ := h
      refine rn_cal0 (ins := .invokevirtual 110) (rest := []) rfl rfl rfl rfl (zinv_v (fs := _) hl_14 rfl rfl rfl rfl) rfl rfl hk_17 ?_
      show Zr sc 143 305 [zp a0, zj x1, zj x2, zj x3, zj x4, zj x5, zj x6, zj x7] [] w_16 ov w' c s
      exact h
set_option maxRecDepth 100000 in
theorem V143_305 {sc : List Value} {w w' : List zE} {ov : Option Value} {c s : Nat} {a0 : Nat} {x1 : Int} {x2 : Int} {x3 : Int} {x4 : Int} {x5 : Int} {x6 : Int} {x7 : Int} {dr : Int} {wy : Int} {st : Int} {hd : Int} {nm : Int} {ar : Int} {hn : Int} {pk : Int} {D : Nat} {tl : Int} {sz : List Int} {rm : List Int} (L0 : w[a0]? = some (zob 7 [zp (a0 + 1), .ref 0, zj dr, zj wy, zj st, zj hd, zp (a0 + 73), zj nm, zp (a0 + 74), zp (a0 + 75), zp (a0 + 76), zj ar, zj hn, zp (a0 + 77), zj pk, zp D, zj tl])) (L74 : w[(a0 + 74)]? = some (za sz)) (L75 : w[(a0 + 75)]? = some (za rm)) (h : ((zrg x7) ∧ ((x7 < 0 → Zr sc 143 325 [zp a0, zj x1, zj x2, zj x3, zj x4, zj x5, zj x6, zj x7] [] w ov w' c s) ∧ (¬ (x7 < 0) → (((0 : Int) ≤ x1 ∧ x1 < (sz.length : Int) ∧ x1 ≤ (2147483647 : Int)) ∧ (((0 : Int) ≤ x1 ∧ x1 < (rm.length : Int) ∧ x1 ≤ (2147483647 : Int)) ∧ Zr sc 143 325 [zp a0, zj x1, zj x2, zj x3, zj x4, zj x5, zj x6, zj x7] [] ((w.set (a0 + 74) (za (zsi sz x1 x2))).set (a0 + 75) (za (zsi rm x1 x4))) ov w' c s)))))) : Zr sc 143 305 [zp a0, zj x1, zj x2, zj x3, zj x4, zj x5, zj x6, zj x7] [] w ov w' c s := by
  refine Zr_st (q := (307, [zp a0, zj x1, zj x2, zj x3, zj x4, zj x5, zj x6, zj x7], [zj x7])) rfl rfl rfl ?_
  show Zr sc 143 307 [zp a0, zj x1, zj x2, zj x3, zj x4, zj x5, zj x6, zj x7] [zj x7] w ov w' c s
  obtain ⟨hr_1, h⟩ := h
  refine Zr_b0 (p := x7 < 0) rfl rfl (zcmp_0 (cnd := .lt) hr_1) (fun hp => ?_) (fun hp => ?_)
  · replace h := h.1 hp
    show Zr sc 143 325 [zp a0, zj x1, zj x2, zj x3, zj x4, zj x5, zj x6, zj x7] [] w ov w' c s
    exact h
  · replace h := h.2 hp
    show Zr sc 143 310 [zp a0, zj x1, zj x2, zj x3, zj x4, zj x5, zj x6, zj x7] [] w ov w' c s
    refine Zr_st (q := (311, [zp a0, zj x1, zj x2, zj x3, zj x4, zj x5, zj x6, zj x7], [zp a0])) rfl rfl rfl ?_
    show Zr sc 143 311 [zp a0, zj x1, zj x2, zj x3, zj x4, zj x5, zj x6, zj x7] [zp a0] w ov w' c s
    refine rl_gf rfl L0 rfl rfl ?_
    show Zr sc 143 314 [zp a0, zj x1, zj x2, zj x3, zj x4, zj x5, zj x6, zj x7] [zp (a0 + 74)] w ov w' c s
    refine Zr_st (q := (315, [zp a0, zj x1, zj x2, zj x3, zj x4, zj x5, zj x6, zj x7], [zj x1, zp (a0 + 74)])) rfl rfl rfl ?_
    show Zr sc 143 315 [zp a0, zj x1, zj x2, zj x3, zj x4, zj x5, zj x6, zj x7] [zj x1, zp (a0 + 74)] w ov w' c s
    refine Zr_st (q := (316, [zp a0, zj x1, zj x2, zj x3, zj x4, zj x5, zj x6, zj x7], [zj x2, zj x1, zp (a0 + 74)])) rfl rfl rfl ?_
    show Zr sc 143 316 [zp a0, zj x1, zj x2, zj x3, zj x4, zj x5, zj x6, zj x7] [zj x2, zj x1, zp (a0 + 74)] w ov w' c s
    obtain ⟨hi_2, h⟩ := h
    refine rl_is rfl L74 hi_2.1 hi_2.2.1 hi_2.2.2 ?_
    show Zr sc 143 317 [zp a0, zj x1, zj x2, zj x3, zj x4, zj x5, zj x6, zj x7] [] (w.set (a0 + 74) (za (zsi sz x1 x2))) ov w' c s
    refine Zr_st (q := (318, [zp a0, zj x1, zj x2, zj x3, zj x4, zj x5, zj x6, zj x7], [zp a0])) rfl rfl rfl ?_
    show Zr sc 143 318 [zp a0, zj x1, zj x2, zj x3, zj x4, zj x5, zj x6, zj x7] [zp a0] (w.set (a0 + 74) (za (zsi sz x1 x2))) ov w' c s
    refine rl_gf rfl (zw_o (by omega) L0) rfl rfl ?_
    show Zr sc 143 321 [zp a0, zj x1, zj x2, zj x3, zj x4, zj x5, zj x6, zj x7] [zp (a0 + 75)] (w.set (a0 + 74) (za (zsi sz x1 x2))) ov w' c s
    refine Zr_st (q := (322, [zp a0, zj x1, zj x2, zj x3, zj x4, zj x5, zj x6, zj x7], [zj x1, zp (a0 + 75)])) rfl rfl rfl ?_
    show Zr sc 143 322 [zp a0, zj x1, zj x2, zj x3, zj x4, zj x5, zj x6, zj x7] [zj x1, zp (a0 + 75)] (w.set (a0 + 74) (za (zsi sz x1 x2))) ov w' c s
    refine Zr_st (q := (324, [zp a0, zj x1, zj x2, zj x3, zj x4, zj x5, zj x6, zj x7], [zj x4, zj x1, zp (a0 + 75)])) rfl rfl rfl ?_
    show Zr sc 143 324 [zp a0, zj x1, zj x2, zj x3, zj x4, zj x5, zj x6, zj x7] [zj x4, zj x1, zp (a0 + 75)] (w.set (a0 + 74) (za (zsi sz x1 x2))) ov w' c s
    obtain ⟨hi_3, h⟩ := h
    refine rl_is rfl (zw_o (by omega) L75) hi_3.1 hi_3.2.1 hi_3.2.2 ?_
    show Zr sc 143 325 [zp a0, zj x1, zj x2, zj x3, zj x4, zj x5, zj x6, zj x7] [] ((w.set (a0 + 74) (za (zsi sz x1 x2))).set (a0 + 75) (za (zsi rm x1 x4))) ov w' c s
    exact h
set_option maxRecDepth 100000 in
theorem V143_325 {sc : List Value} {w w' : List zE} {ov : Option Value} {c s : Nat} {a0 : Nat} {x1 : Int} {x2 : Int} {x3 : Int} {x4 : Int} {x5 : Int} {x6 : Int} {x7 : Int} {dr : Int} {wy : Int} {st : Int} {hd : Int} {nm : Int} {ar : Int} {hn : Int} {pk : Int} {D : Nat} {tl : Int} (L0 : w[a0]? = some (zob 7 [zp (a0 + 1), .ref 0, zj dr, zj wy, zj st, zj hd, zp (a0 + 73), zj nm, zp (a0 + 74), zp (a0 + 75), zp (a0 + 76), zj ar, zj hn, zp (a0 + 77), zj pk, zp D, zj tl])) (h : (∃ w_1 : List zE, ∃ c_3 s_4 c_5 s_6 : Nat, Zc sc 132 [zp a0, zj 2, zj x1, zj x2] w none w_1 c_3 s_4 ∧ (c = c_3 + c_5 ∧ s = s_4 + s_6) ∧ (∃ dr_9 : Int, ∃ wy_10 : Int, ∃ st_11 : Int, ∃ hd_12 : Int, ∃ nm_13 : Int, ∃ ar_14 : Int, ∃ hn_15 : Int, ∃ pk_16 : Int, ∃ D_17 : Nat, ∃ tl_18 : Int, w_1[a0]? = some (zob 7 [zp (a0 + 1), .ref 0, zj dr_9, zj wy_10, zj st_11, zj hd_12, zp (a0 + 73), zj nm_13, zp (a0 + 74), zp (a0 + 75), zp (a0 + 76), zj ar_14, zj hn_15, zp (a0 + 77), zj pk_16, zp D_17, zj tl_18]) ∧ ((zrg tl_18) ∧ ((tl_18 = 0 → (ov = some (zj 1) ∧ w' = w_1 ∧ c_5 = 0 ∧ s_6 = 0)) ∧ (¬ (tl_18 = 0) → (∃ fs_21 : List Value, w_1[(a0 + 1)]? = some (zob 6 fs_21) ∧ (∃ r_24 : Int, ∃ w_22 : List zE, Zc sc 144 [zp (a0 + 1), zj x1, zj x2] w_1 (some (zj r_24)) w_22 0 0 ∧ ((zrg x7) ∧ ((0 ≤ x7 → ((zrg r_24 ∧ zrg x7) ∧ ((r_24 ≠ x7 → (ov = some (zj 0) ∧ w' = w_22 ∧ c_5 = 0 ∧ s_6 = 0)) ∧ (¬ (r_24 ≠ x7) → (∃ dr_28 : Int, ∃ wy_29 : Int, ∃ st_30 : Int, ∃ hd_31 : Int, ∃ nm_32 : Int, ∃ ar_33 : Int, ∃ hn_34 : Int, ∃ pk_35 : Int, ∃ D_36 : Nat, ∃ tl_37 : Int, w_22[a0]? = some (zob 7 [zp (a0 + 1), .ref 0, zj dr_28, zj wy_29, zj st_30, zj hd_31, zp (a0 + 73), zj nm_32, zp (a0 + 74), zp (a0 + 75), zp (a0 + 76), zj ar_33, zj hn_34, zp (a0 + 77), zj pk_35, zp D_36, zj tl_37]) ∧ (∃ fs_39 : List Value, w_22[(a0 + 1)]? = some (zob 6 fs_39) ∧ (∃ r_42 : Int, Zc sc 10 [zp (a0 + 1), zj x1] w_22 (some (zj r_42)) w_22 0 0 ∧ (∃ l_45 : List Int, w_22[(a0 + 74)]? = some (za l_45) ∧ (((0 : Int) ≤ x1 ∧ x1 < (l_45.length : Int) ∧ x1 ≤ (2147483647 : Int)) ∧ ((zrg r_42 ∧ zrg (zgi l_45 x1)) ∧ ((r_42 ≠ (zgi l_45 x1) → (ov = some (zj 0) ∧ w' = w_22 ∧ c_5 = 0 ∧ s_6 = 0)) ∧ (¬ (r_42 ≠ (zgi l_45 x1)) → (∃ r_49 : Int, Zc sc 12 [zp (a0 + 1), zj x1] w_22 (some (zj r_49)) w_22 0 0 ∧ (∃ l_52 : List Int, w_22[(a0 + 75)]? = some (za l_52) ∧ (((0 : Int) ≤ x1 ∧ x1 < (l_52.length : Int) ∧ x1 ≤ (2147483647 : Int)) ∧ ((zrg r_49 ∧ zrg (zgi l_52 x1)) ∧ ((r_49 ≠ (zgi l_52 x1) → (ov = some (zj 0) ∧ w' = w_22 ∧ c_5 = 0 ∧ s_6 = 0)) ∧ (¬ (r_49 ≠ (zgi l_52 x1)) → (ov = some (zj 1) ∧ w' = w_22 ∧ c_5 = 0 ∧ s_6 = 0))))))))))))))))))) ∧ (¬ (0 ≤ x7) → ((zrg r_24 ∧ zrg x3) ∧ ((r_24 ≠ x3 → (ov = some (zj 0) ∧ w' = w_22 ∧ c_5 = 0 ∧ s_6 = 0)) ∧ (¬ (r_24 ≠ x3) → (∃ dr_56 : Int, ∃ wy_57 : Int, ∃ st_58 : Int, ∃ hd_59 : Int, ∃ nm_60 : Int, ∃ ar_61 : Int, ∃ hn_62 : Int, ∃ pk_63 : Int, ∃ D_64 : Nat, ∃ tl_65 : Int, w_22[a0]? = some (zob 7 [zp (a0 + 1), .ref 0, zj dr_56, zj wy_57, zj st_58, zj hd_59, zp (a0 + 73), zj nm_60, zp (a0 + 74), zp (a0 + 75), zp (a0 + 76), zj ar_61, zj hn_62, zp (a0 + 77), zj pk_63, zp D_64, zj tl_65]) ∧ (∃ fs_67 : List Value, w_22[(a0 + 1)]? = some (zob 6 fs_67) ∧ (∃ r_70 : Int, Zc sc 10 [zp (a0 + 1), zj x1] w_22 (some (zj r_70)) w_22 0 0 ∧ (∃ l_73 : List Int, w_22[(a0 + 74)]? = some (za l_73) ∧ (((0 : Int) ≤ x1 ∧ x1 < (l_73.length : Int) ∧ x1 ≤ (2147483647 : Int)) ∧ ((zrg r_70 ∧ zrg (zgi l_73 x1)) ∧ ((r_70 ≠ (zgi l_73 x1) → (ov = some (zj 0) ∧ w' = w_22 ∧ c_5 = 0 ∧ s_6 = 0)) ∧ (¬ (r_70 ≠ (zgi l_73 x1)) → (∃ r_77 : Int, Zc sc 12 [zp (a0 + 1), zj x1] w_22 (some (zj r_77)) w_22 0 0 ∧ (∃ l_80 : List Int, w_22[(a0 + 75)]? = some (za l_80) ∧ (((0 : Int) ≤ x1 ∧ x1 < (l_80.length : Int) ∧ x1 ≤ (2147483647 : Int)) ∧ ((zrg r_77 ∧ zrg (zgi l_80 x1)) ∧ ((r_77 ≠ (zgi l_80 x1) → (ov = some (zj 0) ∧ w' = w_22 ∧ c_5 = 0 ∧ s_6 = 0)) ∧ (¬ (r_77 ≠ (zgi l_80 x1)) → (ov = some (zj 1) ∧ w' = w_22 ∧ c_5 = 0 ∧ s_6 = 0))))))))))))))))))))))))))))) : Zr sc 143 325 [zp a0, zj x1, zj x2, zj x3, zj x4, zj x5, zj x6, zj x7] [] w ov w' c s := by
  refine Zr_st (q := (326, [zp a0, zj x1, zj x2, zj x3, zj x4, zj x5, zj x6, zj x7], [zp a0])) rfl rfl rfl ?_
  show Zr sc 143 326 [zp a0, zj x1, zj x2, zj x3, zj x4, zj x5, zj x6, zj x7] [zp a0] w ov w' c s
  refine rl_ic rfl ?_
  show Zr sc 143 327 [zp a0, zj x1, zj x2, zj x3, zj x4, zj x5, zj x6, zj x7] [zj 2, zp a0] w ov w' c s
  refine Zr_st (q := (328, [zp a0, zj x1, zj x2, zj x3, zj x4, zj x5, zj x6, zj x7], [zj x1, zj 2, zp a0])) rfl rfl rfl ?_
  show Zr sc 143 328 [zp a0, zj x1, zj x2, zj x3, zj x4, zj x5, zj x6, zj x7] [zj x1, zj 2, zp a0] w ov w' c s
  refine Zr_st (q := (329, [zp a0, zj x1, zj x2, zj x3, zj x4, zj x5, zj x6, zj x7], [zj x2, zj x1, zj 2, zp a0])) rfl rfl rfl ?_
  show Zr sc 143 329 [zp a0, zj x1, zj x2, zj x3, zj x4, zj x5, zj x6, zj x7] [zj x2, zj x1, zj 2, zp a0] w ov w' c s
  obtain ⟨w_1, c_3, s_4, c_5, s_6, hk_2, hc_7, h⟩ := h
  refine rl_cal (ins := .invokevirtual 136) (rest := []) rfl rfl rfl rfl (zinv_v (fs := _) L0 rfl rfl rfl rfl) rfl rfl hk_2 ?_ hc_7.1 hc_7.2
  show Zr sc 143 332 [zp a0, zj x1, zj x2, zj x3, zj x4, zj x5, zj x6, zj x7] [] w_1 ov w' c_5 s_6
  refine Zr_st (q := (333, [zp a0, zj x1, zj x2, zj x3, zj x4, zj x5, zj x6, zj x7], [zp a0])) rfl rfl rfl ?_
  show Zr sc 143 333 [zp a0, zj x1, zj x2, zj x3, zj x4, zj x5, zj x6, zj x7] [zp a0] w_1 ov w' c_5 s_6
  obtain ⟨dr_9, wy_10, st_11, hd_12, nm_13, ar_14, hn_15, pk_16, D_17, tl_18, hw_8, h⟩ := h
  refine rl_gf rfl hw_8 rfl rfl ?_
  show Zr sc 143 336 [zp a0, zj x1, zj x2, zj x3, zj x4, zj x5, zj x6, zj x7] [zj tl_18] w_1 ov w' c_5 s_6
  obtain ⟨hr_19, h⟩ := h
  refine Zr_b0 (p := tl_18 = 0) rfl rfl (zcmp_0 (cnd := .eq) hr_19) (fun hp => ?_) (fun hp => ?_)
  · replace h := h.1 hp
    show Zr sc 143 396 [zp a0, zj x1, zj x2, zj x3, zj x4, zj x5, zj x6, zj x7] [] w_1 ov w' c_5 s_6
    refine rl_ic rfl ?_
    show Zr sc 143 397 [zp a0, zj x1, zj x2, zj x3, zj x4, zj x5, zj x6, zj x7] [zj 1] w_1 ov w' c_5 s_6
    refine Zr_st (q := (401, [zp a0, zj x1, zj x2, zj x3, zj x4, zj x5, zj x6, zj x7], [zj 1])) rfl rfl rfl ?_
    show Zr sc 143 401 [zp a0, zj x1, zj x2, zj x3, zj x4, zj x5, zj x6, zj x7] [zj 1] w_1 ov w' c_5 s_6
    obtain ⟨h1, h2, h3, h4⟩ := h
    subst h1; subst h2; subst h3; subst h4
    exact Zr_ret (ins := .ireturn) rfl rfl
  · replace h := h.2 hp
    show Zr sc 143 339 [zp a0, zj x1, zj x2, zj x3, zj x4, zj x5, zj x6, zj x7] [] w_1 ov w' c_5 s_6
    refine Zr_st (q := (340, [zp a0, zj x1, zj x2, zj x3, zj x4, zj x5, zj x6, zj x7], [zp a0])) rfl rfl rfl ?_
    show Zr sc 143 340 [zp a0, zj x1, zj x2, zj x3, zj x4, zj x5, zj x6, zj x7] [zp a0] w_1 ov w' c_5 s_6
    refine rl_gf rfl hw_8 rfl rfl ?_
    show Zr sc 143 343 [zp a0, zj x1, zj x2, zj x3, zj x4, zj x5, zj x6, zj x7] [zp (a0 + 1)] w_1 ov w' c_5 s_6
    refine Zr_st (q := (344, [zp a0, zj x1, zj x2, zj x3, zj x4, zj x5, zj x6, zj x7], [zj x1, zp (a0 + 1)])) rfl rfl rfl ?_
    show Zr sc 143 344 [zp a0, zj x1, zj x2, zj x3, zj x4, zj x5, zj x6, zj x7] [zj x1, zp (a0 + 1)] w_1 ov w' c_5 s_6
    refine Zr_st (q := (345, [zp a0, zj x1, zj x2, zj x3, zj x4, zj x5, zj x6, zj x7], [zj x2, zj x1, zp (a0 + 1)])) rfl rfl rfl ?_
    show Zr sc 143 345 [zp a0, zj x1, zj x2, zj x3, zj x4, zj x5, zj x6, zj x7] [zj x2, zj x1, zp (a0 + 1)] w_1 ov w' c_5 s_6
    obtain ⟨fs_21, hl_20, h⟩ := h
    obtain ⟨r_24, w_22, hk_23, h⟩ := h
    refine rn_cal0 (ins := .invokevirtual 157) (rest := []) rfl rfl rfl rfl (zinv_v (fs := _) hl_20 rfl rfl rfl rfl) rfl rfl hk_23 ?_
    show Zr sc 143 348 [zp a0, zj x1, zj x2, zj x3, zj x4, zj x5, zj x6, zj x7] [zj r_24] w_22 ov w' c_5 s_6
    refine Zr_st (q := (350, [zp a0, zj x1, zj x2, zj x3, zj x4, zj x5, zj x6, zj x7], [zj x7, zj r_24])) rfl rfl rfl ?_
    show Zr sc 143 350 [zp a0, zj x1, zj x2, zj x3, zj x4, zj x5, zj x6, zj x7] [zj x7, zj r_24] w_22 ov w' c_5 s_6
    obtain ⟨hr_25, h⟩ := h
    refine Zr_b0 (p := 0 ≤ x7) rfl rfl (zcmp_0 (cnd := .ge) hr_25) (fun hp => ?_) (fun hp => ?_)
    · replace h := h.1 hp
      show Zr sc 143 357 [zp a0, zj x1, zj x2, zj x3, zj x4, zj x5, zj x6, zj x7] [zj r_24] w_22 ov w' c_5 s_6
      refine Zr_st (q := (359, [zp a0, zj x1, zj x2, zj x3, zj x4, zj x5, zj x6, zj x7], [zj x7, zj r_24])) rfl rfl rfl ?_
      show Zr sc 143 359 [zp a0, zj x1, zj x2, zj x3, zj x4, zj x5, zj x6, zj x7] [zj x7, zj r_24] w_22 ov w' c_5 s_6
      obtain ⟨hr_26, h⟩ := h
      refine Zr_br (p := r_24 ≠ x7) rfl rfl (zcmp_j (cnd := .ne) hr_26.1 hr_26.2) (fun hp => ?_) (fun hp => ?_)
      · replace h := h.1 hp
        show Zr sc 143 400 [zp a0, zj x1, zj x2, zj x3, zj x4, zj x5, zj x6, zj x7] [] w_22 ov w' c_5 s_6
        refine rl_ic rfl ?_
        show Zr sc 143 401 [zp a0, zj x1, zj x2, zj x3, zj x4, zj x5, zj x6, zj x7] [zj 0] w_22 ov w' c_5 s_6
        obtain ⟨h1, h2, h3, h4⟩ := h
        subst h1; subst h2; subst h3; subst h4
        exact Zr_ret (ins := .ireturn) rfl rfl
      · replace h := h.2 hp
        show Zr sc 143 362 [zp a0, zj x1, zj x2, zj x3, zj x4, zj x5, zj x6, zj x7] [] w_22 ov w' c_5 s_6
        refine Zr_st (q := (363, [zp a0, zj x1, zj x2, zj x3, zj x4, zj x5, zj x6, zj x7], [zp a0])) rfl rfl rfl ?_
        show Zr sc 143 363 [zp a0, zj x1, zj x2, zj x3, zj x4, zj x5, zj x6, zj x7] [zp a0] w_22 ov w' c_5 s_6
        obtain ⟨dr_28, wy_29, st_30, hd_31, nm_32, ar_33, hn_34, pk_35, D_36, tl_37, hw_27, h⟩ := h
        refine rl_gf rfl hw_27 rfl rfl ?_
        show Zr sc 143 366 [zp a0, zj x1, zj x2, zj x3, zj x4, zj x5, zj x6, zj x7] [zp (a0 + 1)] w_22 ov w' c_5 s_6
        refine Zr_st (q := (367, [zp a0, zj x1, zj x2, zj x3, zj x4, zj x5, zj x6, zj x7], [zj x1, zp (a0 + 1)])) rfl rfl rfl ?_
        show Zr sc 143 367 [zp a0, zj x1, zj x2, zj x3, zj x4, zj x5, zj x6, zj x7] [zj x1, zp (a0 + 1)] w_22 ov w' c_5 s_6
        obtain ⟨fs_39, hl_38, h⟩ := h
        obtain ⟨r_42, hk_9, h⟩ := h
        refine rn_cal0 (ins := .invokevirtual 160) (rest := []) rfl rfl rfl rfl (zinv_v (fs := _) hl_38 rfl rfl rfl rfl) rfl rfl hk_9 ?_
        show Zr sc 143 370 [zp a0, zj x1, zj x2, zj x3, zj x4, zj x5, zj x6, zj x7] [zj r_42] w_22 ov w' c_5 s_6
        refine Zr_st (q := (371, [zp a0, zj x1, zj x2, zj x3, zj x4, zj x5, zj x6, zj x7], [zp a0, zj r_42])) rfl rfl rfl ?_
        show Zr sc 143 371 [zp a0, zj x1, zj x2, zj x3, zj x4, zj x5, zj x6, zj x7] [zp a0, zj r_42] w_22 ov w' c_5 s_6
        refine rl_gf rfl hw_27 rfl rfl ?_
        show Zr sc 143 374 [zp a0, zj x1, zj x2, zj x3, zj x4, zj x5, zj x6, zj x7] [zp (a0 + 74), zj r_42] w_22 ov w' c_5 s_6
        refine Zr_st (q := (375, [zp a0, zj x1, zj x2, zj x3, zj x4, zj x5, zj x6, zj x7], [zj x1, zp (a0 + 74), zj r_42])) rfl rfl rfl ?_
        show Zr sc 143 375 [zp a0, zj x1, zj x2, zj x3, zj x4, zj x5, zj x6, zj x7] [zj x1, zp (a0 + 74), zj r_42] w_22 ov w' c_5 s_6
        obtain ⟨l_45, hw_44, h⟩ := h
        obtain ⟨hi_43, h⟩ := h
        refine rl_ia rfl hw_44 hi_43.1 hi_43.2.1 hi_43.2.2 ?_
        show Zr sc 143 376 [zp a0, zj x1, zj x2, zj x3, zj x4, zj x5, zj x6, zj x7] [zj (zgi l_45 x1), zj r_42] w_22 ov w' c_5 s_6
        obtain ⟨hr_46, h⟩ := h
        refine Zr_br (p := r_42 ≠ (zgi l_45 x1)) rfl rfl (zcmp_j (cnd := .ne) hr_46.1 hr_46.2) (fun hp => ?_) (fun hp => ?_)
        · replace h := h.1 hp
          show Zr sc 143 400 [zp a0, zj x1, zj x2, zj x3, zj x4, zj x5, zj x6, zj x7] [] w_22 ov w' c_5 s_6
          refine rl_ic rfl ?_
          show Zr sc 143 401 [zp a0, zj x1, zj x2, zj x3, zj x4, zj x5, zj x6, zj x7] [zj 0] w_22 ov w' c_5 s_6
          obtain ⟨h1, h2, h3, h4⟩ := h
          subst h1; subst h2; subst h3; subst h4
          exact Zr_ret (ins := .ireturn) rfl rfl
        · replace h := h.2 hp
          show Zr sc 143 379 [zp a0, zj x1, zj x2, zj x3, zj x4, zj x5, zj x6, zj x7] [] w_22 ov w' c_5 s_6
          refine Zr_st (q := (380, [zp a0, zj x1, zj x2, zj x3, zj x4, zj x5, zj x6, zj x7], [zp a0])) rfl rfl rfl ?_
          show Zr sc 143 380 [zp a0, zj x1, zj x2, zj x3, zj x4, zj x5, zj x6, zj x7] [zp a0] w_22 ov w' c_5 s_6
          refine rl_gf rfl hw_27 rfl rfl ?_
          show Zr sc 143 383 [zp a0, zj x1, zj x2, zj x3, zj x4, zj x5, zj x6, zj x7] [zp (a0 + 1)] w_22 ov w' c_5 s_6
          refine Zr_st (q := (384, [zp a0, zj x1, zj x2, zj x3, zj x4, zj x5, zj x6, zj x7], [zj x1, zp (a0 + 1)])) rfl rfl rfl ?_
          show Zr sc 143 384 [zp a0, zj x1, zj x2, zj x3, zj x4, zj x5, zj x6, zj x7] [zj x1, zp (a0 + 1)] w_22 ov w' c_5 s_6
          obtain ⟨r_49, hk_9, h⟩ := h
          refine rn_cal0 (ins := .invokevirtual 162) (rest := []) rfl rfl rfl rfl (zinv_v (fs := _) hl_38 rfl rfl rfl rfl) rfl rfl hk_9 ?_
          show Zr sc 143 387 [zp a0, zj x1, zj x2, zj x3, zj x4, zj x5, zj x6, zj x7] [zj r_49] w_22 ov w' c_5 s_6
          refine Zr_st (q := (388, [zp a0, zj x1, zj x2, zj x3, zj x4, zj x5, zj x6, zj x7], [zp a0, zj r_49])) rfl rfl rfl ?_
          show Zr sc 143 388 [zp a0, zj x1, zj x2, zj x3, zj x4, zj x5, zj x6, zj x7] [zp a0, zj r_49] w_22 ov w' c_5 s_6
          refine rl_gf rfl hw_27 rfl rfl ?_
          show Zr sc 143 391 [zp a0, zj x1, zj x2, zj x3, zj x4, zj x5, zj x6, zj x7] [zp (a0 + 75), zj r_49] w_22 ov w' c_5 s_6
          refine Zr_st (q := (392, [zp a0, zj x1, zj x2, zj x3, zj x4, zj x5, zj x6, zj x7], [zj x1, zp (a0 + 75), zj r_49])) rfl rfl rfl ?_
          show Zr sc 143 392 [zp a0, zj x1, zj x2, zj x3, zj x4, zj x5, zj x6, zj x7] [zj x1, zp (a0 + 75), zj r_49] w_22 ov w' c_5 s_6
          obtain ⟨l_52, hw_51, h⟩ := h
          obtain ⟨hi_50, h⟩ := h
          refine rl_ia rfl hw_51 hi_50.1 hi_50.2.1 hi_50.2.2 ?_
          show Zr sc 143 393 [zp a0, zj x1, zj x2, zj x3, zj x4, zj x5, zj x6, zj x7] [zj (zgi l_52 x1), zj r_49] w_22 ov w' c_5 s_6
          obtain ⟨hr_53, h⟩ := h
          refine Zr_br (p := r_49 ≠ (zgi l_52 x1)) rfl rfl (zcmp_j (cnd := .ne) hr_53.1 hr_53.2) (fun hp => ?_) (fun hp => ?_)
          · replace h := h.1 hp
            show Zr sc 143 400 [zp a0, zj x1, zj x2, zj x3, zj x4, zj x5, zj x6, zj x7] [] w_22 ov w' c_5 s_6
            refine rl_ic rfl ?_
            show Zr sc 143 401 [zp a0, zj x1, zj x2, zj x3, zj x4, zj x5, zj x6, zj x7] [zj 0] w_22 ov w' c_5 s_6
            obtain ⟨h1, h2, h3, h4⟩ := h
            subst h1; subst h2; subst h3; subst h4
            exact Zr_ret (ins := .ireturn) rfl rfl
          · replace h := h.2 hp
            show Zr sc 143 396 [zp a0, zj x1, zj x2, zj x3, zj x4, zj x5, zj x6, zj x7] [] w_22 ov w' c_5 s_6
            refine rl_ic rfl ?_
            show Zr sc 143 397 [zp a0, zj x1, zj x2, zj x3, zj x4, zj x5, zj x6, zj x7] [zj 1] w_22 ov w' c_5 s_6
            refine Zr_st (q := (401, [zp a0, zj x1, zj x2, zj x3, zj x4, zj x5, zj x6, zj x7], [zj 1])) rfl rfl rfl ?_
            show Zr sc 143 401 [zp a0, zj x1, zj x2, zj x3, zj x4, zj x5, zj x6, zj x7] [zj 1] w_22 ov w' c_5 s_6
            obtain ⟨h1, h2, h3, h4⟩ := h
            subst h1; subst h2; subst h3; subst h4
            exact Zr_ret (ins := .ireturn) rfl rfl
    · replace h := h.2 hp
      show Zr sc 143 353 [zp a0, zj x1, zj x2, zj x3, zj x4, zj x5, zj x6, zj x7] [zj r_24] w_22 ov w' c_5 s_6
      refine Zr_st (q := (354, [zp a0, zj x1, zj x2, zj x3, zj x4, zj x5, zj x6, zj x7], [zj x3, zj r_24])) rfl rfl rfl ?_
      show Zr sc 143 354 [zp a0, zj x1, zj x2, zj x3, zj x4, zj x5, zj x6, zj x7] [zj x3, zj r_24] w_22 ov w' c_5 s_6
      refine Zr_st (q := (359, [zp a0, zj x1, zj x2, zj x3, zj x4, zj x5, zj x6, zj x7], [zj x3, zj r_24])) rfl rfl rfl ?_
      show Zr sc 143 359 [zp a0, zj x1, zj x2, zj x3, zj x4, zj x5, zj x6, zj x7] [zj x3, zj r_24] w_22 ov w' c_5 s_6
      obtain ⟨hr_54, h⟩ := h
      refine Zr_br (p := r_24 ≠ x3) rfl rfl (zcmp_j (cnd := .ne) hr_54.1 hr_54.2) (fun hp => ?_) (fun hp => ?_)
      · replace h := h.1 hp
        show Zr sc 143 400 [zp a0, zj x1, zj x2, zj x3, zj x4, zj x5, zj x6, zj x7] [] w_22 ov w' c_5 s_6
        refine rl_ic rfl ?_
        show Zr sc 143 401 [zp a0, zj x1, zj x2, zj x3, zj x4, zj x5, zj x6, zj x7] [zj 0] w_22 ov w' c_5 s_6
        obtain ⟨h1, h2, h3, h4⟩ := h
        subst h1; subst h2; subst h3; subst h4
        exact Zr_ret (ins := .ireturn) rfl rfl
      · replace h := h.2 hp
        show Zr sc 143 362 [zp a0, zj x1, zj x2, zj x3, zj x4, zj x5, zj x6, zj x7] [] w_22 ov w' c_5 s_6
        refine Zr_st (q := (363, [zp a0, zj x1, zj x2, zj x3, zj x4, zj x5, zj x6, zj x7], [zp a0])) rfl rfl rfl ?_
        show Zr sc 143 363 [zp a0, zj x1, zj x2, zj x3, zj x4, zj x5, zj x6, zj x7] [zp a0] w_22 ov w' c_5 s_6
        obtain ⟨dr_56, wy_57, st_58, hd_59, nm_60, ar_61, hn_62, pk_63, D_64, tl_65, hw_55, h⟩ := h
        refine rl_gf rfl hw_55 rfl rfl ?_
        show Zr sc 143 366 [zp a0, zj x1, zj x2, zj x3, zj x4, zj x5, zj x6, zj x7] [zp (a0 + 1)] w_22 ov w' c_5 s_6
        refine Zr_st (q := (367, [zp a0, zj x1, zj x2, zj x3, zj x4, zj x5, zj x6, zj x7], [zj x1, zp (a0 + 1)])) rfl rfl rfl ?_
        show Zr sc 143 367 [zp a0, zj x1, zj x2, zj x3, zj x4, zj x5, zj x6, zj x7] [zj x1, zp (a0 + 1)] w_22 ov w' c_5 s_6
        obtain ⟨fs_67, hl_66, h⟩ := h
        obtain ⟨r_70, hk_9, h⟩ := h
        refine rn_cal0 (ins := .invokevirtual 160) (rest := []) rfl rfl rfl rfl (zinv_v (fs := _) hl_66 rfl rfl rfl rfl) rfl rfl hk_9 ?_
        show Zr sc 143 370 [zp a0, zj x1, zj x2, zj x3, zj x4, zj x5, zj x6, zj x7] [zj r_70] w_22 ov w' c_5 s_6
        refine Zr_st (q := (371, [zp a0, zj x1, zj x2, zj x3, zj x4, zj x5, zj x6, zj x7], [zp a0, zj r_70])) rfl rfl rfl ?_
        show Zr sc 143 371 [zp a0, zj x1, zj x2, zj x3, zj x4, zj x5, zj x6, zj x7] [zp a0, zj r_70] w_22 ov w' c_5 s_6
        refine rl_gf rfl hw_55 rfl rfl ?_
        show Zr sc 143 374 [zp a0, zj x1, zj x2, zj x3, zj x4, zj x5, zj x6, zj x7] [zp (a0 + 74), zj r_70] w_22 ov w' c_5 s_6
        refine Zr_st (q := (375, [zp a0, zj x1, zj x2, zj x3, zj x4, zj x5, zj x6, zj x7], [zj x1, zp (a0 + 74), zj r_70])) rfl rfl rfl ?_
        show Zr sc 143 375 [zp a0, zj x1, zj x2, zj x3, zj x4, zj x5, zj x6, zj x7] [zj x1, zp (a0 + 74), zj r_70] w_22 ov w' c_5 s_6
        obtain ⟨l_73, hw_72, h⟩ := h
        obtain ⟨hi_71, h⟩ := h
        refine rl_ia rfl hw_72 hi_71.1 hi_71.2.1 hi_71.2.2 ?_
        show Zr sc 143 376 [zp a0, zj x1, zj x2, zj x3, zj x4, zj x5, zj x6, zj x7] [zj (zgi l_73 x1), zj r_70] w_22 ov w' c_5 s_6
        obtain ⟨hr_74, h⟩ := h
        refine Zr_br (p := r_70 ≠ (zgi l_73 x1)) rfl rfl (zcmp_j (cnd := .ne) hr_74.1 hr_74.2) (fun hp => ?_) (fun hp => ?_)
        · replace h := h.1 hp
          show Zr sc 143 400 [zp a0, zj x1, zj x2, zj x3, zj x4, zj x5, zj x6, zj x7] [] w_22 ov w' c_5 s_6
          refine rl_ic rfl ?_
          show Zr sc 143 401 [zp a0, zj x1, zj x2, zj x3, zj x4, zj x5, zj x6, zj x7] [zj 0] w_22 ov w' c_5 s_6
          obtain ⟨h1, h2, h3, h4⟩ := h
          subst h1; subst h2; subst h3; subst h4
          exact Zr_ret (ins := .ireturn) rfl rfl
        · replace h := h.2 hp
          show Zr sc 143 379 [zp a0, zj x1, zj x2, zj x3, zj x4, zj x5, zj x6, zj x7] [] w_22 ov w' c_5 s_6
          refine Zr_st (q := (380, [zp a0, zj x1, zj x2, zj x3, zj x4, zj x5, zj x6, zj x7], [zp a0])) rfl rfl rfl ?_
          show Zr sc 143 380 [zp a0, zj x1, zj x2, zj x3, zj x4, zj x5, zj x6, zj x7] [zp a0] w_22 ov w' c_5 s_6
          refine rl_gf rfl hw_55 rfl rfl ?_
          show Zr sc 143 383 [zp a0, zj x1, zj x2, zj x3, zj x4, zj x5, zj x6, zj x7] [zp (a0 + 1)] w_22 ov w' c_5 s_6
          refine Zr_st (q := (384, [zp a0, zj x1, zj x2, zj x3, zj x4, zj x5, zj x6, zj x7], [zj x1, zp (a0 + 1)])) rfl rfl rfl ?_
          show Zr sc 143 384 [zp a0, zj x1, zj x2, zj x3, zj x4, zj x5, zj x6, zj x7] [zj x1, zp (a0 + 1)] w_22 ov w' c_5 s_6
          obtain ⟨r_77, hk_9, h⟩ := h
          refine rn_cal0 (ins := .invokevirtual 162) (rest := []) rfl rfl rfl rfl (zinv_v (fs := _) hl_66 rfl rfl rfl rfl) rfl rfl hk_9 ?_
          show Zr sc 143 387 [zp a0, zj x1, zj x2, zj x3, zj x4, zj x5, zj x6, zj x7] [zj r_77] w_22 ov w' c_5 s_6
          refine Zr_st (q := (388, [zp a0, zj x1, zj x2, zj x3, zj x4, zj x5, zj x6, zj x7], [zp a0, zj r_77])) rfl rfl rfl ?_
          show Zr sc 143 388 [zp a0, zj x1, zj x2, zj x3, zj x4, zj x5, zj x6, zj x7] [zp a0, zj r_77] w_22 ov w' c_5 s_6
          refine rl_gf rfl hw_55 rfl rfl ?_
          show Zr sc 143 391 [zp a0, zj x1, zj x2, zj x3, zj x4, zj x5, zj x6, zj x7] [zp (a0 + 75), zj r_77] w_22 ov w' c_5 s_6
          refine Zr_st (q := (392, [zp a0, zj x1, zj x2, zj x3, zj x4, zj x5, zj x6, zj x7], [zj x1, zp (a0 + 75), zj r_77])) rfl rfl rfl ?_
          show Zr sc 143 392 [zp a0, zj x1, zj x2, zj x3, zj x4, zj x5, zj x6, zj x7] [zj x1, zp (a0 + 75), zj r_77] w_22 ov w' c_5 s_6
          obtain ⟨l_80, hw_79, h⟩ := h
          obtain ⟨hi_78, h⟩ := h
          refine rl_ia rfl hw_79 hi_78.1 hi_78.2.1 hi_78.2.2 ?_
          show Zr sc 143 393 [zp a0, zj x1, zj x2, zj x3, zj x4, zj x5, zj x6, zj x7] [zj (zgi l_80 x1), zj r_77] w_22 ov w' c_5 s_6
          obtain ⟨hr_81, h⟩ := h
          refine Zr_br (p := r_77 ≠ (zgi l_80 x1)) rfl rfl (zcmp_j (cnd := .ne) hr_81.1 hr_81.2) (fun hp => ?_) (fun hp => ?_)
          · replace h := h.1 hp
            show Zr sc 143 400 [zp a0, zj x1, zj x2, zj x3, zj x4, zj x5, zj x6, zj x7] [] w_22 ov w' c_5 s_6
            refine rl_ic rfl ?_
            show Zr sc 143 401 [zp a0, zj x1, zj x2, zj x3, zj x4, zj x5, zj x6, zj x7] [zj 0] w_22 ov w' c_5 s_6
            obtain ⟨h1, h2, h3, h4⟩ := h
            subst h1; subst h2; subst h3; subst h4
            exact Zr_ret (ins := .ireturn) rfl rfl
          · replace h := h.2 hp
            show Zr sc 143 396 [zp a0, zj x1, zj x2, zj x3, zj x4, zj x5, zj x6, zj x7] [] w_22 ov w' c_5 s_6
            refine rl_ic rfl ?_
            show Zr sc 143 397 [zp a0, zj x1, zj x2, zj x3, zj x4, zj x5, zj x6, zj x7] [zj 1] w_22 ov w' c_5 s_6
            refine Zr_st (q := (401, [zp a0, zj x1, zj x2, zj x3, zj x4, zj x5, zj x6, zj x7], [zj 1])) rfl rfl rfl ?_
            show Zr sc 143 401 [zp a0, zj x1, zj x2, zj x3, zj x4, zj x5, zj x6, zj x7] [zj 1] w_22 ov w' c_5 s_6
            obtain ⟨h1, h2, h3, h4⟩ := h
            subst h1; subst h2; subst h3; subst h4
            exact Zr_ret (ins := .ireturn) rfl rfl

-- HeapwrightLab.resize(II)I
set_option maxRecDepth 100000 in
theorem V144_0 {sc : List Value} {w w' : List zE} {ov : Option Value} {c s : Nat} {a0 : Nat} {x1 : Int} {x2 : Int} {wy : Int} (L0 : w[a0]? = some (zob 6 [zp (a0 + 1), zp (a0 + 5), zp (a0 + 16), zp (a0 + 27), zp (a0 + 38), zp (a0 + 49), zp (a0 + 60), zj wy])) (h : ((Zc sc 5 [zp a0, zj x1] w none w 0 0) ∧ ((Zc sc 37 [zj x2] w none w 0 0) ∧ ((Zc sc 142 [zp a0, zj x1] w none w 0 0) ∧ ((Zc sc 135 [zp a0] w none w 0 0) ∧ (∃ p_11 : Nat, Zc sc 1 [zp a0] w (some (zp p_11)) w 0 0 ∧ (∃ fs_13 : List Value, w[(a0 + 1)]? = some (zob 5 fs_13) ∧ (∃ p_16 : Nat, ∃ w_14 : List zE, Zc sc 136 [zp (a0 + 1), zj 2, zj x1, zj x2] w (some (zp p_16)) w_14 0 0 ∧ (∃ cn_17 : Nat, ∃ fs_18 : List Value, w_14[p_11]? = some (zob cn_17 fs_18) ∧ (cn_17 = 1 ∨ cn_17 = 2 ∨ cn_17 = 4) ∧ (∃ p_25 : Nat, ∃ w_23 : List zE, Zc sc 57 [zp p_11, zp p_16] w_14 (some (zp p_25)) w_23 0 0 ∧ (∃ cn_26 : Nat, ∃ fs_27 : List Value, w_23[p_25]? = some (zob cn_26 fs_27) ∧ (cn_26 = 1 ∨ cn_26 = 2 ∨ cn_26 = 4) ∧ (∃ p_34 : Nat, Zc sc 6 [zp p_25] w_23 (some (zp p_34)) w_23 0 0 ∧ (∃ fs_36 : List Value, w_23[p_34]? = some (zob 0 fs_36) ∧ (∃ r_39 : Int, Zc sc 9 [zp p_34, zj x1] w_23 (some (zj r_39)) w_23 0 0 ∧ (ov = some (zj r_39) ∧ w' = w_23 ∧ c = 0 ∧ s = 0))))))))))))))) : Zr sc 144 0 [zp a0, zj x1, zj x2] [] w ov w' c s := by
  refine Zr_st (q := (1, [zp a0, zj x1, zj x2], [zp a0])) rfl rfl rfl ?_
  show Zr sc 144 1 [zp a0, zj x1, zj x2] [zp a0] w ov w' c s
  refine Zr_st (q := (2, [zp a0, zj x1, zj x2], [zj x1, zp a0])) rfl rfl rfl ?_
  show Zr sc 144 2 [zp a0, zj x1, zj x2] [zj x1, zp a0] w ov w' c s
  obtain ⟨hk_9, h⟩ := h
  refine rn_cal0 (ins := .invokevirtual 107) (rest := []) rfl rfl rfl rfl (zinv_v (fs := _) L0 rfl rfl rfl rfl) rfl rfl hk_9 ?_
  show Zr sc 144 5 [zp a0, zj x1, zj x2] [] w ov w' c s
  refine Zr_st (q := (6, [zp a0, zj x1, zj x2], [zj x2])) rfl rfl rfl ?_
  show Zr sc 144 6 [zp a0, zj x1, zj x2] [zj x2] w ov w' c s
  obtain ⟨hk_9, h⟩ := h
  refine rn_cal0 (ins := .invokestatic 80) (rest := []) rfl rfl rfl rfl (zinv_t rfl rfl rfl rfl) rfl rfl hk_9 ?_
  show Zr sc 144 9 [zp a0, zj x1, zj x2] [] w ov w' c s
  refine Zr_st (q := (10, [zp a0, zj x1, zj x2], [zp a0])) rfl rfl rfl ?_
  show Zr sc 144 10 [zp a0, zj x1, zj x2] [zp a0] w ov w' c s
  refine Zr_st (q := (11, [zp a0, zj x1, zj x2], [zj x1, zp a0])) rfl rfl rfl ?_
  show Zr sc 144 11 [zp a0, zj x1, zj x2] [zj x1, zp a0] w ov w' c s
  obtain ⟨hk_9, h⟩ := h
  refine rn_cal0 (ins := .invokevirtual 110) (rest := []) rfl rfl rfl rfl (zinv_v (fs := _) L0 rfl rfl rfl rfl) rfl rfl hk_9 ?_
  show Zr sc 144 14 [zp a0, zj x1, zj x2] [] w ov w' c s
  refine Zr_st (q := (15, [zp a0, zj x1, zj x2], [zp a0])) rfl rfl rfl ?_
  show Zr sc 144 15 [zp a0, zj x1, zj x2] [zp a0] w ov w' c s
  obtain ⟨hk_9, h⟩ := h
  refine rn_cal0 (ins := .invokevirtual 96) (rest := []) rfl rfl rfl rfl (zinv_v (fs := _) L0 rfl rfl rfl rfl) rfl rfl hk_9 ?_
  show Zr sc 144 18 [zp a0, zj x1, zj x2] [] w ov w' c s
  refine Zr_st (q := (19, [zp a0, zj x1, zj x2], [zp a0])) rfl rfl rfl ?_
  show Zr sc 144 19 [zp a0, zj x1, zj x2] [zp a0] w ov w' c s
  obtain ⟨p_11, hk_9, h⟩ := h
  refine rn_cal0 (ins := .invokevirtual 83) (rest := []) rfl rfl rfl rfl (zinv_v (fs := _) L0 rfl rfl rfl rfl) rfl rfl hk_9 ?_
  show Zr sc 144 22 [zp a0, zj x1, zj x2] [zp p_11] w ov w' c s
  refine Zr_st (q := (23, [zp a0, zj x1, zj x2], [zp a0, zp p_11])) rfl rfl rfl ?_
  show Zr sc 144 23 [zp a0, zj x1, zj x2] [zp a0, zp p_11] w ov w' c s
  refine rl_gf rfl L0 rfl rfl ?_
  show Zr sc 144 26 [zp a0, zj x1, zj x2] [zp (a0 + 1), zp p_11] w ov w' c s
  refine rl_ic rfl ?_
  show Zr sc 144 27 [zp a0, zj x1, zj x2] [zj 2, zp (a0 + 1), zp p_11] w ov w' c s
  refine Zr_st (q := (28, [zp a0, zj x1, zj x2], [zj x1, zj 2, zp (a0 + 1), zp p_11])) rfl rfl rfl ?_
  show Zr sc 144 28 [zp a0, zj x1, zj x2] [zj x1, zj 2, zp (a0 + 1), zp p_11] w ov w' c s
  refine Zr_st (q := (29, [zp a0, zj x1, zj x2], [zj x2, zj x1, zj 2, zp (a0 + 1), zp p_11])) rfl rfl rfl ?_
  show Zr sc 144 29 [zp a0, zj x1, zj x2] [zj x2, zj x1, zj 2, zp (a0 + 1), zp p_11] w ov w' c s
  obtain ⟨fs_13, hl_12, h⟩ := h
  obtain ⟨p_16, w_14, hk_15, h⟩ := h
  refine rn_cal0 (ins := .invokevirtual 99) (rest := [zp p_11]) rfl rfl rfl rfl (zinv_v (fs := _) hl_12 rfl rfl rfl rfl) rfl rfl hk_15 ?_
  show Zr sc 144 32 [zp a0, zj x1, zj x2] [zp p_16, zp p_11] w_14 ov w' c s
  obtain ⟨cn_17, fs_18, hw_19, hcn_20, h⟩ := h
  have hz_21 : ∃ kd, zinv 144 (.invokevirtual 103) [zp p_16, zp p_11] (false, w_14) = some (kd, 57, [zp p_11, zp p_16], []) ∧ decide (kd < 6) = true := by rcases hcn_20 with rfl | rfl | rfl <;> exact zinv_u hw_19 rfl rfl rfl rfl rfl rfl rfl
  obtain ⟨kd_22, hz_21⟩ := hz_21
  obtain ⟨p_25, w_23, hk_24, h⟩ := h
  refine rn_cal0 (ins := .invokevirtual 103) (rest := []) rfl rfl rfl rfl hz_21.1 rfl hz_21.2 hk_24 ?_
  show Zr sc 144 35 [zp a0, zj x1, zj x2] [zp p_25] w_23 ov w' c s
  obtain ⟨cn_26, fs_27, hw_28, hcn_29, h⟩ := h
  have hz_30 : ∃ kd, zinv 144 (.invokevirtual 113) [zp p_25] (false, w_23) = some (kd, 6, [zp p_25], []) ∧ decide (kd < 6) = true := by rcases hcn_29 with rfl | rfl | rfl <;> exact zinv_u hw_28 rfl rfl rfl rfl rfl rfl rfl
  obtain ⟨kd_31, hz_30⟩ := hz_30
  obtain ⟨p_34, hk_9, h⟩ := h
  refine rn_cal0 (ins := .invokevirtual 113) (rest := []) rfl rfl rfl rfl hz_30.1 rfl hz_30.2 hk_9 ?_
  show Zr sc 144 38 [zp a0, zj x1, zj x2] [zp p_34] w_23 ov w' c s
  refine Zr_st (q := (39, [zp a0, zj x1, zj x2], [zj x1, zp p_34])) rfl rfl rfl ?_
  show Zr sc 144 39 [zp a0, zj x1, zj x2] [zj x1, zp p_34] w_23 ov w' c s
  obtain ⟨fs_36, hl_35, h⟩ := h
  obtain ⟨r_39, hk_9, h⟩ := h
  refine rn_cal0 (ins := .invokevirtual 123) (rest := []) rfl rfl rfl rfl (zinv_v (fs := _) hl_35 rfl rfl rfl rfl) rfl rfl hk_9 ?_
  show Zr sc 144 42 [zp a0, zj x1, zj x2] [zj r_39] w_23 ov w' c s
  obtain ⟨h1, h2, h3, h4⟩ := h
  subst h1; subst h2; subst h3; subst h4
  exact Zr_ret (ins := .ireturn) rfl rfl

-- HeapwrightLabLaw$Pool.open()Z
set_option maxRecDepth 100000 in
theorem V145_0 {sc : List Value} {w w' : List zE} {ov : Option Value} {c s : Nat} {a0 : Nat} {dr : Int} {wy : Int} {st : Int} {hd : Int} {nm : Int} {ar : Int} {hn : Int} {pk : Int} {D : Nat} {tl : Int} (L0 : w[a0]? = some (zob 7 [zp (a0 + 1), .ref 0, zj dr, zj wy, zj st, zj hd, zp (a0 + 73), zj nm, zp (a0 + 74), zp (a0 + 75), zp (a0 + 76), zj ar, zj hn, zp (a0 + 77), zj pk, zp D, zj tl])) (h : (∃ w_1 : List zE, ∃ c_3 s_4 c_5 s_6 : Nat, Zc sc 132 [zp a0, zj 4, zj 0, zj 0] (w.set a0 (zob 7 [zp (a0 + 1), .ref 0, zj dr, zj wy, zj st, zj hd, zp (a0 + 73), zj nm, zp (a0 + 74), zp (a0 + 75), zp (a0 + 76), zj (ar + 1), zj hn, zp (a0 + 77), zj pk, zp D, zj tl])) none w_1 c_3 s_4 ∧ (c = c_3 + c_5 ∧ s = s_4 + s_6) ∧ (∃ dr_9 : Int, ∃ wy_10 : Int, ∃ st_11 : Int, ∃ hd_12 : Int, ∃ nm_13 : Int, ∃ ar_14 : Int, ∃ hn_15 : Int, ∃ pk_16 : Int, ∃ D_17 : Nat, ∃ tl_18 : Int, w_1[a0]? = some (zob 7 [zp (a0 + 1), .ref 0, zj dr_9, zj wy_10, zj st_11, zj hd_12, zp (a0 + 73), zj nm_13, zp (a0 + 74), zp (a0 + 75), zp (a0 + 76), zj ar_14, zj hn_15, zp (a0 + 77), zj pk_16, zp D_17, zj tl_18]) ∧ ((zrg tl_18) ∧ ((tl_18 = 0 → (ov = some (zj 1) ∧ w' = w_1 ∧ c_5 = 0 ∧ s_6 = 0)) ∧ (¬ (tl_18 = 0) → (∃ fs_21 : List Value, w_1[(a0 + 1)]? = some (zob 6 fs_21) ∧ (∃ r_24 : Int, ∃ w_22 : List zE, Zc sc 146 [zp (a0 + 1)] w_1 (some (zj r_24)) w_22 0 0 ∧ (∃ dr_26 : Int, ∃ wy_27 : Int, ∃ st_28 : Int, ∃ hd_29 : Int, ∃ nm_30 : Int, ∃ ar_31 : Int, ∃ hn_32 : Int, ∃ pk_33 : Int, ∃ D_34 : Nat, ∃ tl_35 : Int, w_22[a0]? = some (zob 7 [zp (a0 + 1), .ref 0, zj dr_26, zj wy_27, zj st_28, zj hd_29, zp (a0 + 73), zj nm_30, zp (a0 + 74), zp (a0 + 75), zp (a0 + 76), zj ar_31, zj hn_32, zp (a0 + 77), zj pk_33, zp D_34, zj tl_35]) ∧ ((zrg r_24 ∧ zrg ar_31) ∧ ((r_24 ≠ ar_31 → (ov = some (zj 0) ∧ w' = w_22 ∧ c_5 = 0 ∧ s_6 = 0)) ∧ (¬ (r_24 ≠ ar_31) → (ov = some (zj 1) ∧ w' = w_22 ∧ c_5 = 0 ∧ s_6 = 0))))))))))))) : Zr sc 145 0 [zp a0] [] w ov w' c s := by
  refine Zr_st (q := (1, [zp a0], [zp a0])) rfl rfl rfl ?_
  show Zr sc 145 1 [zp a0] [zp a0] w ov w' c s
  refine Zr_st (q := (2, [zp a0], [zp a0, zp a0])) rfl rfl rfl ?_
  show Zr sc 145 2 [zp a0] [zp a0, zp a0] w ov w' c s
  refine rl_gf rfl L0 rfl rfl ?_
  show Zr sc 145 5 [zp a0] [zj ar, zp a0] w ov w' c s
  refine rl_ic rfl ?_
  show Zr sc 145 6 [zp a0] [zj 1, zj ar, zp a0] w ov w' c s
  refine rl_add rfl ?_
  show Zr sc 145 7 [zp a0] [zj (ar + 1), zp a0] w ov w' c s
  refine rl_pf rfl L0 rfl rfl rfl ?_
  show Zr sc 145 10 [zp a0] [] (w.set a0 (zob 7 [zp (a0 + 1), .ref 0, zj dr, zj wy, zj st, zj hd, zp (a0 + 73), zj nm, zp (a0 + 74), zp (a0 + 75), zp (a0 + 76), zj (ar + 1), zj hn, zp (a0 + 77), zj pk, zp D, zj tl])) ov w' c s
  refine Zr_st (q := (11, [zp a0], [zp a0])) rfl rfl rfl ?_
  show Zr sc 145 11 [zp a0] [zp a0] (w.set a0 (zob 7 [zp (a0 + 1), .ref 0, zj dr, zj wy, zj st, zj hd, zp (a0 + 73), zj nm, zp (a0 + 74), zp (a0 + 75), zp (a0 + 76), zj (ar + 1), zj hn, zp (a0 + 77), zj pk, zp D, zj tl])) ov w' c s
  refine rl_ic rfl ?_
  show Zr sc 145 12 [zp a0] [zj 4, zp a0] (w.set a0 (zob 7 [zp (a0 + 1), .ref 0, zj dr, zj wy, zj st, zj hd, zp (a0 + 73), zj nm, zp (a0 + 74), zp (a0 + 75), zp (a0 + 76), zj (ar + 1), zj hn, zp (a0 + 77), zj pk, zp D, zj tl])) ov w' c s
  refine rl_ic rfl ?_
  show Zr sc 145 13 [zp a0] [zj 0, zj 4, zp a0] (w.set a0 (zob 7 [zp (a0 + 1), .ref 0, zj dr, zj wy, zj st, zj hd, zp (a0 + 73), zj nm, zp (a0 + 74), zp (a0 + 75), zp (a0 + 76), zj (ar + 1), zj hn, zp (a0 + 77), zj pk, zp D, zj tl])) ov w' c s
  refine rl_ic rfl ?_
  show Zr sc 145 14 [zp a0] [zj 0, zj 0, zj 4, zp a0] (w.set a0 (zob 7 [zp (a0 + 1), .ref 0, zj dr, zj wy, zj st, zj hd, zp (a0 + 73), zj nm, zp (a0 + 74), zp (a0 + 75), zp (a0 + 76), zj (ar + 1), zj hn, zp (a0 + 77), zj pk, zp D, zj tl])) ov w' c s
  obtain ⟨w_1, c_3, s_4, c_5, s_6, hk_2, hc_7, h⟩ := h
  refine rl_cal (ins := .invokevirtual 136) (rest := []) rfl rfl rfl rfl (zinv_v (fs := _) (zw_s L0) rfl rfl rfl rfl) rfl rfl hk_2 ?_ hc_7.1 hc_7.2
  show Zr sc 145 17 [zp a0] [] w_1 ov w' c_5 s_6
  refine Zr_st (q := (18, [zp a0], [zp a0])) rfl rfl rfl ?_
  show Zr sc 145 18 [zp a0] [zp a0] w_1 ov w' c_5 s_6
  obtain ⟨dr_9, wy_10, st_11, hd_12, nm_13, ar_14, hn_15, pk_16, D_17, tl_18, hw_8, h⟩ := h
  refine rl_gf rfl hw_8 rfl rfl ?_
  show Zr sc 145 21 [zp a0] [zj tl_18] w_1 ov w' c_5 s_6
  obtain ⟨hr_19, h⟩ := h
  refine Zr_b0 (p := tl_18 = 0) rfl rfl (zcmp_0 (cnd := .eq) hr_19) (fun hp => ?_) (fun hp => ?_)
  · replace h := h.1 hp
    show Zr sc 145 38 [zp a0] [] w_1 ov w' c_5 s_6
    refine rl_ic rfl ?_
    show Zr sc 145 39 [zp a0] [zj 1] w_1 ov w' c_5 s_6
    refine Zr_st (q := (43, [zp a0], [zj 1])) rfl rfl rfl ?_
    show Zr sc 145 43 [zp a0] [zj 1] w_1 ov w' c_5 s_6
    obtain ⟨h1, h2, h3, h4⟩ := h
    subst h1; subst h2; subst h3; subst h4
    exact Zr_ret (ins := .ireturn) rfl rfl
  · replace h := h.2 hp
    show Zr sc 145 24 [zp a0] [] w_1 ov w' c_5 s_6
    refine Zr_st (q := (25, [zp a0], [zp a0])) rfl rfl rfl ?_
    show Zr sc 145 25 [zp a0] [zp a0] w_1 ov w' c_5 s_6
    refine rl_gf rfl hw_8 rfl rfl ?_
    show Zr sc 145 28 [zp a0] [zp (a0 + 1)] w_1 ov w' c_5 s_6
    obtain ⟨fs_21, hl_20, h⟩ := h
    obtain ⟨r_24, w_22, hk_23, h⟩ := h
    refine rn_cal0 (ins := .invokevirtual 167) (rest := []) rfl rfl rfl rfl (zinv_v (fs := _) hl_20 rfl rfl rfl rfl) rfl rfl hk_23 ?_
    show Zr sc 145 31 [zp a0] [zj r_24] w_22 ov w' c_5 s_6
    refine Zr_st (q := (32, [zp a0], [zp a0, zj r_24])) rfl rfl rfl ?_
    show Zr sc 145 32 [zp a0] [zp a0, zj r_24] w_22 ov w' c_5 s_6
    obtain ⟨dr_26, wy_27, st_28, hd_29, nm_30, ar_31, hn_32, pk_33, D_34, tl_35, hw_25, h⟩ := h
    refine rl_gf rfl hw_25 rfl rfl ?_
    show Zr sc 145 35 [zp a0] [zj ar_31, zj r_24] w_22 ov w' c_5 s_6
    obtain ⟨hr_36, h⟩ := h
    refine Zr_br (p := r_24 ≠ ar_31) rfl rfl (zcmp_j (cnd := .ne) hr_36.1 hr_36.2) (fun hp => ?_) (fun hp => ?_)
    · replace h := h.1 hp
      show Zr sc 145 42 [zp a0] [] w_22 ov w' c_5 s_6
      refine rl_ic rfl ?_
      show Zr sc 145 43 [zp a0] [zj 0] w_22 ov w' c_5 s_6
      obtain ⟨h1, h2, h3, h4⟩ := h
      subst h1; subst h2; subst h3; subst h4
      exact Zr_ret (ins := .ireturn) rfl rfl
    · replace h := h.2 hp
      show Zr sc 145 38 [zp a0] [] w_22 ov w' c_5 s_6
      refine rl_ic rfl ?_
      show Zr sc 145 39 [zp a0] [zj 1] w_22 ov w' c_5 s_6
      refine Zr_st (q := (43, [zp a0], [zj 1])) rfl rfl rfl ?_
      show Zr sc 145 43 [zp a0] [zj 1] w_22 ov w' c_5 s_6
      obtain ⟨h1, h2, h3, h4⟩ := h
      subst h1; subst h2; subst h3; subst h4
      exact Zr_ret (ins := .ireturn) rfl rfl

-- HeapwrightLab.open()I
set_option maxRecDepth 100000 in
theorem V146_0 {sc : List Value} {w w' : List zE} {ov : Option Value} {c s : Nat} {a0 : Nat} {wy : Int} (L0 : w[a0]? = some (zob 6 [zp (a0 + 1), zp (a0 + 5), zp (a0 + 16), zp (a0 + 27), zp (a0 + 38), zp (a0 + 49), zp (a0 + 60), zj wy])) (h : (∃ p_3 : Nat, Zc sc 1 [zp a0] w (some (zp p_3)) w 0 0 ∧ (∃ cn_4 : Nat, ∃ fs_5 : List Value, w[p_3]? = some (zob cn_4 fs_5) ∧ (cn_4 = 1 ∨ cn_4 = 2 ∨ cn_4 = 4) ∧ (∃ r_12 : Int, Zc sc 101 [zp p_3] w (some (zj r_12)) w 0 0 ∧ ((zrg r_12 ∧ zrg 8) ∧ ((r_12 < 8 → ((Zc sc 135 [zp a0] w none w 0 0) ∧ (∃ p_18 : Nat, Zc sc 1 [zp a0] w (some (zp p_18)) w 0 0 ∧ (∃ fs_20 : List Value, w[(a0 + 1)]? = some (zob 5 fs_20) ∧ (∃ p_23 : Nat, ∃ w_21 : List zE, Zc sc 136 [zp (a0 + 1), zj 4, zj 0, zj 0] w (some (zp p_23)) w_21 0 0 ∧ (∃ cn_24 : Nat, ∃ fs_25 : List Value, w_21[p_18]? = some (zob cn_24 fs_25) ∧ (cn_24 = 1 ∨ cn_24 = 2 ∨ cn_24 = 4) ∧ (∃ p_32 : Nat, ∃ w_30 : List zE, Zc sc 57 [zp p_18, zp p_23] w_21 (some (zp p_32)) w_30 0 0 ∧ (∃ cn_33 : Nat, ∃ fs_34 : List Value, w_30[p_32]? = some (zob cn_33 fs_34) ∧ (cn_33 = 1 ∨ cn_33 = 2 ∨ cn_33 = 4) ∧ (∃ r_41 : Int, Zc sc 101 [zp p_32] w_30 (some (zj r_41)) w_30 0 0 ∧ (ov = some (zj r_41) ∧ w' = w_30 ∧ c = 0 ∧ s = 0)))))))))) ∧ (¬ (r_12 < 8) → False))))))) : Zr sc 146 0 [zp a0] [] w ov w' c s := by
  refine Zr_st (q := (1, [zp a0], [zp a0])) rfl rfl rfl ?_
  show Zr sc 146 1 [zp a0] [zp a0] w ov w' c s
  obtain ⟨p_3, hk_9, h⟩ := h
  refine rn_cal0 (ins := .invokevirtual 83) (rest := []) rfl rfl rfl rfl (zinv_v (fs := _) L0 rfl rfl rfl rfl) rfl rfl hk_9 ?_
  show Zr sc 146 4 [zp a0] [zp p_3] w ov w' c s
  obtain ⟨cn_4, fs_5, hw_6, hcn_7, h⟩ := h
  have hz_8 : ∃ kd, zinv 146 (.invokevirtual 131) [zp p_3] (false, w) = some (kd, 101, [zp p_3], []) ∧ decide (kd < 6) = true := by rcases hcn_7 with rfl | rfl | rfl <;> exact zinv_u hw_6 rfl rfl rfl rfl rfl rfl rfl
  obtain ⟨kd_9, hz_8⟩ := hz_8
  obtain ⟨r_12, hk_9, h⟩ := h
  refine rn_cal0 (ins := .invokevirtual 131) (rest := []) rfl rfl rfl rfl hz_8.1 rfl hz_8.2 hk_9 ?_
  show Zr sc 146 7 [zp a0] [zj r_12] w ov w' c s
  refine rl_bi rfl (by decide) ?_
  show Zr sc 146 9 [zp a0] [zj 8, zj r_12] w ov w' c s
  obtain ⟨hr_13, h⟩ := h
  refine Zr_br (p := r_12 < 8) rfl rfl (zcmp_j (cnd := .lt) hr_13.1 hr_13.2) (fun hp => ?_) (fun hp => ?_)
  · replace h := h.1 hp
    show Zr sc 146 22 [zp a0] [] w ov w' c s
    refine Zr_st (q := (23, [zp a0], [zp a0])) rfl rfl rfl ?_
    show Zr sc 146 23 [zp a0] [zp a0] w ov w' c s
    obtain ⟨hk_9, h⟩ := h
    refine rn_cal0 (ins := .invokevirtual 96) (rest := []) rfl rfl rfl rfl (zinv_v (fs := _) L0 rfl rfl rfl rfl) rfl rfl hk_9 ?_
    show Zr sc 146 26 [zp a0] [] w ov w' c s
    refine Zr_st (q := (27, [zp a0], [zp a0])) rfl rfl rfl ?_
    show Zr sc 146 27 [zp a0] [zp a0] w ov w' c s
    obtain ⟨p_18, hk_9, h⟩ := h
    refine rn_cal0 (ins := .invokevirtual 83) (rest := []) rfl rfl rfl rfl (zinv_v (fs := _) L0 rfl rfl rfl rfl) rfl rfl hk_9 ?_
    show Zr sc 146 30 [zp a0] [zp p_18] w ov w' c s
    refine Zr_st (q := (31, [zp a0], [zp a0, zp p_18])) rfl rfl rfl ?_
    show Zr sc 146 31 [zp a0] [zp a0, zp p_18] w ov w' c s
    refine rl_gf rfl L0 rfl rfl ?_
    show Zr sc 146 34 [zp a0] [zp (a0 + 1), zp p_18] w ov w' c s
    refine rl_ic rfl ?_
    show Zr sc 146 35 [zp a0] [zj 4, zp (a0 + 1), zp p_18] w ov w' c s
    refine rl_ic rfl ?_
    show Zr sc 146 36 [zp a0] [zj 0, zj 4, zp (a0 + 1), zp p_18] w ov w' c s
    refine rl_ic rfl ?_
    show Zr sc 146 37 [zp a0] [zj 0, zj 0, zj 4, zp (a0 + 1), zp p_18] w ov w' c s
    obtain ⟨fs_20, hl_19, h⟩ := h
    obtain ⟨p_23, w_21, hk_22, h⟩ := h
    refine rn_cal0 (ins := .invokevirtual 99) (rest := [zp p_18]) rfl rfl rfl rfl (zinv_v (fs := _) hl_19 rfl rfl rfl rfl) rfl rfl hk_22 ?_
    show Zr sc 146 40 [zp a0] [zp p_23, zp p_18] w_21 ov w' c s
    obtain ⟨cn_24, fs_25, hw_26, hcn_27, h⟩ := h
    have hz_28 : ∃ kd, zinv 146 (.invokevirtual 103) [zp p_23, zp p_18] (false, w_21) = some (kd, 57, [zp p_18, zp p_23], []) ∧ decide (kd < 6) = true := by rcases hcn_27 with rfl | rfl | rfl <;> exact zinv_u hw_26 rfl rfl rfl rfl rfl rfl rfl
    obtain ⟨kd_29, hz_28⟩ := hz_28
    obtain ⟨p_32, w_30, hk_31, h⟩ := h
    refine rn_cal0 (ins := .invokevirtual 103) (rest := []) rfl rfl rfl rfl hz_28.1 rfl hz_28.2 hk_31 ?_
    show Zr sc 146 43 [zp a0] [zp p_32] w_30 ov w' c s
    obtain ⟨cn_33, fs_34, hw_35, hcn_36, h⟩ := h
    have hz_37 : ∃ kd, zinv 146 (.invokevirtual 131) [zp p_32] (false, w_30) = some (kd, 101, [zp p_32], []) ∧ decide (kd < 6) = true := by rcases hcn_36 with rfl | rfl | rfl <;> exact zinv_u hw_35 rfl rfl rfl rfl rfl rfl rfl
    obtain ⟨kd_38, hz_37⟩ := hz_37
    obtain ⟨r_41, hk_9, h⟩ := h
    refine rn_cal0 (ins := .invokevirtual 131) (rest := []) rfl rfl rfl rfl hz_37.1 rfl hz_37.2 hk_9 ?_
    show Zr sc 146 46 [zp a0] [zj r_41] w_30 ov w' c s
    obtain ⟨h1, h2, h3, h4⟩ := h
    subst h1; subst h2; subst h3; subst h4
    exact Zr_ret (ins := .ireturn) rfl rfl
  · replace h := h.2 hp
    show Zr sc 146 12 [zp a0] [] w ov w' c s
    exact h.elim

-- HeapwrightLabLaw$Pool.close()Z
set_option maxRecDepth 100000 in
theorem V147_0 {sc : List Value} {w w' : List zE} {ov : Option Value} {c s : Nat} {a0 : Nat} {dr : Int} {wy : Int} {st : Int} {hd : Int} {nm : Int} {ar : Int} {hn : Int} {pk : Int} {D : Nat} {tl : Int} (L0 : w[a0]? = some (zob 7 [zp (a0 + 1), .ref 0, zj dr, zj wy, zj st, zj hd, zp (a0 + 73), zj nm, zp (a0 + 74), zp (a0 + 75), zp (a0 + 76), zj ar, zj hn, zp (a0 + 77), zj pk, zp D, zj tl])) (h : Zr sc 147 9 [zp a0, zj 0, zj (nm - 1), zmk] [] w ov w' c s) : Zr sc 147 0 [zp a0, zmk, zmk, zmk] [] w ov w' c s := by
  refine rl_ic rfl ?_
  show Zr sc 147 1 [zp a0, zmk, zmk, zmk] [zj 0] w ov w' c s
  refine Zr_st (q := (2, [zp a0, zj 0, zmk, zmk], [])) rfl rfl rfl ?_
  show Zr sc 147 2 [zp a0, zj 0, zmk, zmk] [] w ov w' c s
  refine Zr_st (q := (3, [zp a0, zj 0, zmk, zmk], [zp a0])) rfl rfl rfl ?_
  show Zr sc 147 3 [zp a0, zj 0, zmk, zmk] [zp a0] w ov w' c s
  refine rl_gf rfl L0 rfl rfl ?_
  show Zr sc 147 6 [zp a0, zj 0, zmk, zmk] [zj nm] w ov w' c s
  refine rl_ic rfl ?_
  show Zr sc 147 7 [zp a0, zj 0, zmk, zmk] [zj 1, zj nm] w ov w' c s
  refine rl_sub rfl ?_
  show Zr sc 147 8 [zp a0, zj 0, zmk, zmk] [zj (nm - 1)] w ov w' c s
  refine Zr_st (q := (9, [zp a0, zj 0, zj (nm - 1), zmk], [])) rfl rfl rfl ?_
  show Zr sc 147 9 [zp a0, zj 0, zj (nm - 1), zmk] [] w ov w' c s
  exact h
set_option maxRecDepth 100000 in
theorem V147_9 {sc : List Value} {w w' : List zE} {ov : Option Value} {c s : Nat} {a0 : Nat} {x1 : Int} {x2 : Int} {v3 : Value} {dr : Int} {wy : Int} {st : Int} {hd : Int} {nm : Int} {ar : Int} {hn : Int} {pk : Int} {D : Nat} {tl : Int} {am : List Int} {rm : List Int} (L0 : w[a0]? = some (zob 7 [zp (a0 + 1), .ref 0, zj dr, zj wy, zj st, zj hd, zp (a0 + 73), zj nm, zp (a0 + 74), zp (a0 + 75), zp (a0 + 76), zj ar, zj hn, zp (a0 + 77), zj pk, zp D, zj tl])) (L76 : w[(a0 + 76)]? = some (za am)) (L75 : w[(a0 + 75)]? = some (za rm)) (h : ((zrg x2) ∧ ((x2 < 0 → (∃ w_2 : List zE, ∃ c_4 s_5 c_6 s_7 : Nat, Zc sc 132 [zp a0, zj 5, zj 0, zj 0] (w.set a0 (zob 7 [zp (a0 + 1), .ref 0, zj dr, zj wy, zj st, zj hd, zp (a0 + 73), zj nm, zp (a0 + 74), zp (a0 + 75), zp (a0 + 76), zj (ar - 1), zj hn, zp (a0 + 77), zj pk, zp D, zj tl])) none w_2 c_4 s_5 ∧ (c = c_4 + c_6 ∧ s = s_5 + s_7) ∧ (∃ dr_10 : Int, ∃ wy_11 : Int, ∃ st_12 : Int, ∃ hd_13 : Int, ∃ nm_14 : Int, ∃ ar_15 : Int, ∃ hn_16 : Int, ∃ pk_17 : Int, ∃ D_18 : Nat, ∃ tl_19 : Int, w_2[a0]? = some (zob 7 [zp (a0 + 1), .ref 0, zj dr_10, zj wy_11, zj st_12, zj hd_13, zp (a0 + 73), zj nm_14, zp (a0 + 74), zp (a0 + 75), zp (a0 + 76), zj ar_15, zj hn_16, zp (a0 + 77), zj pk_17, zp D_18, zj tl_19]) ∧ ((zrg tl_19) ∧ ((tl_19 = 0 → Zr sc 147 104 [zp a0, zj x1, zj x2, v3] [] w_2 ov w' c_6 s_7) ∧ (¬ (tl_19 = 0) → (∃ fs_22 : List Value, w_2[(a0 + 1)]? = some (zob 6 fs_22) ∧ (∃ r_25 : Int, ∃ w_23 : List zE, Zc sc 148 [zp (a0 + 1)] w_2 (some (zj r_25)) w_23 0 0 ∧ ((zrg r_25 ∧ zrg x1) ∧ ((r_25 ≠ x1 → (ov = some (zj 0) ∧ w' = w_23 ∧ c_6 = 0 ∧ s_7 = 0)) ∧ (¬ (r_25 ≠ x1) → Zr sc 147 104 [zp a0, zj x1, zj x2, v3] [] w_23 ov w' c_6 s_7))))))))))) ∧ (¬ (x2 < 0) → (((0 : Int) ≤ x2 ∧ x2 < (am.length : Int) ∧ x2 ≤ (2147483647 : Int)) ∧ ((zrg (zgi am x2) ∧ zrg ar) ∧ (((zgi am x2) = ar → (((0 : Int) ≤ x2 ∧ x2 < (am.length : Int) ∧ x2 ≤ (2147483647 : Int)) ∧ (∃ r_32 : Int, Zc sc 138 [zp a0, zj x2] (w.set (a0 + 76) (za (zsi am x2 0))) (some (zj r_32)) (w.set (a0 + 76) (za (zsi am x2 0))) 0 0 ∧ ((zrg r_32) ∧ ((0 ≤ r_32 → (((0 : Int) ≤ x2 ∧ x2 < (rm.length : Int) ∧ x2 ≤ (2147483647 : Int)) ∧ (∃ w_35 : List zE, Zc sc 140 [zp a0, zj r_32, zj (zgi rm x2)] (w.set (a0 + 76) (za (zsi am x2 0))) none w_35 0 0 ∧ Zr sc 147 63 [zp a0, zj (x1 + 1), zj x2, zj r_32] [] w_35 ov w' c s))) ∧ (¬ (0 ≤ r_32) → Zr sc 147 63 [zp a0, zj x1, zj x2, zj r_32] [] (w.set (a0 + 76) (za (zsi am x2 0))) ov w' c s)))))) ∧ (¬ ((zgi am x2) = ar) → Zr sc 147 63 [zp a0, zj x1, zj x2, v3] [] w ov w' c s)))))))) : Zr sc 147 9 [zp a0, zj x1, zj x2, v3] [] w ov w' c s := by
  refine Zr_st (q := (10, [zp a0, zj x1, zj x2, v3], [zj x2])) rfl rfl rfl ?_
  show Zr sc 147 10 [zp a0, zj x1, zj x2, v3] [zj x2] w ov w' c s
  obtain ⟨hr_1, h⟩ := h
  refine Zr_b0 (p := x2 < 0) rfl rfl (zcmp_0 (cnd := .lt) hr_1) (fun hp => ?_) (fun hp => ?_)
  · replace h := h.1 hp
    show Zr sc 147 69 [zp a0, zj x1, zj x2, v3] [] w ov w' c s
    refine Zr_st (q := (70, [zp a0, zj x1, zj x2, v3], [zp a0])) rfl rfl rfl ?_
    show Zr sc 147 70 [zp a0, zj x1, zj x2, v3] [zp a0] w ov w' c s
    refine Zr_st (q := (71, [zp a0, zj x1, zj x2, v3], [zp a0, zp a0])) rfl rfl rfl ?_
    show Zr sc 147 71 [zp a0, zj x1, zj x2, v3] [zp a0, zp a0] w ov w' c s
    refine rl_gf rfl L0 rfl rfl ?_
    show Zr sc 147 74 [zp a0, zj x1, zj x2, v3] [zj ar, zp a0] w ov w' c s
    refine rl_ic rfl ?_
    show Zr sc 147 75 [zp a0, zj x1, zj x2, v3] [zj 1, zj ar, zp a0] w ov w' c s
    refine rl_sub rfl ?_
    show Zr sc 147 76 [zp a0, zj x1, zj x2, v3] [zj (ar - 1), zp a0] w ov w' c s
    refine rl_pf rfl L0 rfl rfl rfl ?_
    show Zr sc 147 79 [zp a0, zj x1, zj x2, v3] [] (w.set a0 (zob 7 [zp (a0 + 1), .ref 0, zj dr, zj wy, zj st, zj hd, zp (a0 + 73), zj nm, zp (a0 + 74), zp (a0 + 75), zp (a0 + 76), zj (ar - 1), zj hn, zp (a0 + 77), zj pk, zp D, zj tl])) ov w' c s
    refine Zr_st (q := (80, [zp a0, zj x1, zj x2, v3], [zp a0])) rfl rfl rfl ?_
    show Zr sc 147 80 [zp a0, zj x1, zj x2, v3] [zp a0] (w.set a0 (zob 7 [zp (a0 + 1), .ref 0, zj dr, zj wy, zj st, zj hd, zp (a0 + 73), zj nm, zp (a0 + 74), zp (a0 + 75), zp (a0 + 76), zj (ar - 1), zj hn, zp (a0 + 77), zj pk, zp D, zj tl])) ov w' c s
    refine rl_ic rfl ?_
    show Zr sc 147 81 [zp a0, zj x1, zj x2, v3] [zj 5, zp a0] (w.set a0 (zob 7 [zp (a0 + 1), .ref 0, zj dr, zj wy, zj st, zj hd, zp (a0 + 73), zj nm, zp (a0 + 74), zp (a0 + 75), zp (a0 + 76), zj (ar - 1), zj hn, zp (a0 + 77), zj pk, zp D, zj tl])) ov w' c s
    refine rl_ic rfl ?_
    show Zr sc 147 82 [zp a0, zj x1, zj x2, v3] [zj 0, zj 5, zp a0] (w.set a0 (zob 7 [zp (a0 + 1), .ref 0, zj dr, zj wy, zj st, zj hd, zp (a0 + 73), zj nm, zp (a0 + 74), zp (a0 + 75), zp (a0 + 76), zj (ar - 1), zj hn, zp (a0 + 77), zj pk, zp D, zj tl])) ov w' c s
    refine rl_ic rfl ?_
    show Zr sc 147 83 [zp a0, zj x1, zj x2, v3] [zj 0, zj 0, zj 5, zp a0] (w.set a0 (zob 7 [zp (a0 + 1), .ref 0, zj dr, zj wy, zj st, zj hd, zp (a0 + 73), zj nm, zp (a0 + 74), zp (a0 + 75), zp (a0 + 76), zj (ar - 1), zj hn, zp (a0 + 77), zj pk, zp D, zj tl])) ov w' c s
    obtain ⟨w_2, c_4, s_5, c_6, s_7, hk_3, hc_8, h⟩ := h
    refine rl_cal (ins := .invokevirtual 136) (rest := []) rfl rfl rfl rfl (zinv_v (fs := _) (zw_s L0) rfl rfl rfl rfl) rfl rfl hk_3 ?_ hc_8.1 hc_8.2
    show Zr sc 147 86 [zp a0, zj x1, zj x2, v3] [] w_2 ov w' c_6 s_7
    refine Zr_st (q := (87, [zp a0, zj x1, zj x2, v3], [zp a0])) rfl rfl rfl ?_
    show Zr sc 147 87 [zp a0, zj x1, zj x2, v3] [zp a0] w_2 ov w' c_6 s_7
    obtain ⟨dr_10, wy_11, st_12, hd_13, nm_14, ar_15, hn_16, pk_17, D_18, tl_19, hw_9, h⟩ := h
    refine rl_gf rfl hw_9 rfl rfl ?_
    show Zr sc 147 90 [zp a0, zj x1, zj x2, v3] [zj tl_19] w_2 ov w' c_6 s_7
    obtain ⟨hr_20, h⟩ := h
    refine Zr_b0 (p := tl_19 = 0) rfl rfl (zcmp_0 (cnd := .eq) hr_20) (fun hp => ?_) (fun hp => ?_)
    · replace h := h.1 hp
      show Zr sc 147 104 [zp a0, zj x1, zj x2, v3] [] w_2 ov w' c_6 s_7
      exact h
    · replace h := h.2 hp
      show Zr sc 147 93 [zp a0, zj x1, zj x2, v3] [] w_2 ov w' c_6 s_7
      refine Zr_st (q := (94, [zp a0, zj x1, zj x2, v3], [zp a0])) rfl rfl rfl ?_
      show Zr sc 147 94 [zp a0, zj x1, zj x2, v3] [zp a0] w_2 ov w' c_6 s_7
      refine rl_gf rfl hw_9 rfl rfl ?_
      show Zr sc 147 97 [zp a0, zj x1, zj x2, v3] [zp (a0 + 1)] w_2 ov w' c_6 s_7
      obtain ⟨fs_22, hl_21, h⟩ := h
      obtain ⟨r_25, w_23, hk_24, h⟩ := h
      refine rn_cal0 (ins := .invokevirtual 170) (rest := []) rfl rfl rfl rfl (zinv_v (fs := _) hl_21 rfl rfl rfl rfl) rfl rfl hk_24 ?_
      show Zr sc 147 100 [zp a0, zj x1, zj x2, v3] [zj r_25] w_23 ov w' c_6 s_7
      refine Zr_st (q := (101, [zp a0, zj x1, zj x2, v3], [zj x1, zj r_25])) rfl rfl rfl ?_
      show Zr sc 147 101 [zp a0, zj x1, zj x2, v3] [zj x1, zj r_25] w_23 ov w' c_6 s_7
      obtain ⟨hr_26, h⟩ := h
      refine Zr_br (p := r_25 ≠ x1) rfl rfl (zcmp_j (cnd := .ne) hr_26.1 hr_26.2) (fun hp => ?_) (fun hp => ?_)
      · replace h := h.1 hp
        show Zr sc 147 108 [zp a0, zj x1, zj x2, v3] [] w_23 ov w' c_6 s_7
        refine rl_ic rfl ?_
        show Zr sc 147 109 [zp a0, zj x1, zj x2, v3] [zj 0] w_23 ov w' c_6 s_7
        obtain ⟨h1, h2, h3, h4⟩ := h
        subst h1; subst h2; subst h3; subst h4
        exact Zr_ret (ins := .ireturn) rfl rfl
      · replace h := h.2 hp
        show Zr sc 147 104 [zp a0, zj x1, zj x2, v3] [] w_23 ov w' c_6 s_7
        exact h
  · replace h := h.2 hp
    show Zr sc 147 13 [zp a0, zj x1, zj x2, v3] [] w ov w' c s
    refine Zr_st (q := (14, [zp a0, zj x1, zj x2, v3], [zp a0])) rfl rfl rfl ?_
    show Zr sc 147 14 [zp a0, zj x1, zj x2, v3] [zp a0] w ov w' c s
    refine rl_gf rfl L0 rfl rfl ?_
    show Zr sc 147 17 [zp a0, zj x1, zj x2, v3] [zp (a0 + 76)] w ov w' c s
    refine Zr_st (q := (18, [zp a0, zj x1, zj x2, v3], [zj x2, zp (a0 + 76)])) rfl rfl rfl ?_
    show Zr sc 147 18 [zp a0, zj x1, zj x2, v3] [zj x2, zp (a0 + 76)] w ov w' c s
    obtain ⟨hi_27, h⟩ := h
    refine rl_ia rfl L76 hi_27.1 hi_27.2.1 hi_27.2.2 ?_
    show Zr sc 147 19 [zp a0, zj x1, zj x2, v3] [zj (zgi am x2)] w ov w' c s
    refine Zr_st (q := (20, [zp a0, zj x1, zj x2, v3], [zp a0, zj (zgi am x2)])) rfl rfl rfl ?_
    show Zr sc 147 20 [zp a0, zj x1, zj x2, v3] [zp a0, zj (zgi am x2)] w ov w' c s
    refine rl_gf rfl L0 rfl rfl ?_
    show Zr sc 147 23 [zp a0, zj x1, zj x2, v3] [zj ar, zj (zgi am x2)] w ov w' c s
    obtain ⟨hr_28, h⟩ := h
    refine Zr_br (p := (zgi am x2) = ar) rfl rfl (zcmp_j (cnd := .eq) hr_28.1 hr_28.2) (fun hp => ?_) (fun hp => ?_)
    · replace h := h.1 hp
      show Zr sc 147 29 [zp a0, zj x1, zj x2, v3] [] w ov w' c s
      refine Zr_st (q := (30, [zp a0, zj x1, zj x2, v3], [zp a0])) rfl rfl rfl ?_
      show Zr sc 147 30 [zp a0, zj x1, zj x2, v3] [zp a0] w ov w' c s
      refine rl_gf rfl L0 rfl rfl ?_
      show Zr sc 147 33 [zp a0, zj x1, zj x2, v3] [zp (a0 + 76)] w ov w' c s
      refine Zr_st (q := (34, [zp a0, zj x1, zj x2, v3], [zj x2, zp (a0 + 76)])) rfl rfl rfl ?_
      show Zr sc 147 34 [zp a0, zj x1, zj x2, v3] [zj x2, zp (a0 + 76)] w ov w' c s
      refine rl_ic rfl ?_
      show Zr sc 147 35 [zp a0, zj x1, zj x2, v3] [zj 0, zj x2, zp (a0 + 76)] w ov w' c s
      obtain ⟨hi_29, h⟩ := h
      refine rl_is rfl L76 hi_29.1 hi_29.2.1 hi_29.2.2 ?_
      show Zr sc 147 36 [zp a0, zj x1, zj x2, v3] [] (w.set (a0 + 76) (za (zsi am x2 0))) ov w' c s
      refine Zr_st (q := (37, [zp a0, zj x1, zj x2, v3], [zp a0])) rfl rfl rfl ?_
      show Zr sc 147 37 [zp a0, zj x1, zj x2, v3] [zp a0] (w.set (a0 + 76) (za (zsi am x2 0))) ov w' c s
      refine Zr_st (q := (38, [zp a0, zj x1, zj x2, v3], [zj x2, zp a0])) rfl rfl rfl ?_
      show Zr sc 147 38 [zp a0, zj x1, zj x2, v3] [zj x2, zp a0] (w.set (a0 + 76) (za (zsi am x2 0))) ov w' c s
      obtain ⟨r_32, hk_9, h⟩ := h
      refine rn_cal0 (ins := .invokevirtual 149) (rest := []) rfl rfl rfl rfl (zinv_v (fs := _) (zw_o (by omega) L0) rfl rfl rfl rfl) rfl rfl hk_9 ?_
      show Zr sc 147 41 [zp a0, zj x1, zj x2, v3] [zj r_32] (w.set (a0 + 76) (za (zsi am x2 0))) ov w' c s
      refine Zr_st (q := (42, [zp a0, zj x1, zj x2, zj r_32], [])) rfl rfl rfl ?_
      show Zr sc 147 42 [zp a0, zj x1, zj x2, zj r_32] [] (w.set (a0 + 76) (za (zsi am x2 0))) ov w' c s
      refine Zr_st (q := (43, [zp a0, zj x1, zj x2, zj r_32], [zj r_32])) rfl rfl rfl ?_
      show Zr sc 147 43 [zp a0, zj x1, zj x2, zj r_32] [zj r_32] (w.set (a0 + 76) (za (zsi am x2 0))) ov w' c s
      obtain ⟨hr_33, h⟩ := h
      refine Zr_b0 (p := 0 ≤ r_32) rfl rfl (zcmp_0 (cnd := .ge) hr_33) (fun hp => ?_) (fun hp => ?_)
      · replace h := h.1 hp
        show Zr sc 147 49 [zp a0, zj x1, zj x2, zj r_32] [] (w.set (a0 + 76) (za (zsi am x2 0))) ov w' c s
        refine Zr_st (q := (50, [zp a0, zj x1, zj x2, zj r_32], [zp a0])) rfl rfl rfl ?_
        show Zr sc 147 50 [zp a0, zj x1, zj x2, zj r_32] [zp a0] (w.set (a0 + 76) (za (zsi am x2 0))) ov w' c s
        refine Zr_st (q := (51, [zp a0, zj x1, zj x2, zj r_32], [zj r_32, zp a0])) rfl rfl rfl ?_
        show Zr sc 147 51 [zp a0, zj x1, zj x2, zj r_32] [zj r_32, zp a0] (w.set (a0 + 76) (za (zsi am x2 0))) ov w' c s
        refine Zr_st (q := (52, [zp a0, zj x1, zj x2, zj r_32], [zp a0, zj r_32, zp a0])) rfl rfl rfl ?_
        show Zr sc 147 52 [zp a0, zj x1, zj x2, zj r_32] [zp a0, zj r_32, zp a0] (w.set (a0 + 76) (za (zsi am x2 0))) ov w' c s
        refine rl_gf rfl (zw_o (by omega) L0) rfl rfl ?_
        show Zr sc 147 55 [zp a0, zj x1, zj x2, zj r_32] [zp (a0 + 75), zj r_32, zp a0] (w.set (a0 + 76) (za (zsi am x2 0))) ov w' c s
        refine Zr_st (q := (56, [zp a0, zj x1, zj x2, zj r_32], [zj x2, zp (a0 + 75), zj r_32, zp a0])) rfl rfl rfl ?_
        show Zr sc 147 56 [zp a0, zj x1, zj x2, zj r_32] [zj x2, zp (a0 + 75), zj r_32, zp a0] (w.set (a0 + 76) (za (zsi am x2 0))) ov w' c s
        obtain ⟨hi_34, h⟩ := h
        refine rl_ia rfl (zw_o (by omega) L75) hi_34.1 hi_34.2.1 hi_34.2.2 ?_
        show Zr sc 147 57 [zp a0, zj x1, zj x2, zj r_32] [zj (zgi rm x2), zj r_32, zp a0] (w.set (a0 + 76) (za (zsi am x2 0))) ov w' c s
        obtain ⟨w_35, hk_36, h⟩ := h
        refine rn_cal0 (ins := .invokevirtual 150) (rest := []) rfl rfl rfl rfl (zinv_v (fs := _) (zw_o (by omega) L0) rfl rfl rfl rfl) rfl rfl hk_36 ?_
        show Zr sc 147 60 [zp a0, zj x1, zj x2, zj r_32] [] w_35 ov w' c s
        refine rl_inc rfl rfl rfl rfl ?_
        show Zr sc 147 63 [zp a0, zj (x1 + 1), zj x2, zj r_32] [] w_35 ov w' c s
        exact h
      · replace h := h.2 hp
        show Zr sc 147 46 [zp a0, zj x1, zj x2, zj r_32] [] (w.set (a0 + 76) (za (zsi am x2 0))) ov w' c s
        refine Zr_st (q := (63, [zp a0, zj x1, zj x2, zj r_32], [])) rfl rfl rfl ?_
        show Zr sc 147 63 [zp a0, zj x1, zj x2, zj r_32] [] (w.set (a0 + 76) (za (zsi am x2 0))) ov w' c s
        exact h
    · replace h := h.2 hp
      show Zr sc 147 26 [zp a0, zj x1, zj x2, v3] [] w ov w' c s
      refine Zr_st (q := (63, [zp a0, zj x1, zj x2, v3], [])) rfl rfl rfl ?_
      show Zr sc 147 63 [zp a0, zj x1, zj x2, v3] [] w ov w' c s
      exact h
set_option maxRecDepth 100000 in
theorem V147_63 {sc : List Value} {w w' : List zE} {ov : Option Value} {c s : Nat} {a0 : Nat} {x1 : Int} {x2 : Int} {v3 : Value} (h : Zr sc 147 9 [zp a0, zj x1, zj (x2 + (-1)), v3] [] w ov w' c s) : Zr sc 147 63 [zp a0, zj x1, zj x2, v3] [] w ov w' c s := by
  refine rl_inc rfl rfl rfl rfl ?_
  show Zr sc 147 66 [zp a0, zj x1, zj (x2 + (-1)), v3] [] w ov w' c s
  refine Zr_st (q := (9, [zp a0, zj x1, zj (x2 + (-1)), v3], [])) rfl rfl rfl ?_
  show Zr sc 147 9 [zp a0, zj x1, zj (x2 + (-1)), v3] [] w ov w' c s
  exact h
set_option maxRecDepth 100000 in
theorem V147_104 {sc : List Value} {w w' : List zE} {ov : Option Value} {c s : Nat} {a0 : Nat} {x1 : Int} {x2 : Int} {v3 : Value} (h : (ov = some (zj 1) ∧ w' = w ∧ c = 0 ∧ s = 0)) : Zr sc 147 104 [zp a0, zj x1, zj x2, v3] [] w ov w' c s := by
  refine rl_ic rfl ?_
  show Zr sc 147 105 [zp a0, zj x1, zj x2, v3] [zj 1] w ov w' c s
  refine Zr_st (q := (109, [zp a0, zj x1, zj x2, v3], [zj 1])) rfl rfl rfl ?_
  show Zr sc 147 109 [zp a0, zj x1, zj x2, v3] [zj 1] w ov w' c s
  obtain ⟨h1, h2, h3, h4⟩ := h
  subst h1; subst h2; subst h3; subst h4
  exact Zr_ret (ins := .ireturn) rfl rfl

-- HeapwrightLab.close()I
set_option maxRecDepth 100000 in
theorem V148_0 {sc : List Value} {w w' : List zE} {ov : Option Value} {c s : Nat} {a0 : Nat} {wy : Int} (L0 : w[a0]? = some (zob 6 [zp (a0 + 1), zp (a0 + 5), zp (a0 + 16), zp (a0 + 27), zp (a0 + 38), zp (a0 + 49), zp (a0 + 60), zj wy])) (h : (∃ p_3 : Nat, Zc sc 1 [zp a0] w (some (zp p_3)) w 0 0 ∧ (∃ cn_4 : Nat, ∃ fs_5 : List Value, w[p_3]? = some (zob cn_4 fs_5) ∧ (cn_4 = 1 ∨ cn_4 = 2 ∨ cn_4 = 4) ∧ (∃ r_12 : Int, Zc sc 101 [zp p_3] w (some (zj r_12)) w 0 0 ∧ ((zrg r_12) ∧ ((0 < r_12 → ((Zc sc 135 [zp a0] w none w 0 0) ∧ (∃ p_18 : Nat, Zc sc 1 [zp a0] w (some (zp p_18)) w 0 0 ∧ (∃ cn_19 : Nat, ∃ fs_20 : List Value, w[p_18]? = some (zob cn_19 fs_20) ∧ (cn_19 = 1 ∨ cn_19 = 2 ∨ cn_19 = 4) ∧ (∃ p_27 : Nat, Zc sc 6 [zp p_18] w (some (zp p_27)) w 0 0 ∧ (∃ fs_29 : List Value, w[p_27]? = some (zob 0 fs_29) ∧ (∃ r_32 : Int, Zc sc 18 [zp p_27] w (some (zj r_32)) w 0 0 ∧ (∃ p_35 : Nat, Zc sc 1 [zp a0] w (some (zp p_35)) w 0 0 ∧ (∃ fs_37 : List Value, w[(a0 + 1)]? = some (zob 5 fs_37) ∧ (∃ p_40 : Nat, ∃ w_38 : List zE, Zc sc 136 [zp (a0 + 1), zj 5, zj 0, zj 0] w (some (zp p_40)) w_38 0 0 ∧ (∃ cn_41 : Nat, ∃ fs_42 : List Value, w_38[p_35]? = some (zob cn_41 fs_42) ∧ (cn_41 = 1 ∨ cn_41 = 2 ∨ cn_41 = 4) ∧ (∃ p_49 : Nat, ∃ w_47 : List zE, Zc sc 57 [zp p_35, zp p_40] w_38 (some (zp p_49)) w_47 0 0 ∧ (∃ cn_50 : Nat, ∃ fs_51 : List Value, w_47[p_49]? = some (zob cn_50 fs_51) ∧ (cn_50 = 1 ∨ cn_50 = 2 ∨ cn_50 = 4) ∧ (∃ p_58 : Nat, Zc sc 6 [zp p_49] w_47 (some (zp p_58)) w_47 0 0 ∧ (∃ fs_60 : List Value, w_47[p_58]? = some (zob 0 fs_60) ∧ (∃ r_63 : Int, Zc sc 18 [zp p_58] w_47 (some (zj r_63)) w_47 0 0 ∧ (ov = some (zj (r_32 - r_63)) ∧ w' = w_47 ∧ c = 0 ∧ s = 0))))))))))))))))) ∧ (¬ (0 < r_12) → False))))))) : Zr sc 148 0 [zp a0, zmk] [] w ov w' c s := by
  refine Zr_st (q := (1, [zp a0, zmk], [zp a0])) rfl rfl rfl ?_
  show Zr sc 148 1 [zp a0, zmk] [zp a0] w ov w' c s
  obtain ⟨p_3, hk_9, h⟩ := h
  refine rn_cal0 (ins := .invokevirtual 83) (rest := []) rfl rfl rfl rfl (zinv_v (fs := _) L0 rfl rfl rfl rfl) rfl rfl hk_9 ?_
  show Zr sc 148 4 [zp a0, zmk] [zp p_3] w ov w' c s
  obtain ⟨cn_4, fs_5, hw_6, hcn_7, h⟩ := h
  have hz_8 : ∃ kd, zinv 148 (.invokevirtual 131) [zp p_3] (false, w) = some (kd, 101, [zp p_3], []) ∧ decide (kd < 6) = true := by rcases hcn_7 with rfl | rfl | rfl <;> exact zinv_u hw_6 rfl rfl rfl rfl rfl rfl rfl
  obtain ⟨kd_9, hz_8⟩ := hz_8
  obtain ⟨r_12, hk_9, h⟩ := h
  refine rn_cal0 (ins := .invokevirtual 131) (rest := []) rfl rfl rfl rfl hz_8.1 rfl hz_8.2 hk_9 ?_
  show Zr sc 148 7 [zp a0, zmk] [zj r_12] w ov w' c s
  obtain ⟨hr_13, h⟩ := h
  refine Zr_b0 (p := 0 < r_12) rfl rfl (zcmp_0 (cnd := .gt) hr_13) (fun hp => ?_) (fun hp => ?_)
  · replace h := h.1 hp
    show Zr sc 148 20 [zp a0, zmk] [] w ov w' c s
    refine Zr_st (q := (21, [zp a0, zmk], [zp a0])) rfl rfl rfl ?_
    show Zr sc 148 21 [zp a0, zmk] [zp a0] w ov w' c s
    obtain ⟨hk_9, h⟩ := h
    refine rn_cal0 (ins := .invokevirtual 96) (rest := []) rfl rfl rfl rfl (zinv_v (fs := _) L0 rfl rfl rfl rfl) rfl rfl hk_9 ?_
    show Zr sc 148 24 [zp a0, zmk] [] w ov w' c s
    refine Zr_st (q := (25, [zp a0, zmk], [zp a0])) rfl rfl rfl ?_
    show Zr sc 148 25 [zp a0, zmk] [zp a0] w ov w' c s
    obtain ⟨p_18, hk_9, h⟩ := h
    refine rn_cal0 (ins := .invokevirtual 83) (rest := []) rfl rfl rfl rfl (zinv_v (fs := _) L0 rfl rfl rfl rfl) rfl rfl hk_9 ?_
    show Zr sc 148 28 [zp a0, zmk] [zp p_18] w ov w' c s
    obtain ⟨cn_19, fs_20, hw_21, hcn_22, h⟩ := h
    have hz_23 : ∃ kd, zinv 148 (.invokevirtual 113) [zp p_18] (false, w) = some (kd, 6, [zp p_18], []) ∧ decide (kd < 6) = true := by rcases hcn_22 with rfl | rfl | rfl <;> exact zinv_u hw_21 rfl rfl rfl rfl rfl rfl rfl
    obtain ⟨kd_24, hz_23⟩ := hz_23
    obtain ⟨p_27, hk_9, h⟩ := h
    refine rn_cal0 (ins := .invokevirtual 113) (rest := []) rfl rfl rfl rfl hz_23.1 rfl hz_23.2 hk_9 ?_
    show Zr sc 148 31 [zp a0, zmk] [zp p_27] w ov w' c s
    obtain ⟨fs_29, hl_28, h⟩ := h
    obtain ⟨r_32, hk_9, h⟩ := h
    refine rn_cal0 (ins := .invokevirtual 138) (rest := []) rfl rfl rfl rfl (zinv_v (fs := _) hl_28 rfl rfl rfl rfl) rfl rfl hk_9 ?_
    show Zr sc 148 34 [zp a0, zmk] [zj r_32] w ov w' c s
    refine Zr_st (q := (35, [zp a0, zj r_32], [])) rfl rfl rfl ?_
    show Zr sc 148 35 [zp a0, zj r_32] [] w ov w' c s
    refine Zr_st (q := (36, [zp a0, zj r_32], [zj r_32])) rfl rfl rfl ?_
    show Zr sc 148 36 [zp a0, zj r_32] [zj r_32] w ov w' c s
    refine Zr_st (q := (37, [zp a0, zj r_32], [zp a0, zj r_32])) rfl rfl rfl ?_
    show Zr sc 148 37 [zp a0, zj r_32] [zp a0, zj r_32] w ov w' c s
    obtain ⟨p_35, hk_9, h⟩ := h
    refine rn_cal0 (ins := .invokevirtual 83) (rest := [zj r_32]) rfl rfl rfl rfl (zinv_v (fs := _) L0 rfl rfl rfl rfl) rfl rfl hk_9 ?_
    show Zr sc 148 40 [zp a0, zj r_32] [zp p_35, zj r_32] w ov w' c s
    refine Zr_st (q := (41, [zp a0, zj r_32], [zp a0, zp p_35, zj r_32])) rfl rfl rfl ?_
    show Zr sc 148 41 [zp a0, zj r_32] [zp a0, zp p_35, zj r_32] w ov w' c s
    refine rl_gf rfl L0 rfl rfl ?_
    show Zr sc 148 44 [zp a0, zj r_32] [zp (a0 + 1), zp p_35, zj r_32] w ov w' c s
    refine rl_ic rfl ?_
    show Zr sc 148 45 [zp a0, zj r_32] [zj 5, zp (a0 + 1), zp p_35, zj r_32] w ov w' c s
    refine rl_ic rfl ?_
    show Zr sc 148 46 [zp a0, zj r_32] [zj 0, zj 5, zp (a0 + 1), zp p_35, zj r_32] w ov w' c s
    refine rl_ic rfl ?_
    show Zr sc 148 47 [zp a0, zj r_32] [zj 0, zj 0, zj 5, zp (a0 + 1), zp p_35, zj r_32] w ov w' c s
    obtain ⟨fs_37, hl_36, h⟩ := h
    obtain ⟨p_40, w_38, hk_39, h⟩ := h
    refine rn_cal0 (ins := .invokevirtual 99) (rest := [zp p_35, zj r_32]) rfl rfl rfl rfl (zinv_v (fs := _) hl_36 rfl rfl rfl rfl) rfl rfl hk_39 ?_
    show Zr sc 148 50 [zp a0, zj r_32] [zp p_40, zp p_35, zj r_32] w_38 ov w' c s
    obtain ⟨cn_41, fs_42, hw_43, hcn_44, h⟩ := h
    have hz_45 : ∃ kd, zinv 148 (.invokevirtual 103) [zp p_40, zp p_35, zj r_32] (false, w_38) = some (kd, 57, [zp p_35, zp p_40], [zj r_32]) ∧ decide (kd < 6) = true := by rcases hcn_44 with rfl | rfl | rfl <;> exact zinv_u hw_43 rfl rfl rfl rfl rfl rfl rfl
    obtain ⟨kd_46, hz_45⟩ := hz_45
    obtain ⟨p_49, w_47, hk_48, h⟩ := h
    refine rn_cal0 (ins := .invokevirtual 103) (rest := [zj r_32]) rfl rfl rfl rfl hz_45.1 rfl hz_45.2 hk_48 ?_
    show Zr sc 148 53 [zp a0, zj r_32] [zp p_49, zj r_32] w_47 ov w' c s
    obtain ⟨cn_50, fs_51, hw_52, hcn_53, h⟩ := h
    have hz_54 : ∃ kd, zinv 148 (.invokevirtual 113) [zp p_49, zj r_32] (false, w_47) = some (kd, 6, [zp p_49], [zj r_32]) ∧ decide (kd < 6) = true := by rcases hcn_53 with rfl | rfl | rfl <;> exact zinv_u hw_52 rfl rfl rfl rfl rfl rfl rfl
    obtain ⟨kd_55, hz_54⟩ := hz_54
    obtain ⟨p_58, hk_9, h⟩ := h
    refine rn_cal0 (ins := .invokevirtual 113) (rest := [zj r_32]) rfl rfl rfl rfl hz_54.1 rfl hz_54.2 hk_9 ?_
    show Zr sc 148 56 [zp a0, zj r_32] [zp p_58, zj r_32] w_47 ov w' c s
    obtain ⟨fs_60, hl_59, h⟩ := h
    obtain ⟨r_63, hk_9, h⟩ := h
    refine rn_cal0 (ins := .invokevirtual 138) (rest := [zj r_32]) rfl rfl rfl rfl (zinv_v (fs := _) hl_59 rfl rfl rfl rfl) rfl rfl hk_9 ?_
    show Zr sc 148 59 [zp a0, zj r_32] [zj r_63, zj r_32] w_47 ov w' c s
    refine rl_sub rfl ?_
    show Zr sc 148 60 [zp a0, zj r_32] [zj (r_32 - r_63)] w_47 ov w' c s
    obtain ⟨h1, h2, h3, h4⟩ := h
    subst h1; subst h2; subst h3; subst h4
    exact Zr_ret (ins := .ireturn) rfl rfl
  · replace h := h.2 hp
    show Zr sc 148 10 [zp a0, zmk] [] w ov w' c s
    exact h.elim

-- HeapwrightLabLaw$Pool.together()Z
set_option maxRecDepth 100000 in
theorem V149_0 {sc : List Value} {w w' : List zE} {ov : Option Value} {c s : Nat} {a0 : Nat} (h : Zr sc 149 6 [zp a0, zj 0, zj 0, zj 0, zmk, zmk] [] w ov w' c s) : Zr sc 149 0 [zp a0, zmk, zmk, zmk, zmk, zmk] [] w ov w' c s := by
  refine rl_ic rfl ?_
  show Zr sc 149 1 [zp a0, zmk, zmk, zmk, zmk, zmk] [zj 0] w ov w' c s
  refine Zr_st (q := (2, [zp a0, zj 0, zmk, zmk, zmk, zmk], [])) rfl rfl rfl ?_
  show Zr sc 149 2 [zp a0, zj 0, zmk, zmk, zmk, zmk] [] w ov w' c s
  refine rl_ic rfl ?_
  show Zr sc 149 3 [zp a0, zj 0, zmk, zmk, zmk, zmk] [zj 0] w ov w' c s
  refine Zr_st (q := (4, [zp a0, zj 0, zj 0, zmk, zmk, zmk], [])) rfl rfl rfl ?_
  show Zr sc 149 4 [zp a0, zj 0, zj 0, zmk, zmk, zmk] [] w ov w' c s
  refine rl_ic rfl ?_
  show Zr sc 149 5 [zp a0, zj 0, zj 0, zmk, zmk, zmk] [zj 0] w ov w' c s
  refine Zr_st (q := (6, [zp a0, zj 0, zj 0, zj 0, zmk, zmk], [])) rfl rfl rfl ?_
  show Zr sc 149 6 [zp a0, zj 0, zj 0, zj 0, zmk, zmk] [] w ov w' c s
  exact h
set_option maxRecDepth 100000 in
theorem V149_6 {sc : List Value} {w w' : List zE} {ov : Option Value} {c s : Nat} {a0 : Nat} {x1 : Int} {x2 : Int} {x3 : Int} {v4 : Value} {v5 : Value} {dr : Int} {wy : Int} {st : Int} {hd : Int} {nm : Int} {ar : Int} {hn : Int} {pk : Int} {D : Nat} {tl : Int} {ow : List Int} {rm : List Int} (L0 : w[a0]? = some (zob 7 [zp (a0 + 1), .ref 0, zj dr, zj wy, zj st, zj hd, zp (a0 + 73), zj nm, zp (a0 + 74), zp (a0 + 75), zp (a0 + 76), zj ar, zj hn, zp (a0 + 77), zj pk, zp D, zj tl])) (L73 : w[(a0 + 73)]? = some (za ow)) (L75 : w[(a0 + 75)]? = some (za rm)) (h : ((zrg x3 ∧ zrg 1024) ∧ ((1024 ≤ x3 → Zr sc 149 91 [zp a0, zj x1, zj x2, zj x3, v4, v5] [] w ov w' c s) ∧ (¬ (1024 ≤ x3) → ((zrg wy ∧ zrg 4) ∧ ((4 ≤ wy → Zr sc 149 91 [zp a0, zj x1, zj x2, zj x3, v4, v5] [] w ov w' c s) ∧ (¬ (4 ≤ wy) → (((0 : Int) ≤ x3 ∧ x3 < (ow.length : Int) ∧ x3 ≤ (2147483647 : Int)) ∧ ((zrg (zgi ow x3)) ∧ ((0 ≤ (zgi ow x3) → (((0 : Int) ≤ (zgi ow x3) ∧ (zgi ow x3) < (rm.length : Int) ∧ (zgi ow x3) ≤ (2147483647 : Int)) ∧ ((zrg x2 ∧ zrg x3) ∧ ((x3 ≤ x2 → Zr sc 149 73 [zp a0, zj x1, zj x2, zj x3, zj (zgi ow x3), zj (zgi rm (zgi ow x3))] [] w ov w' c s) ∧ (¬ (x3 ≤ x2) → (∃ w_7 : List zE, Zc sc 131 [zp a0, zj x3, zj (zgi rm (zgi ow x3)), zj (-1)] w none w_7 0 0 ∧ (∃ fs_10 : List Value, w_7[a0]? = some (zob 7 fs_10) ∧ (∃ w_11 : List zE, Zc sc 131 [zp a0, zj x2, zj (zgi rm (zgi ow x3)), zj (zgi ow x3)] w_7 none w_11 0 0 ∧ Zr sc 149 73 [zp a0, zj (x1 + (zgi rm (zgi ow x3))), zj x2, zj x3, zj (zgi ow x3), zj (zgi rm (zgi ow x3))] [] w_11 ov w' c s)))))))) ∧ (¬ (0 ≤ (zgi ow x3)) → Zr sc 149 85 [zp a0, zj x1, zj x2, zj x3, zj (zgi ow x3), v5] [] w ov w' c s))))))))))) : Zr sc 149 6 [zp a0, zj x1, zj x2, zj x3, v4, v5] [] w ov w' c s := by
  refine Zr_st (q := (7, [zp a0, zj x1, zj x2, zj x3, v4, v5], [zj x3])) rfl rfl rfl ?_
  show Zr sc 149 7 [zp a0, zj x1, zj x2, zj x3, v4, v5] [zj x3] w ov w' c s
  refine rl_si rfl (by decide) ?_
  show Zr sc 149 10 [zp a0, zj x1, zj x2, zj x3, v4, v5] [zj 1024, zj x3] w ov w' c s
  obtain ⟨hr_1, h⟩ := h
  refine Zr_br (p := 1024 ≤ x3) rfl rfl (zcmp_j (cnd := .ge) hr_1.1 hr_1.2) (fun hp => ?_) (fun hp => ?_)
  · replace h := h.1 hp
    show Zr sc 149 91 [zp a0, zj x1, zj x2, zj x3, v4, v5] [] w ov w' c s
    exact h
  · replace h := h.2 hp
    show Zr sc 149 13 [zp a0, zj x1, zj x2, zj x3, v4, v5] [] w ov w' c s
    refine Zr_st (q := (14, [zp a0, zj x1, zj x2, zj x3, v4, v5], [zp a0])) rfl rfl rfl ?_
    show Zr sc 149 14 [zp a0, zj x1, zj x2, zj x3, v4, v5] [zp a0] w ov w' c s
    refine rl_gf rfl L0 rfl rfl ?_
    show Zr sc 149 17 [zp a0, zj x1, zj x2, zj x3, v4, v5] [zj wy] w ov w' c s
    refine rl_ic rfl ?_
    show Zr sc 149 18 [zp a0, zj x1, zj x2, zj x3, v4, v5] [zj 4, zj wy] w ov w' c s
    obtain ⟨hr_2, h⟩ := h
    refine Zr_br (p := 4 ≤ wy) rfl rfl (zcmp_j (cnd := .ge) hr_2.1 hr_2.2) (fun hp => ?_) (fun hp => ?_)
    · replace h := h.1 hp
      show Zr sc 149 91 [zp a0, zj x1, zj x2, zj x3, v4, v5] [] w ov w' c s
      exact h
    · replace h := h.2 hp
      show Zr sc 149 21 [zp a0, zj x1, zj x2, zj x3, v4, v5] [] w ov w' c s
      refine Zr_st (q := (22, [zp a0, zj x1, zj x2, zj x3, v4, v5], [zp a0])) rfl rfl rfl ?_
      show Zr sc 149 22 [zp a0, zj x1, zj x2, zj x3, v4, v5] [zp a0] w ov w' c s
      refine rl_gf rfl L0 rfl rfl ?_
      show Zr sc 149 25 [zp a0, zj x1, zj x2, zj x3, v4, v5] [zp (a0 + 73)] w ov w' c s
      refine Zr_st (q := (26, [zp a0, zj x1, zj x2, zj x3, v4, v5], [zj x3, zp (a0 + 73)])) rfl rfl rfl ?_
      show Zr sc 149 26 [zp a0, zj x1, zj x2, zj x3, v4, v5] [zj x3, zp (a0 + 73)] w ov w' c s
      obtain ⟨hi_3, h⟩ := h
      refine rl_ia rfl L73 hi_3.1 hi_3.2.1 hi_3.2.2 ?_
      show Zr sc 149 27 [zp a0, zj x1, zj x2, zj x3, v4, v5] [zj (zgi ow x3)] w ov w' c s
      refine Zr_st (q := (29, [zp a0, zj x1, zj x2, zj x3, zj (zgi ow x3), v5], [])) rfl rfl rfl ?_
      show Zr sc 149 29 [zp a0, zj x1, zj x2, zj x3, zj (zgi ow x3), v5] [] w ov w' c s
      refine Zr_st (q := (31, [zp a0, zj x1, zj x2, zj x3, zj (zgi ow x3), v5], [zj (zgi ow x3)])) rfl rfl rfl ?_
      show Zr sc 149 31 [zp a0, zj x1, zj x2, zj x3, zj (zgi ow x3), v5] [zj (zgi ow x3)] w ov w' c s
      obtain ⟨hr_4, h⟩ := h
      refine Zr_b0 (p := 0 ≤ (zgi ow x3)) rfl rfl (zcmp_0 (cnd := .ge) hr_4) (fun hp => ?_) (fun hp => ?_)
      · replace h := h.1 hp
        show Zr sc 149 37 [zp a0, zj x1, zj x2, zj x3, zj (zgi ow x3), v5] [] w ov w' c s
        refine Zr_st (q := (38, [zp a0, zj x1, zj x2, zj x3, zj (zgi ow x3), v5], [zp a0])) rfl rfl rfl ?_
        show Zr sc 149 38 [zp a0, zj x1, zj x2, zj x3, zj (zgi ow x3), v5] [zp a0] w ov w' c s
        refine rl_gf rfl L0 rfl rfl ?_
        show Zr sc 149 41 [zp a0, zj x1, zj x2, zj x3, zj (zgi ow x3), v5] [zp (a0 + 75)] w ov w' c s
        refine Zr_st (q := (43, [zp a0, zj x1, zj x2, zj x3, zj (zgi ow x3), v5], [zj (zgi ow x3), zp (a0 + 75)])) rfl rfl rfl ?_
        show Zr sc 149 43 [zp a0, zj x1, zj x2, zj x3, zj (zgi ow x3), v5] [zj (zgi ow x3), zp (a0 + 75)] w ov w' c s
        obtain ⟨hi_5, h⟩ := h
        refine rl_ia rfl L75 hi_5.1 hi_5.2.1 hi_5.2.2 ?_
        show Zr sc 149 44 [zp a0, zj x1, zj x2, zj x3, zj (zgi ow x3), v5] [zj (zgi rm (zgi ow x3))] w ov w' c s
        refine Zr_st (q := (46, [zp a0, zj x1, zj x2, zj x3, zj (zgi ow x3), zj (zgi rm (zgi ow x3))], [])) rfl rfl rfl ?_
        show Zr sc 149 46 [zp a0, zj x1, zj x2, zj x3, zj (zgi ow x3), zj (zgi rm (zgi ow x3))] [] w ov w' c s
        refine Zr_st (q := (47, [zp a0, zj x1, zj x2, zj x3, zj (zgi ow x3), zj (zgi rm (zgi ow x3))], [zj x2])) rfl rfl rfl ?_
        show Zr sc 149 47 [zp a0, zj x1, zj x2, zj x3, zj (zgi ow x3), zj (zgi rm (zgi ow x3))] [zj x2] w ov w' c s
        refine Zr_st (q := (48, [zp a0, zj x1, zj x2, zj x3, zj (zgi ow x3), zj (zgi rm (zgi ow x3))], [zj x3, zj x2])) rfl rfl rfl ?_
        show Zr sc 149 48 [zp a0, zj x1, zj x2, zj x3, zj (zgi ow x3), zj (zgi rm (zgi ow x3))] [zj x3, zj x2] w ov w' c s
        obtain ⟨hr_6, h⟩ := h
        refine Zr_br (p := x3 ≤ x2) rfl rfl (zcmp_j (cnd := .ge) hr_6.1 hr_6.2) (fun hp => ?_) (fun hp => ?_)
        · replace h := h.1 hp
          show Zr sc 149 73 [zp a0, zj x1, zj x2, zj x3, zj (zgi ow x3), zj (zgi rm (zgi ow x3))] [] w ov w' c s
          exact h
        · replace h := h.2 hp
          show Zr sc 149 51 [zp a0, zj x1, zj x2, zj x3, zj (zgi ow x3), zj (zgi rm (zgi ow x3))] [] w ov w' c s
          refine Zr_st (q := (52, [zp a0, zj x1, zj x2, zj x3, zj (zgi ow x3), zj (zgi rm (zgi ow x3))], [zj x1])) rfl rfl rfl ?_
          show Zr sc 149 52 [zp a0, zj x1, zj x2, zj x3, zj (zgi ow x3), zj (zgi rm (zgi ow x3))] [zj x1] w ov w' c s
          refine Zr_st (q := (54, [zp a0, zj x1, zj x2, zj x3, zj (zgi ow x3), zj (zgi rm (zgi ow x3))], [zj (zgi rm (zgi ow x3)), zj x1])) rfl rfl rfl ?_
          show Zr sc 149 54 [zp a0, zj x1, zj x2, zj x3, zj (zgi ow x3), zj (zgi rm (zgi ow x3))] [zj (zgi rm (zgi ow x3)), zj x1] w ov w' c s
          refine rl_add rfl ?_
          show Zr sc 149 55 [zp a0, zj x1, zj x2, zj x3, zj (zgi ow x3), zj (zgi rm (zgi ow x3))] [zj (x1 + (zgi rm (zgi ow x3)))] w ov w' c s
          refine Zr_st (q := (56, [zp a0, zj (x1 + (zgi rm (zgi ow x3))), zj x2, zj x3, zj (zgi ow x3), zj (zgi rm (zgi ow x3))], [])) rfl rfl rfl ?_
          show Zr sc 149 56 [zp a0, zj (x1 + (zgi rm (zgi ow x3))), zj x2, zj x3, zj (zgi ow x3), zj (zgi rm (zgi ow x3))] [] w ov w' c s
          refine Zr_st (q := (57, [zp a0, zj (x1 + (zgi rm (zgi ow x3))), zj x2, zj x3, zj (zgi ow x3), zj (zgi rm (zgi ow x3))], [zp a0])) rfl rfl rfl ?_
          show Zr sc 149 57 [zp a0, zj (x1 + (zgi rm (zgi ow x3))), zj x2, zj x3, zj (zgi ow x3), zj (zgi rm (zgi ow x3))] [zp a0] w ov w' c s
          refine Zr_st (q := (58, [zp a0, zj (x1 + (zgi rm (zgi ow x3))), zj x2, zj x3, zj (zgi ow x3), zj (zgi rm (zgi ow x3))], [zj x3, zp a0])) rfl rfl rfl ?_
          show Zr sc 149 58 [zp a0, zj (x1 + (zgi rm (zgi ow x3))), zj x2, zj x3, zj (zgi ow x3), zj (zgi rm (zgi ow x3))] [zj x3, zp a0] w ov w' c s
          refine Zr_st (q := (60, [zp a0, zj (x1 + (zgi rm (zgi ow x3))), zj x2, zj x3, zj (zgi ow x3), zj (zgi rm (zgi ow x3))], [zj (zgi rm (zgi ow x3)), zj x3, zp a0])) rfl rfl rfl ?_
          show Zr sc 149 60 [zp a0, zj (x1 + (zgi rm (zgi ow x3))), zj x2, zj x3, zj (zgi ow x3), zj (zgi rm (zgi ow x3))] [zj (zgi rm (zgi ow x3)), zj x3, zp a0] w ov w' c s
          refine rl_ic rfl ?_
          show Zr sc 149 61 [zp a0, zj (x1 + (zgi rm (zgi ow x3))), zj x2, zj x3, zj (zgi ow x3), zj (zgi rm (zgi ow x3))] [zj (-1), zj (zgi rm (zgi ow x3)), zj x3, zp a0] w ov w' c s
          obtain ⟨w_7, hk_8, h⟩ := h
          refine rn_cal0 (ins := .invokevirtual 110) (rest := []) rfl rfl rfl rfl (zinv_v (fs := _) L0 rfl rfl rfl rfl) rfl rfl hk_8 ?_
          show Zr sc 149 64 [zp a0, zj (x1 + (zgi rm (zgi ow x3))), zj x2, zj x3, zj (zgi ow x3), zj (zgi rm (zgi ow x3))] [] w_7 ov w' c s
          refine Zr_st (q := (65, [zp a0, zj (x1 + (zgi rm (zgi ow x3))), zj x2, zj x3, zj (zgi ow x3), zj (zgi rm (zgi ow x3))], [zp a0])) rfl rfl rfl ?_
          show Zr sc 149 65 [zp a0, zj (x1 + (zgi rm (zgi ow x3))), zj x2, zj x3, zj (zgi ow x3), zj (zgi rm (zgi ow x3))] [zp a0] w_7 ov w' c s
          refine Zr_st (q := (66, [zp a0, zj (x1 + (zgi rm (zgi ow x3))), zj x2, zj x3, zj (zgi ow x3), zj (zgi rm (zgi ow x3))], [zj x2, zp a0])) rfl rfl rfl ?_
          show Zr sc 149 66 [zp a0, zj (x1 + (zgi rm (zgi ow x3))), zj x2, zj x3, zj (zgi ow x3), zj (zgi rm (zgi ow x3))] [zj x2, zp a0] w_7 ov w' c s
          refine Zr_st (q := (68, [zp a0, zj (x1 + (zgi rm (zgi ow x3))), zj x2, zj x3, zj (zgi ow x3), zj (zgi rm (zgi ow x3))], [zj (zgi rm (zgi ow x3)), zj x2, zp a0])) rfl rfl rfl ?_
          show Zr sc 149 68 [zp a0, zj (x1 + (zgi rm (zgi ow x3))), zj x2, zj x3, zj (zgi ow x3), zj (zgi rm (zgi ow x3))] [zj (zgi rm (zgi ow x3)), zj x2, zp a0] w_7 ov w' c s
          refine Zr_st (q := (70, [zp a0, zj (x1 + (zgi rm (zgi ow x3))), zj x2, zj x3, zj (zgi ow x3), zj (zgi rm (zgi ow x3))], [zj (zgi ow x3), zj (zgi rm (zgi ow x3)), zj x2, zp a0])) rfl rfl rfl ?_
          show Zr sc 149 70 [zp a0, zj (x1 + (zgi rm (zgi ow x3))), zj x2, zj x3, zj (zgi ow x3), zj (zgi rm (zgi ow x3))] [zj (zgi ow x3), zj (zgi rm (zgi ow x3)), zj x2, zp a0] w_7 ov w' c s
          obtain ⟨fs_10, hl_9, h⟩ := h
          obtain ⟨w_11, hk_12, h⟩ := h
          refine rn_cal0 (ins := .invokevirtual 110) (rest := []) rfl rfl rfl rfl (zinv_v (fs := _) hl_9 rfl rfl rfl rfl) rfl rfl hk_12 ?_
          show Zr sc 149 73 [zp a0, zj (x1 + (zgi rm (zgi ow x3))), zj x2, zj x3, zj (zgi ow x3), zj (zgi rm (zgi ow x3))] [] w_11 ov w' c s
          exact h
      · replace h := h.2 hp
        show Zr sc 149 34 [zp a0, zj x1, zj x2, zj x3, zj (zgi ow x3), v5] [] w ov w' c s
        refine Zr_st (q := (85, [zp a0, zj x1, zj x2, zj x3, zj (zgi ow x3), v5], [])) rfl rfl rfl ?_
        show Zr sc 149 85 [zp a0, zj x1, zj x2, zj x3, zj (zgi ow x3), v5] [] w ov w' c s
        exact h
set_option maxRecDepth 100000 in
theorem V149_73 {sc : List Value} {w w' : List zE} {ov : Option Value} {c s : Nat} {a0 : Nat} {x1 : Int} {x2 : Int} {x3 : Int} {x4 : Int} {x5 : Int} (h : Zr sc 149 85 [zp a0, zj x1, zj (x2 + x5), zj (x3 + (x5 - 1)), zj x4, zj x5] [] w ov w' c s) : Zr sc 149 73 [zp a0, zj x1, zj x2, zj x3, zj x4, zj x5] [] w ov w' c s := by
  refine Zr_st (q := (74, [zp a0, zj x1, zj x2, zj x3, zj x4, zj x5], [zj x3])) rfl rfl rfl ?_
  show Zr sc 149 74 [zp a0, zj x1, zj x2, zj x3, zj x4, zj x5] [zj x3] w ov w' c s
  refine Zr_st (q := (76, [zp a0, zj x1, zj x2, zj x3, zj x4, zj x5], [zj x5, zj x3])) rfl rfl rfl ?_
  show Zr sc 149 76 [zp a0, zj x1, zj x2, zj x3, zj x4, zj x5] [zj x5, zj x3] w ov w' c s
  refine rl_ic rfl ?_
  show Zr sc 149 77 [zp a0, zj x1, zj x2, zj x3, zj x4, zj x5] [zj 1, zj x5, zj x3] w ov w' c s
  refine rl_sub rfl ?_
  show Zr sc 149 78 [zp a0, zj x1, zj x2, zj x3, zj x4, zj x5] [zj (x5 - 1), zj x3] w ov w' c s
  refine rl_add rfl ?_
  show Zr sc 149 79 [zp a0, zj x1, zj x2, zj x3, zj x4, zj x5] [zj (x3 + (x5 - 1))] w ov w' c s
  refine Zr_st (q := (80, [zp a0, zj x1, zj x2, zj (x3 + (x5 - 1)), zj x4, zj x5], [])) rfl rfl rfl ?_
  show Zr sc 149 80 [zp a0, zj x1, zj x2, zj (x3 + (x5 - 1)), zj x4, zj x5] [] w ov w' c s
  refine Zr_st (q := (81, [zp a0, zj x1, zj x2, zj (x3 + (x5 - 1)), zj x4, zj x5], [zj x2])) rfl rfl rfl ?_
  show Zr sc 149 81 [zp a0, zj x1, zj x2, zj (x3 + (x5 - 1)), zj x4, zj x5] [zj x2] w ov w' c s
  refine Zr_st (q := (83, [zp a0, zj x1, zj x2, zj (x3 + (x5 - 1)), zj x4, zj x5], [zj x5, zj x2])) rfl rfl rfl ?_
  show Zr sc 149 83 [zp a0, zj x1, zj x2, zj (x3 + (x5 - 1)), zj x4, zj x5] [zj x5, zj x2] w ov w' c s
  refine rl_add rfl ?_
  show Zr sc 149 84 [zp a0, zj x1, zj x2, zj (x3 + (x5 - 1)), zj x4, zj x5] [zj (x2 + x5)] w ov w' c s
  refine Zr_st (q := (85, [zp a0, zj x1, zj (x2 + x5), zj (x3 + (x5 - 1)), zj x4, zj x5], [])) rfl rfl rfl ?_
  show Zr sc 149 85 [zp a0, zj x1, zj (x2 + x5), zj (x3 + (x5 - 1)), zj x4, zj x5] [] w ov w' c s
  exact h
set_option maxRecDepth 100000 in
theorem V149_85 {sc : List Value} {w w' : List zE} {ov : Option Value} {c s : Nat} {a0 : Nat} {x1 : Int} {x2 : Int} {x3 : Int} {x4 : Int} {v5 : Value} (h : Zr sc 149 6 [zp a0, zj x1, zj x2, zj (x3 + 1), zj x4, v5] [] w ov w' c s) : Zr sc 149 85 [zp a0, zj x1, zj x2, zj x3, zj x4, v5] [] w ov w' c s := by
  refine rl_inc rfl rfl rfl rfl ?_
  show Zr sc 149 88 [zp a0, zj x1, zj x2, zj (x3 + 1), zj x4, v5] [] w ov w' c s
  refine Zr_st (q := (6, [zp a0, zj x1, zj x2, zj (x3 + 1), zj x4, v5], [])) rfl rfl rfl ?_
  show Zr sc 149 6 [zp a0, zj x1, zj x2, zj (x3 + 1), zj x4, v5] [] w ov w' c s
  exact h
set_option maxRecDepth 100000 in
theorem V149_91 {sc : List Value} {w w' : List zE} {ov : Option Value} {c s : Nat} {a0 : Nat} {x1 : Int} {x2 : Int} {x3 : Int} {v4 : Value} {v5 : Value} {dr : Int} {wy : Int} {st : Int} {hd : Int} {nm : Int} {ar : Int} {hn : Int} {pk : Int} {D : Nat} {tl : Int} (L0 : w[a0]? = some (zob 7 [zp (a0 + 1), .ref 0, zj dr, zj wy, zj st, zj hd, zp (a0 + 73), zj nm, zp (a0 + 74), zp (a0 + 75), zp (a0 + 76), zj ar, zj hn, zp (a0 + 77), zj pk, zp D, zj tl])) (h : ((zrg wy ∧ zrg 4) ∧ ((4 ≤ wy → Zr sc 149 115 [zp a0, zj x1, zj x2, zj x3, v4, v5] [] w ov w' c s) ∧ (¬ (4 ≤ wy) → ((zrg x2 ∧ zrg 1024) ∧ ((x2 ≠ 1024 → Zr sc 149 115 [zp a0, zj x1, zj x2, zj x3, v4, v5] [] (w.set a0 (zob 7 [zp (a0 + 1), .ref 0, zj dr, zj wy, zj st, zj hd, zp (a0 + 73), zj nm, zp (a0 + 74), zp (a0 + 75), zp (a0 + 76), zj ar, zj x2, zp (a0 + 77), zj pk, zp D, zj tl])) ov w' c s) ∧ (¬ (x2 ≠ 1024) → Zr sc 149 115 [zp a0, zj x1, zj x2, zj x3, v4, v5] [] (w.set a0 (zob 7 [zp (a0 + 1), .ref 0, zj dr, zj wy, zj st, zj hd, zp (a0 + 73), zj nm, zp (a0 + 74), zp (a0 + 75), zp (a0 + 76), zj ar, zj 0, zp (a0 + 77), zj pk, zp D, zj tl])) ov w' c s))))))) : Zr sc 149 91 [zp a0, zj x1, zj x2, zj x3, v4, v5] [] w ov w' c s := by
  refine Zr_st (q := (92, [zp a0, zj x1, zj x2, zj x3, v4, v5], [zp a0])) rfl rfl rfl ?_
  show Zr sc 149 92 [zp a0, zj x1, zj x2, zj x3, v4, v5] [zp a0] w ov w' c s
  refine rl_gf rfl L0 rfl rfl ?_
  show Zr sc 149 95 [zp a0, zj x1, zj x2, zj x3, v4, v5] [zj wy] w ov w' c s
  refine rl_ic rfl ?_
  show Zr sc 149 96 [zp a0, zj x1, zj x2, zj x3, v4, v5] [zj 4, zj wy] w ov w' c s
  obtain ⟨hr_1, h⟩ := h
  refine Zr_br (p := 4 ≤ wy) rfl rfl (zcmp_j (cnd := .ge) hr_1.1 hr_1.2) (fun hp => ?_) (fun hp => ?_)
  · replace h := h.1 hp
    show Zr sc 149 115 [zp a0, zj x1, zj x2, zj x3, v4, v5] [] w ov w' c s
    exact h
  · replace h := h.2 hp
    show Zr sc 149 99 [zp a0, zj x1, zj x2, zj x3, v4, v5] [] w ov w' c s
    refine Zr_st (q := (100, [zp a0, zj x1, zj x2, zj x3, v4, v5], [zp a0])) rfl rfl rfl ?_
    show Zr sc 149 100 [zp a0, zj x1, zj x2, zj x3, v4, v5] [zp a0] w ov w' c s
    refine Zr_st (q := (101, [zp a0, zj x1, zj x2, zj x3, v4, v5], [zj x2, zp a0])) rfl rfl rfl ?_
    show Zr sc 149 101 [zp a0, zj x1, zj x2, zj x3, v4, v5] [zj x2, zp a0] w ov w' c s
    refine rl_si rfl (by decide) ?_
    show Zr sc 149 104 [zp a0, zj x1, zj x2, zj x3, v4, v5] [zj 1024, zj x2, zp a0] w ov w' c s
    obtain ⟨hr_2, h⟩ := h
    refine Zr_br (p := x2 ≠ 1024) rfl rfl (zcmp_j (cnd := .ne) hr_2.1 hr_2.2) (fun hp => ?_) (fun hp => ?_)
    · replace h := h.1 hp
      show Zr sc 149 111 [zp a0, zj x1, zj x2, zj x3, v4, v5] [zp a0] w ov w' c s
      refine Zr_st (q := (112, [zp a0, zj x1, zj x2, zj x3, v4, v5], [zj x2, zp a0])) rfl rfl rfl ?_
      show Zr sc 149 112 [zp a0, zj x1, zj x2, zj x3, v4, v5] [zj x2, zp a0] w ov w' c s
      refine rl_pf rfl L0 rfl rfl rfl ?_
      show Zr sc 149 115 [zp a0, zj x1, zj x2, zj x3, v4, v5] [] (w.set a0 (zob 7 [zp (a0 + 1), .ref 0, zj dr, zj wy, zj st, zj hd, zp (a0 + 73), zj nm, zp (a0 + 74), zp (a0 + 75), zp (a0 + 76), zj ar, zj x2, zp (a0 + 77), zj pk, zp D, zj tl])) ov w' c s
      exact h
    · replace h := h.2 hp
      show Zr sc 149 107 [zp a0, zj x1, zj x2, zj x3, v4, v5] [zp a0] w ov w' c s
      refine rl_ic rfl ?_
      show Zr sc 149 108 [zp a0, zj x1, zj x2, zj x3, v4, v5] [zj 0, zp a0] w ov w' c s
      refine Zr_st (q := (112, [zp a0, zj x1, zj x2, zj x3, v4, v5], [zj 0, zp a0])) rfl rfl rfl ?_
      show Zr sc 149 112 [zp a0, zj x1, zj x2, zj x3, v4, v5] [zj 0, zp a0] w ov w' c s
      refine rl_pf rfl L0 rfl rfl rfl ?_
      show Zr sc 149 115 [zp a0, zj x1, zj x2, zj x3, v4, v5] [] (w.set a0 (zob 7 [zp (a0 + 1), .ref 0, zj dr, zj wy, zj st, zj hd, zp (a0 + 73), zj nm, zp (a0 + 74), zp (a0 + 75), zp (a0 + 76), zj ar, zj 0, zp (a0 + 77), zj pk, zp D, zj tl])) ov w' c s
      exact h
set_option maxRecDepth 100000 in
theorem V149_115 {sc : List Value} {w w' : List zE} {ov : Option Value} {c s : Nat} {a0 : Nat} {x1 : Int} {x2 : Int} {x3 : Int} {v4 : Value} {v5 : Value} {dr : Int} {wy : Int} {st : Int} {hd : Int} {nm : Int} {ar : Int} {hn : Int} {pk : Int} {D : Nat} {tl : Int} {cn : List Int} (L0 : w[a0]? = some (zob 7 [zp (a0 + 1), .ref 0, zj dr, zj wy, zj st, zj hd, zp (a0 + 73), zj nm, zp (a0 + 74), zp (a0 + 75), zp (a0 + 76), zj ar, zj hn, zp (a0 + 77), zj pk, zp D, zj tl])) (L77 : w[(a0 + 77)]? = some (za cn)) (h : (((0 : Int) ≤ 3 ∧ 3 < (cn.length : Int) ∧ 3 ≤ (2147483647 : Int)) ∧ (((0 : Int) ≤ 3 ∧ 3 < (cn.length : Int) ∧ 3 ≤ (2147483647 : Int)) ∧ (∃ w_3 : List zE, ∃ c_5 s_6 c_7 s_8 : Nat, Zc sc 132 [zp a0, zj 3, zj 0, zj 0] (w.set (a0 + 77) (za (zsi cn 3 ((zgi cn 3) + x1)))) none w_3 c_5 s_6 ∧ (c = c_5 + c_7 ∧ s = s_6 + s_8) ∧ (∃ dr_11 : Int, ∃ wy_12 : Int, ∃ st_13 : Int, ∃ hd_14 : Int, ∃ nm_15 : Int, ∃ ar_16 : Int, ∃ hn_17 : Int, ∃ pk_18 : Int, ∃ D_19 : Nat, ∃ tl_20 : Int, w_3[a0]? = some (zob 7 [zp (a0 + 1), .ref 0, zj dr_11, zj wy_12, zj st_13, zj hd_14, zp (a0 + 73), zj nm_15, zp (a0 + 74), zp (a0 + 75), zp (a0 + 76), zj ar_16, zj hn_17, zp (a0 + 77), zj pk_18, zp D_19, zj tl_20]) ∧ ((zrg tl_20) ∧ ((tl_20 = 0 → Zr sc 149 150 [zp a0, zj x1, zj x2, zj x3, v4, v5] [] w_3 ov w' c_7 s_8) ∧ (¬ (tl_20 = 0) → (∃ fs_23 : List Value, w_3[(a0 + 1)]? = some (zob 6 fs_23) ∧ (∃ r_26 : Int, ∃ w_24 : List zE, Zc sc 150 [zp (a0 + 1)] w_3 (some (zj r_26)) w_24 0 0 ∧ ((zrg r_26 ∧ zrg x1) ∧ ((r_26 ≠ x1 → (ov = some (zj 0) ∧ w' = w_24 ∧ c_7 = 0 ∧ s_8 = 0)) ∧ (¬ (r_26 ≠ x1) → Zr sc 149 150 [zp a0, zj x1, zj x2, zj x3, v4, v5] [] w_24 ov w' c_7 s_8))))))))))))) : Zr sc 149 115 [zp a0, zj x1, zj x2, zj x3, v4, v5] [] w ov w' c s := by
  refine Zr_st (q := (116, [zp a0, zj x1, zj x2, zj x3, v4, v5], [zp a0])) rfl rfl rfl ?_
  show Zr sc 149 116 [zp a0, zj x1, zj x2, zj x3, v4, v5] [zp a0] w ov w' c s
  refine rl_gf rfl L0 rfl rfl ?_
  show Zr sc 149 119 [zp a0, zj x1, zj x2, zj x3, v4, v5] [zp (a0 + 77)] w ov w' c s
  refine rl_ic rfl ?_
  show Zr sc 149 120 [zp a0, zj x1, zj x2, zj x3, v4, v5] [zj 3, zp (a0 + 77)] w ov w' c s
  refine Zr_st (q := (121, [zp a0, zj x1, zj x2, zj x3, v4, v5], [zj 3, zp (a0 + 77), zj 3, zp (a0 + 77)])) rfl rfl rfl ?_
  show Zr sc 149 121 [zp a0, zj x1, zj x2, zj x3, v4, v5] [zj 3, zp (a0 + 77), zj 3, zp (a0 + 77)] w ov w' c s
  obtain ⟨hi_1, h⟩ := h
  refine rl_ia rfl L77 hi_1.1 hi_1.2.1 hi_1.2.2 ?_
  show Zr sc 149 122 [zp a0, zj x1, zj x2, zj x3, v4, v5] [zj (zgi cn 3), zj 3, zp (a0 + 77)] w ov w' c s
  refine Zr_st (q := (123, [zp a0, zj x1, zj x2, zj x3, v4, v5], [zj x1, zj (zgi cn 3), zj 3, zp (a0 + 77)])) rfl rfl rfl ?_
  show Zr sc 149 123 [zp a0, zj x1, zj x2, zj x3, v4, v5] [zj x1, zj (zgi cn 3), zj 3, zp (a0 + 77)] w ov w' c s
  refine rl_add rfl ?_
  show Zr sc 149 124 [zp a0, zj x1, zj x2, zj x3, v4, v5] [zj ((zgi cn 3) + x1), zj 3, zp (a0 + 77)] w ov w' c s
  obtain ⟨hi_2, h⟩ := h
  refine rl_is rfl L77 hi_2.1 hi_2.2.1 hi_2.2.2 ?_
  show Zr sc 149 125 [zp a0, zj x1, zj x2, zj x3, v4, v5] [] (w.set (a0 + 77) (za (zsi cn 3 ((zgi cn 3) + x1)))) ov w' c s
  refine Zr_st (q := (126, [zp a0, zj x1, zj x2, zj x3, v4, v5], [zp a0])) rfl rfl rfl ?_
  show Zr sc 149 126 [zp a0, zj x1, zj x2, zj x3, v4, v5] [zp a0] (w.set (a0 + 77) (za (zsi cn 3 ((zgi cn 3) + x1)))) ov w' c s
  refine rl_ic rfl ?_
  show Zr sc 149 127 [zp a0, zj x1, zj x2, zj x3, v4, v5] [zj 3, zp a0] (w.set (a0 + 77) (za (zsi cn 3 ((zgi cn 3) + x1)))) ov w' c s
  refine rl_ic rfl ?_
  show Zr sc 149 128 [zp a0, zj x1, zj x2, zj x3, v4, v5] [zj 0, zj 3, zp a0] (w.set (a0 + 77) (za (zsi cn 3 ((zgi cn 3) + x1)))) ov w' c s
  refine rl_ic rfl ?_
  show Zr sc 149 129 [zp a0, zj x1, zj x2, zj x3, v4, v5] [zj 0, zj 0, zj 3, zp a0] (w.set (a0 + 77) (za (zsi cn 3 ((zgi cn 3) + x1)))) ov w' c s
  obtain ⟨w_3, c_5, s_6, c_7, s_8, hk_4, hc_9, h⟩ := h
  refine rl_cal (ins := .invokevirtual 136) (rest := []) rfl rfl rfl rfl (zinv_v (fs := _) (zw_o (by omega) L0) rfl rfl rfl rfl) rfl rfl hk_4 ?_ hc_9.1 hc_9.2
  show Zr sc 149 132 [zp a0, zj x1, zj x2, zj x3, v4, v5] [] w_3 ov w' c_7 s_8
  refine Zr_st (q := (133, [zp a0, zj x1, zj x2, zj x3, v4, v5], [zp a0])) rfl rfl rfl ?_
  show Zr sc 149 133 [zp a0, zj x1, zj x2, zj x3, v4, v5] [zp a0] w_3 ov w' c_7 s_8
  obtain ⟨dr_11, wy_12, st_13, hd_14, nm_15, ar_16, hn_17, pk_18, D_19, tl_20, hw_10, h⟩ := h
  refine rl_gf rfl hw_10 rfl rfl ?_
  show Zr sc 149 136 [zp a0, zj x1, zj x2, zj x3, v4, v5] [zj tl_20] w_3 ov w' c_7 s_8
  obtain ⟨hr_21, h⟩ := h
  refine Zr_b0 (p := tl_20 = 0) rfl rfl (zcmp_0 (cnd := .eq) hr_21) (fun hp => ?_) (fun hp => ?_)
  · replace h := h.1 hp
    show Zr sc 149 150 [zp a0, zj x1, zj x2, zj x3, v4, v5] [] w_3 ov w' c_7 s_8
    exact h
  · replace h := h.2 hp
    show Zr sc 149 139 [zp a0, zj x1, zj x2, zj x3, v4, v5] [] w_3 ov w' c_7 s_8
    refine Zr_st (q := (140, [zp a0, zj x1, zj x2, zj x3, v4, v5], [zp a0])) rfl rfl rfl ?_
    show Zr sc 149 140 [zp a0, zj x1, zj x2, zj x3, v4, v5] [zp a0] w_3 ov w' c_7 s_8
    refine rl_gf rfl hw_10 rfl rfl ?_
    show Zr sc 149 143 [zp a0, zj x1, zj x2, zj x3, v4, v5] [zp (a0 + 1)] w_3 ov w' c_7 s_8
    obtain ⟨fs_23, hl_22, h⟩ := h
    obtain ⟨r_26, w_24, hk_25, h⟩ := h
    refine rn_cal0 (ins := .invokevirtual 164) (rest := []) rfl rfl rfl rfl (zinv_v (fs := _) hl_22 rfl rfl rfl rfl) rfl rfl hk_25 ?_
    show Zr sc 149 146 [zp a0, zj x1, zj x2, zj x3, v4, v5] [zj r_26] w_24 ov w' c_7 s_8
    refine Zr_st (q := (147, [zp a0, zj x1, zj x2, zj x3, v4, v5], [zj x1, zj r_26])) rfl rfl rfl ?_
    show Zr sc 149 147 [zp a0, zj x1, zj x2, zj x3, v4, v5] [zj x1, zj r_26] w_24 ov w' c_7 s_8
    obtain ⟨hr_27, h⟩ := h
    refine Zr_br (p := r_26 ≠ x1) rfl rfl (zcmp_j (cnd := .ne) hr_27.1 hr_27.2) (fun hp => ?_) (fun hp => ?_)
    · replace h := h.1 hp
      show Zr sc 149 154 [zp a0, zj x1, zj x2, zj x3, v4, v5] [] w_24 ov w' c_7 s_8
      refine rl_ic rfl ?_
      show Zr sc 149 155 [zp a0, zj x1, zj x2, zj x3, v4, v5] [zj 0] w_24 ov w' c_7 s_8
      obtain ⟨h1, h2, h3, h4⟩ := h
      subst h1; subst h2; subst h3; subst h4
      exact Zr_ret (ins := .ireturn) rfl rfl
    · replace h := h.2 hp
      show Zr sc 149 150 [zp a0, zj x1, zj x2, zj x3, v4, v5] [] w_24 ov w' c_7 s_8
      exact h
set_option maxRecDepth 100000 in
theorem V149_150 {sc : List Value} {w w' : List zE} {ov : Option Value} {c s : Nat} {a0 : Nat} {x1 : Int} {x2 : Int} {x3 : Int} {v4 : Value} {v5 : Value} (h : (ov = some (zj 1) ∧ w' = w ∧ c = 0 ∧ s = 0)) : Zr sc 149 150 [zp a0, zj x1, zj x2, zj x3, v4, v5] [] w ov w' c s := by
  refine rl_ic rfl ?_
  show Zr sc 149 151 [zp a0, zj x1, zj x2, zj x3, v4, v5] [zj 1] w ov w' c s
  refine Zr_st (q := (155, [zp a0, zj x1, zj x2, zj x3, v4, v5], [zj 1])) rfl rfl rfl ?_
  show Zr sc 149 155 [zp a0, zj x1, zj x2, zj x3, v4, v5] [zj 1] w ov w' c s
  obtain ⟨h1, h2, h3, h4⟩ := h
  subst h1; subst h2; subst h3; subst h4
  exact Zr_ret (ins := .ireturn) rfl rfl

-- HeapwrightLab.together()I
set_option maxRecDepth 100000 in
theorem V150_0 {sc : List Value} {w w' : List zE} {ov : Option Value} {c s : Nat} {a0 : Nat} {wy : Int} (L0 : w[a0]? = some (zob 6 [zp (a0 + 1), zp (a0 + 5), zp (a0 + 16), zp (a0 + 27), zp (a0 + 38), zp (a0 + 49), zp (a0 + 60), zj wy])) (h : ((zrg wy ∧ zrg 4) ∧ ((wy = 4 → False) ∧ (¬ (wy = 4) → ((zrg wy ∧ zrg 5) ∧ ((wy ≠ 5 → ((Zc sc 135 [zp a0] w none w 0 0) ∧ (∃ p_7 : Nat, Zc sc 1 [zp a0] w (some (zp p_7)) w 0 0 ∧ (∃ cn_8 : Nat, ∃ fs_9 : List Value, w[p_7]? = some (zob cn_8 fs_9) ∧ (cn_8 = 1 ∨ cn_8 = 2 ∨ cn_8 = 4) ∧ (∃ r_16 : Int, Zc sc 34 [zp p_7, zj 3] w (some (zj r_16)) w 0 0 ∧ (∃ p_19 : Nat, Zc sc 1 [zp a0] w (some (zp p_19)) w 0 0 ∧ (∃ fs_21 : List Value, w[(a0 + 1)]? = some (zob 5 fs_21) ∧ (∃ p_24 : Nat, ∃ w_22 : List zE, Zc sc 136 [zp (a0 + 1), zj 3, zj 0, zj 0] w (some (zp p_24)) w_22 0 0 ∧ (∃ cn_25 : Nat, ∃ fs_26 : List Value, w_22[p_19]? = some (zob cn_25 fs_26) ∧ (cn_25 = 1 ∨ cn_25 = 2 ∨ cn_25 = 4) ∧ (∃ p_33 : Nat, ∃ w_31 : List zE, Zc sc 57 [zp p_19, zp p_24] w_22 (some (zp p_33)) w_31 0 0 ∧ (∃ cn_34 : Nat, ∃ fs_35 : List Value, w_31[p_33]? = some (zob cn_34 fs_35) ∧ (cn_34 = 1 ∨ cn_34 = 2 ∨ cn_34 = 4) ∧ (∃ r_42 : Int, Zc sc 34 [zp p_33, zj 3] w_31 (some (zj r_42)) w_31 0 0 ∧ (ov = some (zj (r_42 - r_16)) ∧ w' = w_31 ∧ c = 0 ∧ s = 0))))))))))))) ∧ (¬ (wy ≠ 5) → False))))))) : Zr sc 150 0 [zp a0, zmk] [] w ov w' c s := by
  refine Zr_st (q := (1, [zp a0, zmk], [zp a0])) rfl rfl rfl ?_
  show Zr sc 150 1 [zp a0, zmk] [zp a0] w ov w' c s
  refine rl_gf rfl L0 rfl rfl ?_
  show Zr sc 150 4 [zp a0, zmk] [zj wy] w ov w' c s
  refine rl_ic rfl ?_
  show Zr sc 150 5 [zp a0, zmk] [zj 4, zj wy] w ov w' c s
  obtain ⟨hr_1, h⟩ := h
  refine Zr_br (p := wy = 4) rfl rfl (zcmp_j (cnd := .eq) hr_1.1 hr_1.2) (fun hp => ?_) (fun hp => ?_)
  · replace h := h.1 hp
    show Zr sc 150 16 [zp a0, zmk] [] w ov w' c s
    exact h.elim
  · replace h := h.2 hp
    show Zr sc 150 8 [zp a0, zmk] [] w ov w' c s
    refine Zr_st (q := (9, [zp a0, zmk], [zp a0])) rfl rfl rfl ?_
    show Zr sc 150 9 [zp a0, zmk] [zp a0] w ov w' c s
    refine rl_gf rfl L0 rfl rfl ?_
    show Zr sc 150 12 [zp a0, zmk] [zj wy] w ov w' c s
    refine rl_ic rfl ?_
    show Zr sc 150 13 [zp a0, zmk] [zj 5, zj wy] w ov w' c s
    obtain ⟨hr_2, h⟩ := h
    refine Zr_br (p := wy ≠ 5) rfl rfl (zcmp_j (cnd := .ne) hr_2.1 hr_2.2) (fun hp => ?_) (fun hp => ?_)
    · replace h := h.1 hp
      show Zr sc 150 26 [zp a0, zmk] [] w ov w' c s
      refine Zr_st (q := (27, [zp a0, zmk], [zp a0])) rfl rfl rfl ?_
      show Zr sc 150 27 [zp a0, zmk] [zp a0] w ov w' c s
      obtain ⟨hk_9, h⟩ := h
      refine rn_cal0 (ins := .invokevirtual 96) (rest := []) rfl rfl rfl rfl (zinv_v (fs := _) L0 rfl rfl rfl rfl) rfl rfl hk_9 ?_
      show Zr sc 150 30 [zp a0, zmk] [] w ov w' c s
      refine Zr_st (q := (31, [zp a0, zmk], [zp a0])) rfl rfl rfl ?_
      show Zr sc 150 31 [zp a0, zmk] [zp a0] w ov w' c s
      obtain ⟨p_7, hk_9, h⟩ := h
      refine rn_cal0 (ins := .invokevirtual 83) (rest := []) rfl rfl rfl rfl (zinv_v (fs := _) L0 rfl rfl rfl rfl) rfl rfl hk_9 ?_
      show Zr sc 150 34 [zp a0, zmk] [zp p_7] w ov w' c s
      refine rl_ic rfl ?_
      show Zr sc 150 35 [zp a0, zmk] [zj 3, zp p_7] w ov w' c s
      obtain ⟨cn_8, fs_9, hw_10, hcn_11, h⟩ := h
      have hz_12 : ∃ kd, zinv 150 (.invokevirtual 128) [zj 3, zp p_7] (false, w) = some (kd, 34, [zp p_7, zj 3], []) ∧ decide (kd < 6) = true := by rcases hcn_11 with rfl | rfl | rfl <;> exact zinv_u hw_10 rfl rfl rfl rfl rfl rfl rfl
      obtain ⟨kd_13, hz_12⟩ := hz_12
      obtain ⟨r_16, hk_9, h⟩ := h
      refine rn_cal0 (ins := .invokevirtual 128) (rest := []) rfl rfl rfl rfl hz_12.1 rfl hz_12.2 hk_9 ?_
      show Zr sc 150 38 [zp a0, zmk] [zj r_16] w ov w' c s
      refine Zr_st (q := (39, [zp a0, zj r_16], [])) rfl rfl rfl ?_
      show Zr sc 150 39 [zp a0, zj r_16] [] w ov w' c s
      refine Zr_st (q := (40, [zp a0, zj r_16], [zp a0])) rfl rfl rfl ?_
      show Zr sc 150 40 [zp a0, zj r_16] [zp a0] w ov w' c s
      obtain ⟨p_19, hk_9, h⟩ := h
      refine rn_cal0 (ins := .invokevirtual 83) (rest := []) rfl rfl rfl rfl (zinv_v (fs := _) L0 rfl rfl rfl rfl) rfl rfl hk_9 ?_
      show Zr sc 150 43 [zp a0, zj r_16] [zp p_19] w ov w' c s
      refine Zr_st (q := (44, [zp a0, zj r_16], [zp a0, zp p_19])) rfl rfl rfl ?_
      show Zr sc 150 44 [zp a0, zj r_16] [zp a0, zp p_19] w ov w' c s
      refine rl_gf rfl L0 rfl rfl ?_
      show Zr sc 150 47 [zp a0, zj r_16] [zp (a0 + 1), zp p_19] w ov w' c s
      refine rl_ic rfl ?_
      show Zr sc 150 48 [zp a0, zj r_16] [zj 3, zp (a0 + 1), zp p_19] w ov w' c s
      refine rl_ic rfl ?_
      show Zr sc 150 49 [zp a0, zj r_16] [zj 0, zj 3, zp (a0 + 1), zp p_19] w ov w' c s
      refine rl_ic rfl ?_
      show Zr sc 150 50 [zp a0, zj r_16] [zj 0, zj 0, zj 3, zp (a0 + 1), zp p_19] w ov w' c s
      obtain ⟨fs_21, hl_20, h⟩ := h
      obtain ⟨p_24, w_22, hk_23, h⟩ := h
      refine rn_cal0 (ins := .invokevirtual 99) (rest := [zp p_19]) rfl rfl rfl rfl (zinv_v (fs := _) hl_20 rfl rfl rfl rfl) rfl rfl hk_23 ?_
      show Zr sc 150 53 [zp a0, zj r_16] [zp p_24, zp p_19] w_22 ov w' c s
      obtain ⟨cn_25, fs_26, hw_27, hcn_28, h⟩ := h
      have hz_29 : ∃ kd, zinv 150 (.invokevirtual 103) [zp p_24, zp p_19] (false, w_22) = some (kd, 57, [zp p_19, zp p_24], []) ∧ decide (kd < 6) = true := by rcases hcn_28 with rfl | rfl | rfl <;> exact zinv_u hw_27 rfl rfl rfl rfl rfl rfl rfl
      obtain ⟨kd_30, hz_29⟩ := hz_29
      obtain ⟨p_33, w_31, hk_32, h⟩ := h
      refine rn_cal0 (ins := .invokevirtual 103) (rest := []) rfl rfl rfl rfl hz_29.1 rfl hz_29.2 hk_32 ?_
      show Zr sc 150 56 [zp a0, zj r_16] [zp p_33] w_31 ov w' c s
      refine rl_ic rfl ?_
      show Zr sc 150 57 [zp a0, zj r_16] [zj 3, zp p_33] w_31 ov w' c s
      obtain ⟨cn_34, fs_35, hw_36, hcn_37, h⟩ := h
      have hz_38 : ∃ kd, zinv 150 (.invokevirtual 128) [zj 3, zp p_33] (false, w_31) = some (kd, 34, [zp p_33, zj 3], []) ∧ decide (kd < 6) = true := by rcases hcn_37 with rfl | rfl | rfl <;> exact zinv_u hw_36 rfl rfl rfl rfl rfl rfl rfl
      obtain ⟨kd_39, hz_38⟩ := hz_38
      obtain ⟨r_42, hk_9, h⟩ := h
      refine rn_cal0 (ins := .invokevirtual 128) (rest := []) rfl rfl rfl rfl hz_38.1 rfl hz_38.2 hk_9 ?_
      show Zr sc 150 60 [zp a0, zj r_16] [zj r_42] w_31 ov w' c s
      refine Zr_st (q := (61, [zp a0, zj r_16], [zj r_16, zj r_42])) rfl rfl rfl ?_
      show Zr sc 150 61 [zp a0, zj r_16] [zj r_16, zj r_42] w_31 ov w' c s
      refine rl_sub rfl ?_
      show Zr sc 150 62 [zp a0, zj r_16] [zj (r_42 - r_16)] w_31 ov w' c s
      obtain ⟨h1, h2, h3, h4⟩ := h
      subst h1; subst h2; subst h3; subst h4
      exact Zr_ret (ins := .ireturn) rfl rfl
    · replace h := h.2 hp
      show Zr sc 150 16 [zp a0, zmk] [] w ov w' c s
      exact h.elim

-- HeapwrightLabLaw.law([I)Z
set_option maxRecDepth 100000 in
theorem V151_0 {sc : List Value} {w w' : List zE} {ov : Option Value} {c s : Nat} (h : Zr sc 151 2 [.ref 0, zj 0, zmk, zmk, zmk, zmk, zmk, zmk, zmk, zmk, zmk, zmk, zmk, zmk, zmk, zmk, zmk, zmk, zmk, zmk] [] w ov w' c s) : Zr sc 151 0 [.ref 0, zmk, zmk, zmk, zmk, zmk, zmk, zmk, zmk, zmk, zmk, zmk, zmk, zmk, zmk, zmk, zmk, zmk, zmk, zmk] [] w ov w' c s := by
  refine rl_ic rfl ?_
  show Zr sc 151 1 [.ref 0, zmk, zmk, zmk, zmk, zmk, zmk, zmk, zmk, zmk, zmk, zmk, zmk, zmk, zmk, zmk, zmk, zmk, zmk, zmk] [zj 0] w ov w' c s
  refine Zr_st (q := (2, [.ref 0, zj 0, zmk, zmk, zmk, zmk, zmk, zmk, zmk, zmk, zmk, zmk, zmk, zmk, zmk, zmk, zmk, zmk, zmk, zmk], [])) rfl rfl rfl ?_
  show Zr sc 151 2 [.ref 0, zj 0, zmk, zmk, zmk, zmk, zmk, zmk, zmk, zmk, zmk, zmk, zmk, zmk, zmk, zmk, zmk, zmk, zmk, zmk] [] w ov w' c s
  exact h
set_option maxRecDepth 100000 in
theorem V151_2 {sc : List Value} {w w' : List zE} {ov : Option Value} {c s : Nat} {x1 : Int} {v2 : Value} {v3 : Value} {v4 : Value} {v5 : Value} {v6 : Value} {v7 : Value} {v8 : Value} {v9 : Value} {v10 : Value} {v11 : Value} {v12 : Value} {v13 : Value} {v14 : Value} {v15 : Value} {v16 : Value} {v17 : Value} {v18 : Value} {v19 : Value} (h : ((zrg x1 ∧ zrg 3) ∧ ((3 ≤ x1 → (ov = some (zj 1) ∧ w' = w ∧ c = 0 ∧ s = 0)) ∧ (¬ (3 ≤ x1) → (∃ p_2 : Nat, p_2 = w.length ∧ (∃ c_4 s_5 : Nat, (c = 1 + c_4 ∧ s = 17 + s_5) ∧ (∃ w_7 : List zE, ∃ c_9 s_10 c_11 s_12 : Nat, Zc sc 105 [zp p_2, .ref 0, zj ((31 * x1) + 7)] (w ++ [zob 7 [.null, .null, zj 0, zj 0, zj 0, zj 0, .null, zj 0, .null, .null, .null, zj 0, zj 0, .null, zj 0, .null, zj 0]]) none w_7 c_9 s_10 ∧ (c_4 = c_9 + c_11 ∧ s_5 = s_10 + s_12) ∧ (∃ f0_15 : Nat, ∃ f2_17 : Int, ∃ f3_18 : Int, ∃ f4_19 : Int, ∃ f5_20 : Int, ∃ f6_21 : Nat, ∃ f7_22 : Int, ∃ f8_23 : Nat, ∃ f9_24 : Nat, ∃ f10_25 : Nat, ∃ f11_26 : Int, ∃ f12_27 : Int, ∃ f13_28 : Nat, ∃ f14_29 : Int, ∃ f15_30 : Nat, ∃ f16_31 : Int, w_7[p_2]? = some (zob 7 [zp f0_15, .ref 0, zj f2_17, zj f3_18, zj f4_19, zj f5_20, zp f6_21, zj f7_22, zp f8_23, zp f9_24, zp f10_25, zj f11_26, zj f12_27, zp f13_28, zj f14_29, zp f15_30, zj f16_31]) ∧ (∃ r_34 : Int, ∃ w_32 : List zE, Zc sc 115 [zp p_2, zj 6] w_7 (some (zj r_34)) w_32 0 0 ∧ (∃ fs_36 : List Value, w_32[p_2]? = some (zob 7 fs_36) ∧ (∃ r_39 : Int, ∃ w_37 : List zE, Zc sc 118 [zp p_2, zj r_34] w_32 (some (zj r_39)) w_37 0 0 ∧ ((zrg r_39) ∧ ((r_39 ≠ 0 → (((0 : Int) ≤ 5 ∧ 5 ≤ (60000 : Int)) ∧ (∃ p_41 : Nat, p_41 = w_37.length ∧ (∃ c_43 s_44 : Nat, (c_11 = 1 + c_43 ∧ s_12 = (5 : Int).toNat + s_44) ∧ Zr sc 151 51 [.ref 0, zj x1, zp p_2, zp f0_15, zp p_41, zj 0, v6, v7, v8, v9, v10, v11, v12, v13, v14, v15, v16, v17, v18, v19] [] (w_37 ++ [za (List.replicate (5 : Int).toNat (0 : Int))]) ov w' c_43 s_44)))) ∧ (¬ (r_39 ≠ 0) → (ov = some (zj 0) ∧ w' = w_37 ∧ c_11 = 0 ∧ s_12 = 0))))))))))))))) : Zr sc 151 2 [.ref 0, zj x1, v2, v3, v4, v5, v6, v7, v8, v9, v10, v11, v12, v13, v14, v15, v16, v17, v18, v19] [] w ov w' c s := by
  refine Zr_st (q := (3, [.ref 0, zj x1, v2, v3, v4, v5, v6, v7, v8, v9, v10, v11, v12, v13, v14, v15, v16, v17, v18, v19], [zj x1])) rfl rfl rfl ?_
  show Zr sc 151 3 [.ref 0, zj x1, v2, v3, v4, v5, v6, v7, v8, v9, v10, v11, v12, v13, v14, v15, v16, v17, v18, v19] [zj x1] w ov w' c s
  refine rl_ic rfl ?_
  show Zr sc 151 4 [.ref 0, zj x1, v2, v3, v4, v5, v6, v7, v8, v9, v10, v11, v12, v13, v14, v15, v16, v17, v18, v19] [zj 3, zj x1] w ov w' c s
  obtain ⟨hr_1, h⟩ := h
  refine Zr_br (p := 3 ≤ x1) rfl rfl (zcmp_j (cnd := .ge) hr_1.1 hr_1.2) (fun hp => ?_) (fun hp => ?_)
  · replace h := h.1 hp
    show Zr sc 151 888 [.ref 0, zj x1, v2, v3, v4, v5, v6, v7, v8, v9, v10, v11, v12, v13, v14, v15, v16, v17, v18, v19] [] w ov w' c s
    refine rl_ic rfl ?_
    show Zr sc 151 889 [.ref 0, zj x1, v2, v3, v4, v5, v6, v7, v8, v9, v10, v11, v12, v13, v14, v15, v16, v17, v18, v19] [zj 1] w ov w' c s
    obtain ⟨h1, h2, h3, h4⟩ := h
    subst h1; subst h2; subst h3; subst h4
    exact Zr_ret (ins := .ireturn) rfl rfl
  · replace h := h.2 hp
    show Zr sc 151 7 [.ref 0, zj x1, v2, v3, v4, v5, v6, v7, v8, v9, v10, v11, v12, v13, v14, v15, v16, v17, v18, v19] [] w ov w' c s
    obtain ⟨p_2, hp_3, h⟩ := h
    obtain ⟨c_4, s_5, hc_6, h⟩ := h
    refine rn_new (X := zob 7 [.null, .null, zj 0, zj 0, zj 0, zj 0, .null, zj 0, .null, .null, .null, zj 0, zj 0, .null, zj 0, .null, zj 0]) rfl rfl hp_3 rfl hc_6.1 hc_6.2 ?_
    show Zr sc 151 10 [.ref 0, zj x1, v2, v3, v4, v5, v6, v7, v8, v9, v10, v11, v12, v13, v14, v15, v16, v17, v18, v19] [zp p_2] (w ++ [zob 7 [.null, .null, zj 0, zj 0, zj 0, zj 0, .null, zj 0, .null, .null, .null, zj 0, zj 0, .null, zj 0, .null, zj 0]]) ov w' c_4 s_5
    refine Zr_st (q := (11, [.ref 0, zj x1, v2, v3, v4, v5, v6, v7, v8, v9, v10, v11, v12, v13, v14, v15, v16, v17, v18, v19], [zp p_2, zp p_2])) rfl rfl rfl ?_
    show Zr sc 151 11 [.ref 0, zj x1, v2, v3, v4, v5, v6, v7, v8, v9, v10, v11, v12, v13, v14, v15, v16, v17, v18, v19] [zp p_2, zp p_2] (w ++ [zob 7 [.null, .null, zj 0, zj 0, zj 0, zj 0, .null, zj 0, .null, .null, .null, zj 0, zj 0, .null, zj 0, .null, zj 0]]) ov w' c_4 s_5
    refine Zr_st (q := (12, [.ref 0, zj x1, v2, v3, v4, v5, v6, v7, v8, v9, v10, v11, v12, v13, v14, v15, v16, v17, v18, v19], [.ref 0, zp p_2, zp p_2])) rfl rfl rfl ?_
    show Zr sc 151 12 [.ref 0, zj x1, v2, v3, v4, v5, v6, v7, v8, v9, v10, v11, v12, v13, v14, v15, v16, v17, v18, v19] [.ref 0, zp p_2, zp p_2] (w ++ [zob 7 [.null, .null, zj 0, zj 0, zj 0, zj 0, .null, zj 0, .null, .null, .null, zj 0, zj 0, .null, zj 0, .null, zj 0]]) ov w' c_4 s_5
    refine rl_bi rfl (by decide) ?_
    show Zr sc 151 14 [.ref 0, zj x1, v2, v3, v4, v5, v6, v7, v8, v9, v10, v11, v12, v13, v14, v15, v16, v17, v18, v19] [zj 31, .ref 0, zp p_2, zp p_2] (w ++ [zob 7 [.null, .null, zj 0, zj 0, zj 0, zj 0, .null, zj 0, .null, .null, .null, zj 0, zj 0, .null, zj 0, .null, zj 0]]) ov w' c_4 s_5
    refine Zr_st (q := (15, [.ref 0, zj x1, v2, v3, v4, v5, v6, v7, v8, v9, v10, v11, v12, v13, v14, v15, v16, v17, v18, v19], [zj x1, zj 31, .ref 0, zp p_2, zp p_2])) rfl rfl rfl ?_
    show Zr sc 151 15 [.ref 0, zj x1, v2, v3, v4, v5, v6, v7, v8, v9, v10, v11, v12, v13, v14, v15, v16, v17, v18, v19] [zj x1, zj 31, .ref 0, zp p_2, zp p_2] (w ++ [zob 7 [.null, .null, zj 0, zj 0, zj 0, zj 0, .null, zj 0, .null, .null, .null, zj 0, zj 0, .null, zj 0, .null, zj 0]]) ov w' c_4 s_5
    refine rl_mul rfl ?_
    show Zr sc 151 16 [.ref 0, zj x1, v2, v3, v4, v5, v6, v7, v8, v9, v10, v11, v12, v13, v14, v15, v16, v17, v18, v19] [zj (31 * x1), .ref 0, zp p_2, zp p_2] (w ++ [zob 7 [.null, .null, zj 0, zj 0, zj 0, zj 0, .null, zj 0, .null, .null, .null, zj 0, zj 0, .null, zj 0, .null, zj 0]]) ov w' c_4 s_5
    refine rl_bi rfl (by decide) ?_
    show Zr sc 151 18 [.ref 0, zj x1, v2, v3, v4, v5, v6, v7, v8, v9, v10, v11, v12, v13, v14, v15, v16, v17, v18, v19] [zj 7, zj (31 * x1), .ref 0, zp p_2, zp p_2] (w ++ [zob 7 [.null, .null, zj 0, zj 0, zj 0, zj 0, .null, zj 0, .null, .null, .null, zj 0, zj 0, .null, zj 0, .null, zj 0]]) ov w' c_4 s_5
    refine rl_add rfl ?_
    show Zr sc 151 19 [.ref 0, zj x1, v2, v3, v4, v5, v6, v7, v8, v9, v10, v11, v12, v13, v14, v15, v16, v17, v18, v19] [zj ((31 * x1) + 7), .ref 0, zp p_2, zp p_2] (w ++ [zob 7 [.null, .null, zj 0, zj 0, zj 0, zj 0, .null, zj 0, .null, .null, .null, zj 0, zj 0, .null, zj 0, .null, zj 0]]) ov w' c_4 s_5
    obtain ⟨w_7, c_9, s_10, c_11, s_12, hk_8, hc_13, h⟩ := h
    refine rl_cal (ins := .invokespecial 11) (rest := [zp p_2]) rfl rfl rfl rfl (zinv_s rfl rfl rfl rfl) rfl rfl hk_8 ?_ hc_13.1 hc_13.2
    show Zr sc 151 22 [.ref 0, zj x1, v2, v3, v4, v5, v6, v7, v8, v9, v10, v11, v12, v13, v14, v15, v16, v17, v18, v19] [zp p_2] w_7 ov w' c_11 s_12
    refine Zr_st (q := (23, [.ref 0, zj x1, zp p_2, v3, v4, v5, v6, v7, v8, v9, v10, v11, v12, v13, v14, v15, v16, v17, v18, v19], [])) rfl rfl rfl ?_
    show Zr sc 151 23 [.ref 0, zj x1, zp p_2, v3, v4, v5, v6, v7, v8, v9, v10, v11, v12, v13, v14, v15, v16, v17, v18, v19] [] w_7 ov w' c_11 s_12
    refine Zr_st (q := (24, [.ref 0, zj x1, zp p_2, v3, v4, v5, v6, v7, v8, v9, v10, v11, v12, v13, v14, v15, v16, v17, v18, v19], [zp p_2])) rfl rfl rfl ?_
    show Zr sc 151 24 [.ref 0, zj x1, zp p_2, v3, v4, v5, v6, v7, v8, v9, v10, v11, v12, v13, v14, v15, v16, v17, v18, v19] [zp p_2] w_7 ov w' c_11 s_12
    obtain ⟨f0_15, f2_17, f3_18, f4_19, f5_20, f6_21, f7_22, f8_23, f9_24, f10_25, f11_26, f12_27, f13_28, f14_29, f15_30, f16_31, hw_14, h⟩ := h
    refine rl_gf rfl hw_14 rfl rfl ?_
    show Zr sc 151 27 [.ref 0, zj x1, zp p_2, v3, v4, v5, v6, v7, v8, v9, v10, v11, v12, v13, v14, v15, v16, v17, v18, v19] [zp f0_15] w_7 ov w' c_11 s_12
    refine Zr_st (q := (28, [.ref 0, zj x1, zp p_2, zp f0_15, v4, v5, v6, v7, v8, v9, v10, v11, v12, v13, v14, v15, v16, v17, v18, v19], [])) rfl rfl rfl ?_
    show Zr sc 151 28 [.ref 0, zj x1, zp p_2, zp f0_15, v4, v5, v6, v7, v8, v9, v10, v11, v12, v13, v14, v15, v16, v17, v18, v19] [] w_7 ov w' c_11 s_12
    refine Zr_st (q := (29, [.ref 0, zj x1, zp p_2, zp f0_15, v4, v5, v6, v7, v8, v9, v10, v11, v12, v13, v14, v15, v16, v17, v18, v19], [zp p_2])) rfl rfl rfl ?_
    show Zr sc 151 29 [.ref 0, zj x1, zp p_2, zp f0_15, v4, v5, v6, v7, v8, v9, v10, v11, v12, v13, v14, v15, v16, v17, v18, v19] [zp p_2] w_7 ov w' c_11 s_12
    refine Zr_st (q := (30, [.ref 0, zj x1, zp p_2, zp f0_15, v4, v5, v6, v7, v8, v9, v10, v11, v12, v13, v14, v15, v16, v17, v18, v19], [zp p_2, zp p_2])) rfl rfl rfl ?_
    show Zr sc 151 30 [.ref 0, zj x1, zp p_2, zp f0_15, v4, v5, v6, v7, v8, v9, v10, v11, v12, v13, v14, v15, v16, v17, v18, v19] [zp p_2, zp p_2] w_7 ov w' c_11 s_12
    refine rl_bi rfl (by decide) ?_
    show Zr sc 151 32 [.ref 0, zj x1, zp p_2, zp f0_15, v4, v5, v6, v7, v8, v9, v10, v11, v12, v13, v14, v15, v16, v17, v18, v19] [zj 6, zp p_2, zp p_2] w_7 ov w' c_11 s_12
    obtain ⟨r_34, w_32, hk_33, h⟩ := h
    refine rn_cal0 (ins := .invokevirtual 18) (rest := [zp p_2]) rfl rfl rfl rfl (zinv_v (fs := _) hw_14 rfl rfl rfl rfl) rfl rfl hk_33 ?_
    show Zr sc 151 35 [.ref 0, zj x1, zp p_2, zp f0_15, v4, v5, v6, v7, v8, v9, v10, v11, v12, v13, v14, v15, v16, v17, v18, v19] [zj r_34, zp p_2] w_32 ov w' c_11 s_12
    obtain ⟨fs_36, hl_35, h⟩ := h
    obtain ⟨r_39, w_37, hk_38, h⟩ := h
    refine rn_cal0 (ins := .invokevirtual 22) (rest := []) rfl rfl rfl rfl (zinv_v (fs := _) hl_35 rfl rfl rfl rfl) rfl rfl hk_38 ?_
    show Zr sc 151 38 [.ref 0, zj x1, zp p_2, zp f0_15, v4, v5, v6, v7, v8, v9, v10, v11, v12, v13, v14, v15, v16, v17, v18, v19] [zj r_39] w_37 ov w' c_11 s_12
    obtain ⟨hr_40, h⟩ := h
    refine Zr_b0 (p := r_39 ≠ 0) rfl rfl (zcmp_0 (cnd := .ne) hr_40) (fun hp => ?_) (fun hp => ?_)
    · replace h := h.1 hp
      show Zr sc 151 43 [.ref 0, zj x1, zp p_2, zp f0_15, v4, v5, v6, v7, v8, v9, v10, v11, v12, v13, v14, v15, v16, v17, v18, v19] [] w_37 ov w' c_11 s_12
      refine rl_ic rfl ?_
      show Zr sc 151 44 [.ref 0, zj x1, zp p_2, zp f0_15, v4, v5, v6, v7, v8, v9, v10, v11, v12, v13, v14, v15, v16, v17, v18, v19] [zj 5] w_37 ov w' c_11 s_12
      obtain ⟨hx_46, h⟩ := h
      obtain ⟨p_41, hp_42, h⟩ := h
      obtain ⟨c_43, s_44, hc_45, h⟩ := h
      refine rn_na rfl hx_46.1 hx_46.2 hp_42 hc_45.1 hc_45.2 ?_
      show Zr sc 151 46 [.ref 0, zj x1, zp p_2, zp f0_15, v4, v5, v6, v7, v8, v9, v10, v11, v12, v13, v14, v15, v16, v17, v18, v19] [zp p_41] (w_37 ++ [za (List.replicate (5 : Int).toNat (0 : Int))]) ov w' c_43 s_44
      refine Zr_st (q := (48, [.ref 0, zj x1, zp p_2, zp f0_15, zp p_41, v5, v6, v7, v8, v9, v10, v11, v12, v13, v14, v15, v16, v17, v18, v19], [])) rfl rfl rfl ?_
      show Zr sc 151 48 [.ref 0, zj x1, zp p_2, zp f0_15, zp p_41, v5, v6, v7, v8, v9, v10, v11, v12, v13, v14, v15, v16, v17, v18, v19] [] (w_37 ++ [za (List.replicate (5 : Int).toNat (0 : Int))]) ov w' c_43 s_44
      refine rl_ic rfl ?_
      show Zr sc 151 49 [.ref 0, zj x1, zp p_2, zp f0_15, zp p_41, v5, v6, v7, v8, v9, v10, v11, v12, v13, v14, v15, v16, v17, v18, v19] [zj 0] (w_37 ++ [za (List.replicate (5 : Int).toNat (0 : Int))]) ov w' c_43 s_44
      refine Zr_st (q := (51, [.ref 0, zj x1, zp p_2, zp f0_15, zp p_41, zj 0, v6, v7, v8, v9, v10, v11, v12, v13, v14, v15, v16, v17, v18, v19], [])) rfl rfl rfl ?_
      show Zr sc 151 51 [.ref 0, zj x1, zp p_2, zp f0_15, zp p_41, zj 0, v6, v7, v8, v9, v10, v11, v12, v13, v14, v15, v16, v17, v18, v19] [] (w_37 ++ [za (List.replicate (5 : Int).toNat (0 : Int))]) ov w' c_43 s_44
      exact h
    · replace h := h.2 hp
      show Zr sc 151 41 [.ref 0, zj x1, zp p_2, zp f0_15, v4, v5, v6, v7, v8, v9, v10, v11, v12, v13, v14, v15, v16, v17, v18, v19] [] w_37 ov w' c_11 s_12
      refine rl_ic rfl ?_
      show Zr sc 151 42 [.ref 0, zj x1, zp p_2, zp f0_15, v4, v5, v6, v7, v8, v9, v10, v11, v12, v13, v14, v15, v16, v17, v18, v19] [zj 0] w_37 ov w' c_11 s_12
      obtain ⟨h1, h2, h3, h4⟩ := h
      subst h1; subst h2; subst h3; subst h4
      exact Zr_ret (ins := .ireturn) rfl rfl
set_option maxRecDepth 100000 in
theorem V151_51 {sc : List Value} {w w' : List zE} {ov : Option Value} {c s : Nat} {x1 : Int} {a2 : Nat} {a3 : Nat} {a4 : Nat} {x5 : Int} {v6 : Value} {v7 : Value} {v8 : Value} {v9 : Value} {v10 : Value} {v11 : Value} {v12 : Value} {v13 : Value} {v14 : Value} {v15 : Value} {v16 : Value} {v17 : Value} {v18 : Value} {v19 : Value} {dr : Int} {wy : Int} {st : Int} {hd : Int} {nm : Int} {ar : Int} {hn : Int} {pk : Int} {D : Nat} {tl : Int} (L0a2 : w[a2]? = some (zob 7 [zp (a2 + 1), .ref 0, zj dr, zj wy, zj st, zj hd, zp (a2 + 73), zj nm, zp (a2 + 74), zp (a2 + 75), zp (a2 + 76), zj ar, zj hn, zp (a2 + 77), zj pk, zp D, zj tl])) (h : ((zrg x5 ∧ zrg 14) ∧ ((14 ≤ x5 → Zr sc 151 2 [.ref 0, zj (x1 + 1), zp a2, zp a3, zp a4, zj x5, v6, v7, v8, v9, v10, v11, v12, v13, v14, v15, v16, v17, v18, v19] [] w ov w' c s) ∧ (¬ (14 ≤ x5) → (((0 : Int) ≤ x5 ∧ x5 ≤ (2147483647 : Int) ∧ (0 : Int) < 3 ∧ 3 ≤ (2147483647 : Int)) ∧ ((zrg (x5 % 3)) ∧ (((x5 % 3) ≠ 0 → (∃ r_6 : Int, ∃ w_4 : List zE, ∃ c_7 s_8 c_9 s_10 : Nat, Zc sc 137 [zp a2, zj 100] w (some (zj r_6)) w_4 c_7 s_8 ∧ (c = c_7 + c_9 ∧ s = s_8 + s_10) ∧ ((zrg r_6) ∧ ((r_6 ≠ 0 → (((0 : Int) ≤ 1024 ∧ 1024 ≤ (60000 : Int)) ∧ (∃ p_13 : Nat, p_13 = w_4.length ∧ (∃ c_15 s_16 : Nat, (c_9 = 1 + c_15 ∧ s_10 = (1024 : Int).toNat + s_16) ∧ Zr sc 151 101 [.ref 0, zj x1, zp a2, zp a3, zp a4, zj x5, zp p_13, zj 0, zj 0, zj 0, zj 0, v11, v12, v13, v14, v15, v16, v17, v18, v19] [] (w_4 ++ [za (List.replicate (1024 : Int).toNat (0 : Int))]) ov w' c_15 s_16)))) ∧ (¬ (r_6 ≠ 0) → (ov = some (zj 0) ∧ w' = w_4 ∧ c_9 = 0 ∧ s_10 = 0)))))) ∧ (¬ ((x5 % 3) ≠ 0) → (∃ r_21 : Int, ∃ w_19 : List zE, ∃ c_22 s_23 c_24 s_25 : Nat, Zc sc 137 [zp a2, zj 300] w (some (zj r_21)) w_19 c_22 s_23 ∧ (c = c_22 + c_24 ∧ s = s_23 + s_25) ∧ ((zrg r_21) ∧ ((r_21 ≠ 0 → (((0 : Int) ≤ 1024 ∧ 1024 ≤ (60000 : Int)) ∧ (∃ p_28 : Nat, p_28 = w_19.length ∧ (∃ c_30 s_31 : Nat, (c_24 = 1 + c_30 ∧ s_25 = (1024 : Int).toNat + s_31) ∧ Zr sc 151 101 [.ref 0, zj x1, zp a2, zp a3, zp a4, zj x5, zp p_28, zj 0, zj 0, zj 0, zj 0, v11, v12, v13, v14, v15, v16, v17, v18, v19] [] (w_19 ++ [za (List.replicate (1024 : Int).toNat (0 : Int))]) ov w' c_30 s_31)))) ∧ (¬ (r_21 ≠ 0) → (ov = some (zj 0) ∧ w' = w_19 ∧ c_24 = 0 ∧ s_25 = 0))))))))))))) : Zr sc 151 51 [.ref 0, zj x1, zp a2, zp a3, zp a4, zj x5, v6, v7, v8, v9, v10, v11, v12, v13, v14, v15, v16, v17, v18, v19] [] w ov w' c s := by
  refine Zr_st (q := (53, [.ref 0, zj x1, zp a2, zp a3, zp a4, zj x5, v6, v7, v8, v9, v10, v11, v12, v13, v14, v15, v16, v17, v18, v19], [zj x5])) rfl rfl rfl ?_
  show Zr sc 151 53 [.ref 0, zj x1, zp a2, zp a3, zp a4, zj x5, v6, v7, v8, v9, v10, v11, v12, v13, v14, v15, v16, v17, v18, v19] [zj x5] w ov w' c s
  refine rl_bi rfl (by decide) ?_
  show Zr sc 151 55 [.ref 0, zj x1, zp a2, zp a3, zp a4, zj x5, v6, v7, v8, v9, v10, v11, v12, v13, v14, v15, v16, v17, v18, v19] [zj 14, zj x5] w ov w' c s
  obtain ⟨hr_1, h⟩ := h
  refine Zr_br (p := 14 ≤ x5) rfl rfl (zcmp_j (cnd := .ge) hr_1.1 hr_1.2) (fun hp => ?_) (fun hp => ?_)
  · replace h := h.1 hp
    show Zr sc 151 882 [.ref 0, zj x1, zp a2, zp a3, zp a4, zj x5, v6, v7, v8, v9, v10, v11, v12, v13, v14, v15, v16, v17, v18, v19] [] w ov w' c s
    refine rl_inc rfl rfl rfl rfl ?_
    show Zr sc 151 885 [.ref 0, zj (x1 + 1), zp a2, zp a3, zp a4, zj x5, v6, v7, v8, v9, v10, v11, v12, v13, v14, v15, v16, v17, v18, v19] [] w ov w' c s
    refine Zr_st (q := (2, [.ref 0, zj (x1 + 1), zp a2, zp a3, zp a4, zj x5, v6, v7, v8, v9, v10, v11, v12, v13, v14, v15, v16, v17, v18, v19], [])) rfl rfl rfl ?_
    show Zr sc 151 2 [.ref 0, zj (x1 + 1), zp a2, zp a3, zp a4, zj x5, v6, v7, v8, v9, v10, v11, v12, v13, v14, v15, v16, v17, v18, v19] [] w ov w' c s
    exact h
  · replace h := h.2 hp
    show Zr sc 151 58 [.ref 0, zj x1, zp a2, zp a3, zp a4, zj x5, v6, v7, v8, v9, v10, v11, v12, v13, v14, v15, v16, v17, v18, v19] [] w ov w' c s
    refine Zr_st (q := (59, [.ref 0, zj x1, zp a2, zp a3, zp a4, zj x5, v6, v7, v8, v9, v10, v11, v12, v13, v14, v15, v16, v17, v18, v19], [zp a2])) rfl rfl rfl ?_
    show Zr sc 151 59 [.ref 0, zj x1, zp a2, zp a3, zp a4, zj x5, v6, v7, v8, v9, v10, v11, v12, v13, v14, v15, v16, v17, v18, v19] [zp a2] w ov w' c s
    refine Zr_st (q := (61, [.ref 0, zj x1, zp a2, zp a3, zp a4, zj x5, v6, v7, v8, v9, v10, v11, v12, v13, v14, v15, v16, v17, v18, v19], [zj x5, zp a2])) rfl rfl rfl ?_
    show Zr sc 151 61 [.ref 0, zj x1, zp a2, zp a3, zp a4, zj x5, v6, v7, v8, v9, v10, v11, v12, v13, v14, v15, v16, v17, v18, v19] [zj x5, zp a2] w ov w' c s
    refine rl_ic rfl ?_
    show Zr sc 151 62 [.ref 0, zj x1, zp a2, zp a3, zp a4, zj x5, v6, v7, v8, v9, v10, v11, v12, v13, v14, v15, v16, v17, v18, v19] [zj 3, zj x5, zp a2] w ov w' c s
    obtain ⟨hd_2, h⟩ := h
    refine rl_rem rfl hd_2.1 hd_2.2.1 hd_2.2.2.1 hd_2.2.2.2 ?_
    show Zr sc 151 63 [.ref 0, zj x1, zp a2, zp a3, zp a4, zj x5, v6, v7, v8, v9, v10, v11, v12, v13, v14, v15, v16, v17, v18, v19] [zj (x5 % 3), zp a2] w ov w' c s
    obtain ⟨hr_3, h⟩ := h
    refine Zr_b0 (p := (x5 % 3) ≠ 0) rfl rfl (zcmp_0 (cnd := .ne) hr_3) (fun hp => ?_) (fun hp => ?_)
    · replace h := h.1 hp
      show Zr sc 151 72 [.ref 0, zj x1, zp a2, zp a3, zp a4, zj x5, v6, v7, v8, v9, v10, v11, v12, v13, v14, v15, v16, v17, v18, v19] [zp a2] w ov w' c s
      refine rl_bi rfl (by decide) ?_
      show Zr sc 151 74 [.ref 0, zj x1, zp a2, zp a3, zp a4, zj x5, v6, v7, v8, v9, v10, v11, v12, v13, v14, v15, v16, v17, v18, v19] [zj 100, zp a2] w ov w' c s
      obtain ⟨r_6, w_4, c_7, s_8, c_9, s_10, hk_5, hc_11, h⟩ := h
      refine rl_cal (ins := .invokevirtual 26) (rest := []) rfl rfl rfl rfl (zinv_v (fs := _) L0a2 rfl rfl rfl rfl) rfl rfl hk_5 ?_ hc_11.1 hc_11.2
      show Zr sc 151 77 [.ref 0, zj x1, zp a2, zp a3, zp a4, zj x5, v6, v7, v8, v9, v10, v11, v12, v13, v14, v15, v16, v17, v18, v19] [zj r_6] w_4 ov w' c_9 s_10
      obtain ⟨hr_12, h⟩ := h
      refine Zr_b0 (p := r_6 ≠ 0) rfl rfl (zcmp_0 (cnd := .ne) hr_12) (fun hp => ?_) (fun hp => ?_)
      · replace h := h.1 hp
        show Zr sc 151 82 [.ref 0, zj x1, zp a2, zp a3, zp a4, zj x5, v6, v7, v8, v9, v10, v11, v12, v13, v14, v15, v16, v17, v18, v19] [] w_4 ov w' c_9 s_10
        refine rl_si rfl (by decide) ?_
        show Zr sc 151 85 [.ref 0, zj x1, zp a2, zp a3, zp a4, zj x5, v6, v7, v8, v9, v10, v11, v12, v13, v14, v15, v16, v17, v18, v19] [zj 1024] w_4 ov w' c_9 s_10
        obtain ⟨hx_18, h⟩ := h
        obtain ⟨p_13, hp_14, h⟩ := h
        obtain ⟨c_15, s_16, hc_17, h⟩ := h
        refine rn_na rfl hx_18.1 hx_18.2 hp_14 hc_17.1 hc_17.2 ?_
        show Zr sc 151 87 [.ref 0, zj x1, zp a2, zp a3, zp a4, zj x5, v6, v7, v8, v9, v10, v11, v12, v13, v14, v15, v16, v17, v18, v19] [zp p_13] (w_4 ++ [za (List.replicate (1024 : Int).toNat (0 : Int))]) ov w' c_15 s_16
        refine Zr_st (q := (89, [.ref 0, zj x1, zp a2, zp a3, zp a4, zj x5, zp p_13, v7, v8, v9, v10, v11, v12, v13, v14, v15, v16, v17, v18, v19], [])) rfl rfl rfl ?_
        show Zr sc 151 89 [.ref 0, zj x1, zp a2, zp a3, zp a4, zj x5, zp p_13, v7, v8, v9, v10, v11, v12, v13, v14, v15, v16, v17, v18, v19] [] (w_4 ++ [za (List.replicate (1024 : Int).toNat (0 : Int))]) ov w' c_15 s_16
        refine rl_ic rfl ?_
        show Zr sc 151 90 [.ref 0, zj x1, zp a2, zp a3, zp a4, zj x5, zp p_13, v7, v8, v9, v10, v11, v12, v13, v14, v15, v16, v17, v18, v19] [zj 0] (w_4 ++ [za (List.replicate (1024 : Int).toNat (0 : Int))]) ov w' c_15 s_16
        refine Zr_st (q := (92, [.ref 0, zj x1, zp a2, zp a3, zp a4, zj x5, zp p_13, zj 0, v8, v9, v10, v11, v12, v13, v14, v15, v16, v17, v18, v19], [])) rfl rfl rfl ?_
        show Zr sc 151 92 [.ref 0, zj x1, zp a2, zp a3, zp a4, zj x5, zp p_13, zj 0, v8, v9, v10, v11, v12, v13, v14, v15, v16, v17, v18, v19] [] (w_4 ++ [za (List.replicate (1024 : Int).toNat (0 : Int))]) ov w' c_15 s_16
        refine rl_ic rfl ?_
        show Zr sc 151 93 [.ref 0, zj x1, zp a2, zp a3, zp a4, zj x5, zp p_13, zj 0, v8, v9, v10, v11, v12, v13, v14, v15, v16, v17, v18, v19] [zj 0] (w_4 ++ [za (List.replicate (1024 : Int).toNat (0 : Int))]) ov w' c_15 s_16
        refine Zr_st (q := (95, [.ref 0, zj x1, zp a2, zp a3, zp a4, zj x5, zp p_13, zj 0, zj 0, v9, v10, v11, v12, v13, v14, v15, v16, v17, v18, v19], [])) rfl rfl rfl ?_
        show Zr sc 151 95 [.ref 0, zj x1, zp a2, zp a3, zp a4, zj x5, zp p_13, zj 0, zj 0, v9, v10, v11, v12, v13, v14, v15, v16, v17, v18, v19] [] (w_4 ++ [za (List.replicate (1024 : Int).toNat (0 : Int))]) ov w' c_15 s_16
        refine rl_ic rfl ?_
        show Zr sc 151 96 [.ref 0, zj x1, zp a2, zp a3, zp a4, zj x5, zp p_13, zj 0, zj 0, v9, v10, v11, v12, v13, v14, v15, v16, v17, v18, v19] [zj 0] (w_4 ++ [za (List.replicate (1024 : Int).toNat (0 : Int))]) ov w' c_15 s_16
        refine Zr_st (q := (98, [.ref 0, zj x1, zp a2, zp a3, zp a4, zj x5, zp p_13, zj 0, zj 0, zj 0, v10, v11, v12, v13, v14, v15, v16, v17, v18, v19], [])) rfl rfl rfl ?_
        show Zr sc 151 98 [.ref 0, zj x1, zp a2, zp a3, zp a4, zj x5, zp p_13, zj 0, zj 0, zj 0, v10, v11, v12, v13, v14, v15, v16, v17, v18, v19] [] (w_4 ++ [za (List.replicate (1024 : Int).toNat (0 : Int))]) ov w' c_15 s_16
        refine rl_ic rfl ?_
        show Zr sc 151 99 [.ref 0, zj x1, zp a2, zp a3, zp a4, zj x5, zp p_13, zj 0, zj 0, zj 0, v10, v11, v12, v13, v14, v15, v16, v17, v18, v19] [zj 0] (w_4 ++ [za (List.replicate (1024 : Int).toNat (0 : Int))]) ov w' c_15 s_16
        refine Zr_st (q := (101, [.ref 0, zj x1, zp a2, zp a3, zp a4, zj x5, zp p_13, zj 0, zj 0, zj 0, zj 0, v11, v12, v13, v14, v15, v16, v17, v18, v19], [])) rfl rfl rfl ?_
        show Zr sc 151 101 [.ref 0, zj x1, zp a2, zp a3, zp a4, zj x5, zp p_13, zj 0, zj 0, zj 0, zj 0, v11, v12, v13, v14, v15, v16, v17, v18, v19] [] (w_4 ++ [za (List.replicate (1024 : Int).toNat (0 : Int))]) ov w' c_15 s_16
        exact h
      · replace h := h.2 hp
        show Zr sc 151 80 [.ref 0, zj x1, zp a2, zp a3, zp a4, zj x5, v6, v7, v8, v9, v10, v11, v12, v13, v14, v15, v16, v17, v18, v19] [] w_4 ov w' c_9 s_10
        refine rl_ic rfl ?_
        show Zr sc 151 81 [.ref 0, zj x1, zp a2, zp a3, zp a4, zj x5, v6, v7, v8, v9, v10, v11, v12, v13, v14, v15, v16, v17, v18, v19] [zj 0] w_4 ov w' c_9 s_10
        obtain ⟨h1, h2, h3, h4⟩ := h
        subst h1; subst h2; subst h3; subst h4
        exact Zr_ret (ins := .ireturn) rfl rfl
    · replace h := h.2 hp
      show Zr sc 151 66 [.ref 0, zj x1, zp a2, zp a3, zp a4, zj x5, v6, v7, v8, v9, v10, v11, v12, v13, v14, v15, v16, v17, v18, v19] [zp a2] w ov w' c s
      refine rl_si rfl (by decide) ?_
      show Zr sc 151 69 [.ref 0, zj x1, zp a2, zp a3, zp a4, zj x5, v6, v7, v8, v9, v10, v11, v12, v13, v14, v15, v16, v17, v18, v19] [zj 300, zp a2] w ov w' c s
      refine Zr_st (q := (74, [.ref 0, zj x1, zp a2, zp a3, zp a4, zj x5, v6, v7, v8, v9, v10, v11, v12, v13, v14, v15, v16, v17, v18, v19], [zj 300, zp a2])) rfl rfl rfl ?_
      show Zr sc 151 74 [.ref 0, zj x1, zp a2, zp a3, zp a4, zj x5, v6, v7, v8, v9, v10, v11, v12, v13, v14, v15, v16, v17, v18, v19] [zj 300, zp a2] w ov w' c s
      obtain ⟨r_21, w_19, c_22, s_23, c_24, s_25, hk_20, hc_26, h⟩ := h
      refine rl_cal (ins := .invokevirtual 26) (rest := []) rfl rfl rfl rfl (zinv_v (fs := _) L0a2 rfl rfl rfl rfl) rfl rfl hk_20 ?_ hc_26.1 hc_26.2
      show Zr sc 151 77 [.ref 0, zj x1, zp a2, zp a3, zp a4, zj x5, v6, v7, v8, v9, v10, v11, v12, v13, v14, v15, v16, v17, v18, v19] [zj r_21] w_19 ov w' c_24 s_25
      obtain ⟨hr_27, h⟩ := h
      refine Zr_b0 (p := r_21 ≠ 0) rfl rfl (zcmp_0 (cnd := .ne) hr_27) (fun hp => ?_) (fun hp => ?_)
      · replace h := h.1 hp
        show Zr sc 151 82 [.ref 0, zj x1, zp a2, zp a3, zp a4, zj x5, v6, v7, v8, v9, v10, v11, v12, v13, v14, v15, v16, v17, v18, v19] [] w_19 ov w' c_24 s_25
        refine rl_si rfl (by decide) ?_
        show Zr sc 151 85 [.ref 0, zj x1, zp a2, zp a3, zp a4, zj x5, v6, v7, v8, v9, v10, v11, v12, v13, v14, v15, v16, v17, v18, v19] [zj 1024] w_19 ov w' c_24 s_25
        obtain ⟨hx_33, h⟩ := h
        obtain ⟨p_28, hp_29, h⟩ := h
        obtain ⟨c_30, s_31, hc_32, h⟩ := h
        refine rn_na rfl hx_33.1 hx_33.2 hp_29 hc_32.1 hc_32.2 ?_
        show Zr sc 151 87 [.ref 0, zj x1, zp a2, zp a3, zp a4, zj x5, v6, v7, v8, v9, v10, v11, v12, v13, v14, v15, v16, v17, v18, v19] [zp p_28] (w_19 ++ [za (List.replicate (1024 : Int).toNat (0 : Int))]) ov w' c_30 s_31
        refine Zr_st (q := (89, [.ref 0, zj x1, zp a2, zp a3, zp a4, zj x5, zp p_28, v7, v8, v9, v10, v11, v12, v13, v14, v15, v16, v17, v18, v19], [])) rfl rfl rfl ?_
        show Zr sc 151 89 [.ref 0, zj x1, zp a2, zp a3, zp a4, zj x5, zp p_28, v7, v8, v9, v10, v11, v12, v13, v14, v15, v16, v17, v18, v19] [] (w_19 ++ [za (List.replicate (1024 : Int).toNat (0 : Int))]) ov w' c_30 s_31
        refine rl_ic rfl ?_
        show Zr sc 151 90 [.ref 0, zj x1, zp a2, zp a3, zp a4, zj x5, zp p_28, v7, v8, v9, v10, v11, v12, v13, v14, v15, v16, v17, v18, v19] [zj 0] (w_19 ++ [za (List.replicate (1024 : Int).toNat (0 : Int))]) ov w' c_30 s_31
        refine Zr_st (q := (92, [.ref 0, zj x1, zp a2, zp a3, zp a4, zj x5, zp p_28, zj 0, v8, v9, v10, v11, v12, v13, v14, v15, v16, v17, v18, v19], [])) rfl rfl rfl ?_
        show Zr sc 151 92 [.ref 0, zj x1, zp a2, zp a3, zp a4, zj x5, zp p_28, zj 0, v8, v9, v10, v11, v12, v13, v14, v15, v16, v17, v18, v19] [] (w_19 ++ [za (List.replicate (1024 : Int).toNat (0 : Int))]) ov w' c_30 s_31
        refine rl_ic rfl ?_
        show Zr sc 151 93 [.ref 0, zj x1, zp a2, zp a3, zp a4, zj x5, zp p_28, zj 0, v8, v9, v10, v11, v12, v13, v14, v15, v16, v17, v18, v19] [zj 0] (w_19 ++ [za (List.replicate (1024 : Int).toNat (0 : Int))]) ov w' c_30 s_31
        refine Zr_st (q := (95, [.ref 0, zj x1, zp a2, zp a3, zp a4, zj x5, zp p_28, zj 0, zj 0, v9, v10, v11, v12, v13, v14, v15, v16, v17, v18, v19], [])) rfl rfl rfl ?_
        show Zr sc 151 95 [.ref 0, zj x1, zp a2, zp a3, zp a4, zj x5, zp p_28, zj 0, zj 0, v9, v10, v11, v12, v13, v14, v15, v16, v17, v18, v19] [] (w_19 ++ [za (List.replicate (1024 : Int).toNat (0 : Int))]) ov w' c_30 s_31
        refine rl_ic rfl ?_
        show Zr sc 151 96 [.ref 0, zj x1, zp a2, zp a3, zp a4, zj x5, zp p_28, zj 0, zj 0, v9, v10, v11, v12, v13, v14, v15, v16, v17, v18, v19] [zj 0] (w_19 ++ [za (List.replicate (1024 : Int).toNat (0 : Int))]) ov w' c_30 s_31
        refine Zr_st (q := (98, [.ref 0, zj x1, zp a2, zp a3, zp a4, zj x5, zp p_28, zj 0, zj 0, zj 0, v10, v11, v12, v13, v14, v15, v16, v17, v18, v19], [])) rfl rfl rfl ?_
        show Zr sc 151 98 [.ref 0, zj x1, zp a2, zp a3, zp a4, zj x5, zp p_28, zj 0, zj 0, zj 0, v10, v11, v12, v13, v14, v15, v16, v17, v18, v19] [] (w_19 ++ [za (List.replicate (1024 : Int).toNat (0 : Int))]) ov w' c_30 s_31
        refine rl_ic rfl ?_
        show Zr sc 151 99 [.ref 0, zj x1, zp a2, zp a3, zp a4, zj x5, zp p_28, zj 0, zj 0, zj 0, v10, v11, v12, v13, v14, v15, v16, v17, v18, v19] [zj 0] (w_19 ++ [za (List.replicate (1024 : Int).toNat (0 : Int))]) ov w' c_30 s_31
        refine Zr_st (q := (101, [.ref 0, zj x1, zp a2, zp a3, zp a4, zj x5, zp p_28, zj 0, zj 0, zj 0, zj 0, v11, v12, v13, v14, v15, v16, v17, v18, v19], [])) rfl rfl rfl ?_
        show Zr sc 151 101 [.ref 0, zj x1, zp a2, zp a3, zp a4, zj x5, zp p_28, zj 0, zj 0, zj 0, zj 0, v11, v12, v13, v14, v15, v16, v17, v18, v19] [] (w_19 ++ [za (List.replicate (1024 : Int).toNat (0 : Int))]) ov w' c_30 s_31
        exact h
      · replace h := h.2 hp
        show Zr sc 151 80 [.ref 0, zj x1, zp a2, zp a3, zp a4, zj x5, v6, v7, v8, v9, v10, v11, v12, v13, v14, v15, v16, v17, v18, v19] [] w_19 ov w' c_24 s_25
        refine rl_ic rfl ?_
        show Zr sc 151 81 [.ref 0, zj x1, zp a2, zp a3, zp a4, zj x5, v6, v7, v8, v9, v10, v11, v12, v13, v14, v15, v16, v17, v18, v19] [zj 0] w_19 ov w' c_24 s_25
        obtain ⟨h1, h2, h3, h4⟩ := h
        subst h1; subst h2; subst h3; subst h4
        exact Zr_ret (ins := .ireturn) rfl rfl
set_option maxRecDepth 100000 in
theorem V151_101 {sc : List Value} {w w' : List zE} {ov : Option Value} {c s : Nat} {x1 : Int} {a2 : Nat} {a3 : Nat} {a4 : Nat} {x5 : Int} {a6 : Nat} {x7 : Int} {x8 : Int} {x9 : Int} {x10 : Int} {v11 : Value} {v12 : Value} {v13 : Value} {v14 : Value} {v15 : Value} {v16 : Value} {v17 : Value} {v18 : Value} {v19 : Value} {dr : Int} {wy : Int} {st : Int} {hd : Int} {nm : Int} {ar : Int} {hn : Int} {pk : Int} {D : Nat} {tl : Int} (L0a2 : w[a2]? = some (zob 7 [zp (a2 + 1), .ref 0, zj dr, zj wy, zj st, zj hd, zp (a2 + 73), zj nm, zp (a2 + 74), zp (a2 + 75), zp (a2 + 76), zj ar, zj hn, zp (a2 + 77), zj pk, zp D, zj tl])) (h : (∃ fs_2 : List Value, w[a3]? = some (zob 6 fs_2) ∧ (∃ r_5 : Int, Zc sc 0 [zp a3] w (some (zj r_5)) w 0 0 ∧ ((zrg x10 ∧ zrg r_5) ∧ ((r_5 ≤ x10 → Zr sc 151 270 [.ref 0, zj x1, zp a2, zp a3, zp a4, zj x5, zp a6, zj x7, zj x8, zj x9, zj 0, zj 0, zj 0, v13, v14, v15, v16, v17, v18, v19] [] w ov w' c s) ∧ (¬ (r_5 ≤ x10) → (∃ r_9 : Int, Zc sc 4 [zp a3, zj x10] w (some (zj r_9)) w 0 0 ∧ ((zrg r_9) ∧ ((r_9 ≠ 0 → (∃ r_13 : Int, Zc sc 12 [zp a3, zj x10] w (some (zj r_13)) w 0 0 ∧ (∃ r_16 : Int, Zc sc 12 [zp a3, zj x10] w (some (zj r_16)) w 0 0 ∧ (∃ r_19 : Int, Zc sc 10 [zp a3, zj x10] w (some (zj r_19)) w 0 0 ∧ (∃ r_22 : Int, Zc sc 12 [zp a3, zj x10] w (some (zj r_22)) w 0 0 ∧ (∃ r_25 : Int, Zc sc 10 [zp a3, zj x10] w (some (zj r_25)) w 0 0 ∧ (∃ r_28 : Int, Zc sc 123 [zp a2, zj r_25] w (some (zj r_28)) w 0 0 ∧ ((zrg r_22 ∧ zrg r_28) ∧ ((r_22 ≠ r_28 → Zr sc 151 212 [.ref 0, zj x1, zp a2, zp a3, zp a4, zj x5, zp a6, zj (x7 + r_13), zj (x8 + (r_16 - r_19)), zj (x9 + 1), zj x10, v11, v12, v13, v14, v15, v16, v17, v18, v19] [] w ov w' c s) ∧ (¬ (r_22 ≠ r_28) → (∃ r_32 : Int, Zc sc 8 [zp a3, zj x10] w (some (zj r_32)) w 0 0 ∧ (∃ r_35 : Int, Zc sc 14 [zp a3, zj r_32] w (some (zj r_35)) w 0 0 ∧ ((zrg r_35 ∧ zrg x10) ∧ ((r_35 ≠ x10 → Zr sc 151 212 [.ref 0, zj x1, zp a2, zp a3, zp a4, zj x5, zp a6, zj (x7 + r_13), zj (x8 + (r_16 - r_19)), zj (x9 + 1), zj x10, v11, v12, v13, v14, v15, v16, v17, v18, v19] [] w ov w' c s) ∧ (¬ (r_35 ≠ x10) → (∃ r_39 : Int, Zc sc 8 [zp a3, zj x10] w (some (zj r_39)) w 0 0 ∧ (∃ r_42 : Int, Zc sc 12 [zp a3, zj x10] w (some (zj r_42)) w 0 0 ∧ (∃ r_45 : Int, Zc sc 14 [zp a3, zj ((r_39 + r_42) - 1)] w (some (zj r_45)) w 0 0 ∧ ((zrg r_45 ∧ zrg x10) ∧ ((r_45 = x10 → (∃ r_49 : Int, Zc sc 8 [zp a3, zj x10] w (some (zj r_49)) w 0 0 ∧ Zr sc 151 222 [.ref 0, zj x1, zp a2, zp a3, zp a4, zj x5, zp a6, zj (x7 + r_13), zj (x8 + (r_16 - r_19)), zj (x9 + 1), zj x10, zj r_49, v12, v13, v14, v15, v16, v17, v18, v19] [] w ov w' c s)) ∧ (¬ (r_45 = x10) → Zr sc 151 212 [.ref 0, zj x1, zp a2, zp a3, zp a4, zj x5, zp a6, zj (x7 + r_13), zj (x8 + (r_16 - r_19)), zj (x9 + 1), zj x10, v11, v12, v13, v14, v15, v16, v17, v18, v19] [] w ov w' c s))))))))))))))))))))) ∧ (¬ (r_9 ≠ 0) → Zr sc 151 255 [.ref 0, zj x1, zp a2, zp a3, zp a4, zj x5, zp a6, zj x7, zj x8, zj x9, zj x10, v11, v12, v13, v14, v15, v16, v17, v18, v19] [] w ov w' c s)))))))))) : Zr sc 151 101 [.ref 0, zj x1, zp a2, zp a3, zp a4, zj x5, zp a6, zj x7, zj x8, zj x9, zj x10, v11, v12, v13, v14, v15, v16, v17, v18, v19] [] w ov w' c s := by
  refine Zr_st (q := (103, [.ref 0, zj x1, zp a2, zp a3, zp a4, zj x5, zp a6, zj x7, zj x8, zj x9, zj x10, v11, v12, v13, v14, v15, v16, v17, v18, v19], [zj x10])) rfl rfl rfl ?_
  show Zr sc 151 103 [.ref 0, zj x1, zp a2, zp a3, zp a4, zj x5, zp a6, zj x7, zj x8, zj x9, zj x10, v11, v12, v13, v14, v15, v16, v17, v18, v19] [zj x10] w ov w' c s
  refine Zr_st (q := (104, [.ref 0, zj x1, zp a2, zp a3, zp a4, zj x5, zp a6, zj x7, zj x8, zj x9, zj x10, v11, v12, v13, v14, v15, v16, v17, v18, v19], [zp a3, zj x10])) rfl rfl rfl ?_
  show Zr sc 151 104 [.ref 0, zj x1, zp a2, zp a3, zp a4, zj x5, zp a6, zj x7, zj x8, zj x9, zj x10, v11, v12, v13, v14, v15, v16, v17, v18, v19] [zp a3, zj x10] w ov w' c s
  obtain ⟨fs_2, hl_1, h⟩ := h
  obtain ⟨r_5, hk_9, h⟩ := h
  refine rn_cal0 (ins := .invokevirtual 29) (rest := [zj x10]) rfl rfl rfl rfl (zinv_v (fs := _) hl_1 rfl rfl rfl rfl) rfl rfl hk_9 ?_
  show Zr sc 151 107 [.ref 0, zj x1, zp a2, zp a3, zp a4, zj x5, zp a6, zj x7, zj x8, zj x9, zj x10, v11, v12, v13, v14, v15, v16, v17, v18, v19] [zj r_5, zj x10] w ov w' c s
  obtain ⟨hr_6, h⟩ := h
  refine Zr_br (p := r_5 ≤ x10) rfl rfl (zcmp_j (cnd := .ge) hr_6.1 hr_6.2) (fun hp => ?_) (fun hp => ?_)
  · replace h := h.1 hp
    show Zr sc 151 261 [.ref 0, zj x1, zp a2, zp a3, zp a4, zj x5, zp a6, zj x7, zj x8, zj x9, zj x10, v11, v12, v13, v14, v15, v16, v17, v18, v19] [] w ov w' c s
    refine rl_ic rfl ?_
    show Zr sc 151 262 [.ref 0, zj x1, zp a2, zp a3, zp a4, zj x5, zp a6, zj x7, zj x8, zj x9, zj x10, v11, v12, v13, v14, v15, v16, v17, v18, v19] [zj 0] w ov w' c s
    refine Zr_st (q := (264, [.ref 0, zj x1, zp a2, zp a3, zp a4, zj x5, zp a6, zj x7, zj x8, zj x9, zj 0, v11, v12, v13, v14, v15, v16, v17, v18, v19], [])) rfl rfl rfl ?_
    show Zr sc 151 264 [.ref 0, zj x1, zp a2, zp a3, zp a4, zj x5, zp a6, zj x7, zj x8, zj x9, zj 0, v11, v12, v13, v14, v15, v16, v17, v18, v19] [] w ov w' c s
    refine rl_ic rfl ?_
    show Zr sc 151 265 [.ref 0, zj x1, zp a2, zp a3, zp a4, zj x5, zp a6, zj x7, zj x8, zj x9, zj 0, v11, v12, v13, v14, v15, v16, v17, v18, v19] [zj 0] w ov w' c s
    refine Zr_st (q := (267, [.ref 0, zj x1, zp a2, zp a3, zp a4, zj x5, zp a6, zj x7, zj x8, zj x9, zj 0, zj 0, v12, v13, v14, v15, v16, v17, v18, v19], [])) rfl rfl rfl ?_
    show Zr sc 151 267 [.ref 0, zj x1, zp a2, zp a3, zp a4, zj x5, zp a6, zj x7, zj x8, zj x9, zj 0, zj 0, v12, v13, v14, v15, v16, v17, v18, v19] [] w ov w' c s
    refine rl_ic rfl ?_
    show Zr sc 151 268 [.ref 0, zj x1, zp a2, zp a3, zp a4, zj x5, zp a6, zj x7, zj x8, zj x9, zj 0, zj 0, v12, v13, v14, v15, v16, v17, v18, v19] [zj 0] w ov w' c s
    refine Zr_st (q := (270, [.ref 0, zj x1, zp a2, zp a3, zp a4, zj x5, zp a6, zj x7, zj x8, zj x9, zj 0, zj 0, zj 0, v13, v14, v15, v16, v17, v18, v19], [])) rfl rfl rfl ?_
    show Zr sc 151 270 [.ref 0, zj x1, zp a2, zp a3, zp a4, zj x5, zp a6, zj x7, zj x8, zj x9, zj 0, zj 0, zj 0, v13, v14, v15, v16, v17, v18, v19] [] w ov w' c s
    exact h
  · replace h := h.2 hp
    show Zr sc 151 110 [.ref 0, zj x1, zp a2, zp a3, zp a4, zj x5, zp a6, zj x7, zj x8, zj x9, zj x10, v11, v12, v13, v14, v15, v16, v17, v18, v19] [] w ov w' c s
    refine Zr_st (q := (111, [.ref 0, zj x1, zp a2, zp a3, zp a4, zj x5, zp a6, zj x7, zj x8, zj x9, zj x10, v11, v12, v13, v14, v15, v16, v17, v18, v19], [zp a3])) rfl rfl rfl ?_
    show Zr sc 151 111 [.ref 0, zj x1, zp a2, zp a3, zp a4, zj x5, zp a6, zj x7, zj x8, zj x9, zj x10, v11, v12, v13, v14, v15, v16, v17, v18, v19] [zp a3] w ov w' c s
    refine Zr_st (q := (113, [.ref 0, zj x1, zp a2, zp a3, zp a4, zj x5, zp a6, zj x7, zj x8, zj x9, zj x10, v11, v12, v13, v14, v15, v16, v17, v18, v19], [zj x10, zp a3])) rfl rfl rfl ?_
    show Zr sc 151 113 [.ref 0, zj x1, zp a2, zp a3, zp a4, zj x5, zp a6, zj x7, zj x8, zj x9, zj x10, v11, v12, v13, v14, v15, v16, v17, v18, v19] [zj x10, zp a3] w ov w' c s
    obtain ⟨r_9, hk_9, h⟩ := h
    refine rn_cal0 (ins := .invokevirtual 35) (rest := []) rfl rfl rfl rfl (zinv_v (fs := _) hl_1 rfl rfl rfl rfl) rfl rfl hk_9 ?_
    show Zr sc 151 116 [.ref 0, zj x1, zp a2, zp a3, zp a4, zj x5, zp a6, zj x7, zj x8, zj x9, zj x10, v11, v12, v13, v14, v15, v16, v17, v18, v19] [zj r_9] w ov w' c s
    obtain ⟨hr_10, h⟩ := h
    refine Zr_b0 (p := r_9 ≠ 0) rfl rfl (zcmp_0 (cnd := .ne) hr_10) (fun hp => ?_) (fun hp => ?_)
    · replace h := h.1 hp
      show Zr sc 151 122 [.ref 0, zj x1, zp a2, zp a3, zp a4, zj x5, zp a6, zj x7, zj x8, zj x9, zj x10, v11, v12, v13, v14, v15, v16, v17, v18, v19] [] w ov w' c s
      refine rl_inc rfl rfl rfl rfl ?_
      show Zr sc 151 125 [.ref 0, zj x1, zp a2, zp a3, zp a4, zj x5, zp a6, zj x7, zj x8, zj (x9 + 1), zj x10, v11, v12, v13, v14, v15, v16, v17, v18, v19] [] w ov w' c s
      refine Zr_st (q := (127, [.ref 0, zj x1, zp a2, zp a3, zp a4, zj x5, zp a6, zj x7, zj x8, zj (x9 + 1), zj x10, v11, v12, v13, v14, v15, v16, v17, v18, v19], [zj x7])) rfl rfl rfl ?_
      show Zr sc 151 127 [.ref 0, zj x1, zp a2, zp a3, zp a4, zj x5, zp a6, zj x7, zj x8, zj (x9 + 1), zj x10, v11, v12, v13, v14, v15, v16, v17, v18, v19] [zj x7] w ov w' c s
      refine Zr_st (q := (128, [.ref 0, zj x1, zp a2, zp a3, zp a4, zj x5, zp a6, zj x7, zj x8, zj (x9 + 1), zj x10, v11, v12, v13, v14, v15, v16, v17, v18, v19], [zp a3, zj x7])) rfl rfl rfl ?_
      show Zr sc 151 128 [.ref 0, zj x1, zp a2, zp a3, zp a4, zj x5, zp a6, zj x7, zj x8, zj (x9 + 1), zj x10, v11, v12, v13, v14, v15, v16, v17, v18, v19] [zp a3, zj x7] w ov w' c s
      refine Zr_st (q := (130, [.ref 0, zj x1, zp a2, zp a3, zp a4, zj x5, zp a6, zj x7, zj x8, zj (x9 + 1), zj x10, v11, v12, v13, v14, v15, v16, v17, v18, v19], [zj x10, zp a3, zj x7])) rfl rfl rfl ?_
      show Zr sc 151 130 [.ref 0, zj x1, zp a2, zp a3, zp a4, zj x5, zp a6, zj x7, zj x8, zj (x9 + 1), zj x10, v11, v12, v13, v14, v15, v16, v17, v18, v19] [zj x10, zp a3, zj x7] w ov w' c s
      obtain ⟨r_13, hk_9, h⟩ := h
      refine rn_cal0 (ins := .invokevirtual 38) (rest := [zj x7]) rfl rfl rfl rfl (zinv_v (fs := _) hl_1 rfl rfl rfl rfl) rfl rfl hk_9 ?_
      show Zr sc 151 133 [.ref 0, zj x1, zp a2, zp a3, zp a4, zj x5, zp a6, zj x7, zj x8, zj (x9 + 1), zj x10, v11, v12, v13, v14, v15, v16, v17, v18, v19] [zj r_13, zj x7] w ov w' c s
      refine rl_add rfl ?_
      show Zr sc 151 134 [.ref 0, zj x1, zp a2, zp a3, zp a4, zj x5, zp a6, zj x7, zj x8, zj (x9 + 1), zj x10, v11, v12, v13, v14, v15, v16, v17, v18, v19] [zj (x7 + r_13)] w ov w' c s
      refine Zr_st (q := (136, [.ref 0, zj x1, zp a2, zp a3, zp a4, zj x5, zp a6, zj (x7 + r_13), zj x8, zj (x9 + 1), zj x10, v11, v12, v13, v14, v15, v16, v17, v18, v19], [])) rfl rfl rfl ?_
      show Zr sc 151 136 [.ref 0, zj x1, zp a2, zp a3, zp a4, zj x5, zp a6, zj (x7 + r_13), zj x8, zj (x9 + 1), zj x10, v11, v12, v13, v14, v15, v16, v17, v18, v19] [] w ov w' c s
      refine Zr_st (q := (138, [.ref 0, zj x1, zp a2, zp a3, zp a4, zj x5, zp a6, zj (x7 + r_13), zj x8, zj (x9 + 1), zj x10, v11, v12, v13, v14, v15, v16, v17, v18, v19], [zj x8])) rfl rfl rfl ?_
      show Zr sc 151 138 [.ref 0, zj x1, zp a2, zp a3, zp a4, zj x5, zp a6, zj (x7 + r_13), zj x8, zj (x9 + 1), zj x10, v11, v12, v13, v14, v15, v16, v17, v18, v19] [zj x8] w ov w' c s
      refine Zr_st (q := (139, [.ref 0, zj x1, zp a2, zp a3, zp a4, zj x5, zp a6, zj (x7 + r_13), zj x8, zj (x9 + 1), zj x10, v11, v12, v13, v14, v15, v16, v17, v18, v19], [zp a3, zj x8])) rfl rfl rfl ?_
      show Zr sc 151 139 [.ref 0, zj x1, zp a2, zp a3, zp a4, zj x5, zp a6, zj (x7 + r_13), zj x8, zj (x9 + 1), zj x10, v11, v12, v13, v14, v15, v16, v17, v18, v19] [zp a3, zj x8] w ov w' c s
      refine Zr_st (q := (141, [.ref 0, zj x1, zp a2, zp a3, zp a4, zj x5, zp a6, zj (x7 + r_13), zj x8, zj (x9 + 1), zj x10, v11, v12, v13, v14, v15, v16, v17, v18, v19], [zj x10, zp a3, zj x8])) rfl rfl rfl ?_
      show Zr sc 151 141 [.ref 0, zj x1, zp a2, zp a3, zp a4, zj x5, zp a6, zj (x7 + r_13), zj x8, zj (x9 + 1), zj x10, v11, v12, v13, v14, v15, v16, v17, v18, v19] [zj x10, zp a3, zj x8] w ov w' c s
      obtain ⟨r_16, hk_9, h⟩ := h
      refine rn_cal0 (ins := .invokevirtual 38) (rest := [zj x8]) rfl rfl rfl rfl (zinv_v (fs := _) hl_1 rfl rfl rfl rfl) rfl rfl hk_9 ?_
      show Zr sc 151 144 [.ref 0, zj x1, zp a2, zp a3, zp a4, zj x5, zp a6, zj (x7 + r_13), zj x8, zj (x9 + 1), zj x10, v11, v12, v13, v14, v15, v16, v17, v18, v19] [zj r_16, zj x8] w ov w' c s
      refine Zr_st (q := (145, [.ref 0, zj x1, zp a2, zp a3, zp a4, zj x5, zp a6, zj (x7 + r_13), zj x8, zj (x9 + 1), zj x10, v11, v12, v13, v14, v15, v16, v17, v18, v19], [zp a3, zj r_16, zj x8])) rfl rfl rfl ?_
      show Zr sc 151 145 [.ref 0, zj x1, zp a2, zp a3, zp a4, zj x5, zp a6, zj (x7 + r_13), zj x8, zj (x9 + 1), zj x10, v11, v12, v13, v14, v15, v16, v17, v18, v19] [zp a3, zj r_16, zj x8] w ov w' c s
      refine Zr_st (q := (147, [.ref 0, zj x1, zp a2, zp a3, zp a4, zj x5, zp a6, zj (x7 + r_13), zj x8, zj (x9 + 1), zj x10, v11, v12, v13, v14, v15, v16, v17, v18, v19], [zj x10, zp a3, zj r_16, zj x8])) rfl rfl rfl ?_
      show Zr sc 151 147 [.ref 0, zj x1, zp a2, zp a3, zp a4, zj x5, zp a6, zj (x7 + r_13), zj x8, zj (x9 + 1), zj x10, v11, v12, v13, v14, v15, v16, v17, v18, v19] [zj x10, zp a3, zj r_16, zj x8] w ov w' c s
      obtain ⟨r_19, hk_9, h⟩ := h
      refine rn_cal0 (ins := .invokevirtual 41) (rest := [zj r_16, zj x8]) rfl rfl rfl rfl (zinv_v (fs := _) hl_1 rfl rfl rfl rfl) rfl rfl hk_9 ?_
      show Zr sc 151 150 [.ref 0, zj x1, zp a2, zp a3, zp a4, zj x5, zp a6, zj (x7 + r_13), zj x8, zj (x9 + 1), zj x10, v11, v12, v13, v14, v15, v16, v17, v18, v19] [zj r_19, zj r_16, zj x8] w ov w' c s
      refine rl_sub rfl ?_
      show Zr sc 151 151 [.ref 0, zj x1, zp a2, zp a3, zp a4, zj x5, zp a6, zj (x7 + r_13), zj x8, zj (x9 + 1), zj x10, v11, v12, v13, v14, v15, v16, v17, v18, v19] [zj (r_16 - r_19), zj x8] w ov w' c s
      refine rl_add rfl ?_
      show Zr sc 151 152 [.ref 0, zj x1, zp a2, zp a3, zp a4, zj x5, zp a6, zj (x7 + r_13), zj x8, zj (x9 + 1), zj x10, v11, v12, v13, v14, v15, v16, v17, v18, v19] [zj (x8 + (r_16 - r_19))] w ov w' c s
      refine Zr_st (q := (154, [.ref 0, zj x1, zp a2, zp a3, zp a4, zj x5, zp a6, zj (x7 + r_13), zj (x8 + (r_16 - r_19)), zj (x9 + 1), zj x10, v11, v12, v13, v14, v15, v16, v17, v18, v19], [])) rfl rfl rfl ?_
      show Zr sc 151 154 [.ref 0, zj x1, zp a2, zp a3, zp a4, zj x5, zp a6, zj (x7 + r_13), zj (x8 + (r_16 - r_19)), zj (x9 + 1), zj x10, v11, v12, v13, v14, v15, v16, v17, v18, v19] [] w ov w' c s
      refine Zr_st (q := (155, [.ref 0, zj x1, zp a2, zp a3, zp a4, zj x5, zp a6, zj (x7 + r_13), zj (x8 + (r_16 - r_19)), zj (x9 + 1), zj x10, v11, v12, v13, v14, v15, v16, v17, v18, v19], [zp a3])) rfl rfl rfl ?_
      show Zr sc 151 155 [.ref 0, zj x1, zp a2, zp a3, zp a4, zj x5, zp a6, zj (x7 + r_13), zj (x8 + (r_16 - r_19)), zj (x9 + 1), zj x10, v11, v12, v13, v14, v15, v16, v17, v18, v19] [zp a3] w ov w' c s
      refine Zr_st (q := (157, [.ref 0, zj x1, zp a2, zp a3, zp a4, zj x5, zp a6, zj (x7 + r_13), zj (x8 + (r_16 - r_19)), zj (x9 + 1), zj x10, v11, v12, v13, v14, v15, v16, v17, v18, v19], [zj x10, zp a3])) rfl rfl rfl ?_
      show Zr sc 151 157 [.ref 0, zj x1, zp a2, zp a3, zp a4, zj x5, zp a6, zj (x7 + r_13), zj (x8 + (r_16 - r_19)), zj (x9 + 1), zj x10, v11, v12, v13, v14, v15, v16, v17, v18, v19] [zj x10, zp a3] w ov w' c s
      obtain ⟨r_22, hk_9, h⟩ := h
      refine rn_cal0 (ins := .invokevirtual 38) (rest := []) rfl rfl rfl rfl (zinv_v (fs := _) hl_1 rfl rfl rfl rfl) rfl rfl hk_9 ?_
      show Zr sc 151 160 [.ref 0, zj x1, zp a2, zp a3, zp a4, zj x5, zp a6, zj (x7 + r_13), zj (x8 + (r_16 - r_19)), zj (x9 + 1), zj x10, v11, v12, v13, v14, v15, v16, v17, v18, v19] [zj r_22] w ov w' c s
      refine Zr_st (q := (161, [.ref 0, zj x1, zp a2, zp a3, zp a4, zj x5, zp a6, zj (x7 + r_13), zj (x8 + (r_16 - r_19)), zj (x9 + 1), zj x10, v11, v12, v13, v14, v15, v16, v17, v18, v19], [zp a2, zj r_22])) rfl rfl rfl ?_
      show Zr sc 151 161 [.ref 0, zj x1, zp a2, zp a3, zp a4, zj x5, zp a6, zj (x7 + r_13), zj (x8 + (r_16 - r_19)), zj (x9 + 1), zj x10, v11, v12, v13, v14, v15, v16, v17, v18, v19] [zp a2, zj r_22] w ov w' c s
      refine Zr_st (q := (162, [.ref 0, zj x1, zp a2, zp a3, zp a4, zj x5, zp a6, zj (x7 + r_13), zj (x8 + (r_16 - r_19)), zj (x9 + 1), zj x10, v11, v12, v13, v14, v15, v16, v17, v18, v19], [zp a3, zp a2, zj r_22])) rfl rfl rfl ?_
      show Zr sc 151 162 [.ref 0, zj x1, zp a2, zp a3, zp a4, zj x5, zp a6, zj (x7 + r_13), zj (x8 + (r_16 - r_19)), zj (x9 + 1), zj x10, v11, v12, v13, v14, v15, v16, v17, v18, v19] [zp a3, zp a2, zj r_22] w ov w' c s
      refine Zr_st (q := (164, [.ref 0, zj x1, zp a2, zp a3, zp a4, zj x5, zp a6, zj (x7 + r_13), zj (x8 + (r_16 - r_19)), zj (x9 + 1), zj x10, v11, v12, v13, v14, v15, v16, v17, v18, v19], [zj x10, zp a3, zp a2, zj r_22])) rfl rfl rfl ?_
      show Zr sc 151 164 [.ref 0, zj x1, zp a2, zp a3, zp a4, zj x5, zp a6, zj (x7 + r_13), zj (x8 + (r_16 - r_19)), zj (x9 + 1), zj x10, v11, v12, v13, v14, v15, v16, v17, v18, v19] [zj x10, zp a3, zp a2, zj r_22] w ov w' c s
      obtain ⟨r_25, hk_9, h⟩ := h
      refine rn_cal0 (ins := .invokevirtual 41) (rest := [zp a2, zj r_22]) rfl rfl rfl rfl (zinv_v (fs := _) hl_1 rfl rfl rfl rfl) rfl rfl hk_9 ?_
      show Zr sc 151 167 [.ref 0, zj x1, zp a2, zp a3, zp a4, zj x5, zp a6, zj (x7 + r_13), zj (x8 + (r_16 - r_19)), zj (x9 + 1), zj x10, v11, v12, v13, v14, v15, v16, v17, v18, v19] [zj r_25, zp a2, zj r_22] w ov w' c s
      obtain ⟨r_28, hk_9, h⟩ := h
      refine rn_cal0 (ins := .invokevirtual 44) (rest := [zj r_22]) rfl rfl rfl rfl (zinv_v (fs := _) L0a2 rfl rfl rfl rfl) rfl rfl hk_9 ?_
      show Zr sc 151 170 [.ref 0, zj x1, zp a2, zp a3, zp a4, zj x5, zp a6, zj (x7 + r_13), zj (x8 + (r_16 - r_19)), zj (x9 + 1), zj x10, v11, v12, v13, v14, v15, v16, v17, v18, v19] [zj r_28, zj r_22] w ov w' c s
      obtain ⟨hr_29, h⟩ := h
      refine Zr_br (p := r_22 ≠ r_28) rfl rfl (zcmp_j (cnd := .ne) hr_29.1 hr_29.2) (fun hp => ?_) (fun hp => ?_)
      · replace h := h.1 hp
        show Zr sc 151 212 [.ref 0, zj x1, zp a2, zp a3, zp a4, zj x5, zp a6, zj (x7 + r_13), zj (x8 + (r_16 - r_19)), zj (x9 + 1), zj x10, v11, v12, v13, v14, v15, v16, v17, v18, v19] [] w ov w' c s
        exact h
      · replace h := h.2 hp
        show Zr sc 151 173 [.ref 0, zj x1, zp a2, zp a3, zp a4, zj x5, zp a6, zj (x7 + r_13), zj (x8 + (r_16 - r_19)), zj (x9 + 1), zj x10, v11, v12, v13, v14, v15, v16, v17, v18, v19] [] w ov w' c s
        refine Zr_st (q := (174, [.ref 0, zj x1, zp a2, zp a3, zp a4, zj x5, zp a6, zj (x7 + r_13), zj (x8 + (r_16 - r_19)), zj (x9 + 1), zj x10, v11, v12, v13, v14, v15, v16, v17, v18, v19], [zp a3])) rfl rfl rfl ?_
        show Zr sc 151 174 [.ref 0, zj x1, zp a2, zp a3, zp a4, zj x5, zp a6, zj (x7 + r_13), zj (x8 + (r_16 - r_19)), zj (x9 + 1), zj x10, v11, v12, v13, v14, v15, v16, v17, v18, v19] [zp a3] w ov w' c s
        refine Zr_st (q := (175, [.ref 0, zj x1, zp a2, zp a3, zp a4, zj x5, zp a6, zj (x7 + r_13), zj (x8 + (r_16 - r_19)), zj (x9 + 1), zj x10, v11, v12, v13, v14, v15, v16, v17, v18, v19], [zp a3, zp a3])) rfl rfl rfl ?_
        show Zr sc 151 175 [.ref 0, zj x1, zp a2, zp a3, zp a4, zj x5, zp a6, zj (x7 + r_13), zj (x8 + (r_16 - r_19)), zj (x9 + 1), zj x10, v11, v12, v13, v14, v15, v16, v17, v18, v19] [zp a3, zp a3] w ov w' c s
        refine Zr_st (q := (177, [.ref 0, zj x1, zp a2, zp a3, zp a4, zj x5, zp a6, zj (x7 + r_13), zj (x8 + (r_16 - r_19)), zj (x9 + 1), zj x10, v11, v12, v13, v14, v15, v16, v17, v18, v19], [zj x10, zp a3, zp a3])) rfl rfl rfl ?_
        show Zr sc 151 177 [.ref 0, zj x1, zp a2, zp a3, zp a4, zj x5, zp a6, zj (x7 + r_13), zj (x8 + (r_16 - r_19)), zj (x9 + 1), zj x10, v11, v12, v13, v14, v15, v16, v17, v18, v19] [zj x10, zp a3, zp a3] w ov w' c s
        obtain ⟨r_32, hk_9, h⟩ := h
        refine rn_cal0 (ins := .invokevirtual 47) (rest := [zp a3]) rfl rfl rfl rfl (zinv_v (fs := _) hl_1 rfl rfl rfl rfl) rfl rfl hk_9 ?_
        show Zr sc 151 180 [.ref 0, zj x1, zp a2, zp a3, zp a4, zj x5, zp a6, zj (x7 + r_13), zj (x8 + (r_16 - r_19)), zj (x9 + 1), zj x10, v11, v12, v13, v14, v15, v16, v17, v18, v19] [zj r_32, zp a3] w ov w' c s
        obtain ⟨r_35, hk_9, h⟩ := h
        refine rn_cal0 (ins := .invokevirtual 50) (rest := []) rfl rfl rfl rfl (zinv_v (fs := _) hl_1 rfl rfl rfl rfl) rfl rfl hk_9 ?_
        show Zr sc 151 183 [.ref 0, zj x1, zp a2, zp a3, zp a4, zj x5, zp a6, zj (x7 + r_13), zj (x8 + (r_16 - r_19)), zj (x9 + 1), zj x10, v11, v12, v13, v14, v15, v16, v17, v18, v19] [zj r_35] w ov w' c s
        refine Zr_st (q := (185, [.ref 0, zj x1, zp a2, zp a3, zp a4, zj x5, zp a6, zj (x7 + r_13), zj (x8 + (r_16 - r_19)), zj (x9 + 1), zj x10, v11, v12, v13, v14, v15, v16, v17, v18, v19], [zj x10, zj r_35])) rfl rfl rfl ?_
        show Zr sc 151 185 [.ref 0, zj x1, zp a2, zp a3, zp a4, zj x5, zp a6, zj (x7 + r_13), zj (x8 + (r_16 - r_19)), zj (x9 + 1), zj x10, v11, v12, v13, v14, v15, v16, v17, v18, v19] [zj x10, zj r_35] w ov w' c s
        obtain ⟨hr_36, h⟩ := h
        refine Zr_br (p := r_35 ≠ x10) rfl rfl (zcmp_j (cnd := .ne) hr_36.1 hr_36.2) (fun hp => ?_) (fun hp => ?_)
        · replace h := h.1 hp
          show Zr sc 151 212 [.ref 0, zj x1, zp a2, zp a3, zp a4, zj x5, zp a6, zj (x7 + r_13), zj (x8 + (r_16 - r_19)), zj (x9 + 1), zj x10, v11, v12, v13, v14, v15, v16, v17, v18, v19] [] w ov w' c s
          exact h
        · replace h := h.2 hp
          show Zr sc 151 188 [.ref 0, zj x1, zp a2, zp a3, zp a4, zj x5, zp a6, zj (x7 + r_13), zj (x8 + (r_16 - r_19)), zj (x9 + 1), zj x10, v11, v12, v13, v14, v15, v16, v17, v18, v19] [] w ov w' c s
          refine Zr_st (q := (189, [.ref 0, zj x1, zp a2, zp a3, zp a4, zj x5, zp a6, zj (x7 + r_13), zj (x8 + (r_16 - r_19)), zj (x9 + 1), zj x10, v11, v12, v13, v14, v15, v16, v17, v18, v19], [zp a3])) rfl rfl rfl ?_
          show Zr sc 151 189 [.ref 0, zj x1, zp a2, zp a3, zp a4, zj x5, zp a6, zj (x7 + r_13), zj (x8 + (r_16 - r_19)), zj (x9 + 1), zj x10, v11, v12, v13, v14, v15, v16, v17, v18, v19] [zp a3] w ov w' c s
          refine Zr_st (q := (190, [.ref 0, zj x1, zp a2, zp a3, zp a4, zj x5, zp a6, zj (x7 + r_13), zj (x8 + (r_16 - r_19)), zj (x9 + 1), zj x10, v11, v12, v13, v14, v15, v16, v17, v18, v19], [zp a3, zp a3])) rfl rfl rfl ?_
          show Zr sc 151 190 [.ref 0, zj x1, zp a2, zp a3, zp a4, zj x5, zp a6, zj (x7 + r_13), zj (x8 + (r_16 - r_19)), zj (x9 + 1), zj x10, v11, v12, v13, v14, v15, v16, v17, v18, v19] [zp a3, zp a3] w ov w' c s
          refine Zr_st (q := (192, [.ref 0, zj x1, zp a2, zp a3, zp a4, zj x5, zp a6, zj (x7 + r_13), zj (x8 + (r_16 - r_19)), zj (x9 + 1), zj x10, v11, v12, v13, v14, v15, v16, v17, v18, v19], [zj x10, zp a3, zp a3])) rfl rfl rfl ?_
          show Zr sc 151 192 [.ref 0, zj x1, zp a2, zp a3, zp a4, zj x5, zp a6, zj (x7 + r_13), zj (x8 + (r_16 - r_19)), zj (x9 + 1), zj x10, v11, v12, v13, v14, v15, v16, v17, v18, v19] [zj x10, zp a3, zp a3] w ov w' c s
          obtain ⟨r_39, hk_9, h⟩ := h
          refine rn_cal0 (ins := .invokevirtual 47) (rest := [zp a3]) rfl rfl rfl rfl (zinv_v (fs := _) hl_1 rfl rfl rfl rfl) rfl rfl hk_9 ?_
          show Zr sc 151 195 [.ref 0, zj x1, zp a2, zp a3, zp a4, zj x5, zp a6, zj (x7 + r_13), zj (x8 + (r_16 - r_19)), zj (x9 + 1), zj x10, v11, v12, v13, v14, v15, v16, v17, v18, v19] [zj r_39, zp a3] w ov w' c s
          refine Zr_st (q := (196, [.ref 0, zj x1, zp a2, zp a3, zp a4, zj x5, zp a6, zj (x7 + r_13), zj (x8 + (r_16 - r_19)), zj (x9 + 1), zj x10, v11, v12, v13, v14, v15, v16, v17, v18, v19], [zp a3, zj r_39, zp a3])) rfl rfl rfl ?_
          show Zr sc 151 196 [.ref 0, zj x1, zp a2, zp a3, zp a4, zj x5, zp a6, zj (x7 + r_13), zj (x8 + (r_16 - r_19)), zj (x9 + 1), zj x10, v11, v12, v13, v14, v15, v16, v17, v18, v19] [zp a3, zj r_39, zp a3] w ov w' c s
          refine Zr_st (q := (198, [.ref 0, zj x1, zp a2, zp a3, zp a4, zj x5, zp a6, zj (x7 + r_13), zj (x8 + (r_16 - r_19)), zj (x9 + 1), zj x10, v11, v12, v13, v14, v15, v16, v17, v18, v19], [zj x10, zp a3, zj r_39, zp a3])) rfl rfl rfl ?_
          show Zr sc 151 198 [.ref 0, zj x1, zp a2, zp a3, zp a4, zj x5, zp a6, zj (x7 + r_13), zj (x8 + (r_16 - r_19)), zj (x9 + 1), zj x10, v11, v12, v13, v14, v15, v16, v17, v18, v19] [zj x10, zp a3, zj r_39, zp a3] w ov w' c s
          obtain ⟨r_42, hk_9, h⟩ := h
          refine rn_cal0 (ins := .invokevirtual 38) (rest := [zj r_39, zp a3]) rfl rfl rfl rfl (zinv_v (fs := _) hl_1 rfl rfl rfl rfl) rfl rfl hk_9 ?_
          show Zr sc 151 201 [.ref 0, zj x1, zp a2, zp a3, zp a4, zj x5, zp a6, zj (x7 + r_13), zj (x8 + (r_16 - r_19)), zj (x9 + 1), zj x10, v11, v12, v13, v14, v15, v16, v17, v18, v19] [zj r_42, zj r_39, zp a3] w ov w' c s
          refine rl_add rfl ?_
          show Zr sc 151 202 [.ref 0, zj x1, zp a2, zp a3, zp a4, zj x5, zp a6, zj (x7 + r_13), zj (x8 + (r_16 - r_19)), zj (x9 + 1), zj x10, v11, v12, v13, v14, v15, v16, v17, v18, v19] [zj (r_39 + r_42), zp a3] w ov w' c s
          refine rl_ic rfl ?_
          show Zr sc 151 203 [.ref 0, zj x1, zp a2, zp a3, zp a4, zj x5, zp a6, zj (x7 + r_13), zj (x8 + (r_16 - r_19)), zj (x9 + 1), zj x10, v11, v12, v13, v14, v15, v16, v17, v18, v19] [zj 1, zj (r_39 + r_42), zp a3] w ov w' c s
          refine rl_sub rfl ?_
          show Zr sc 151 204 [.ref 0, zj x1, zp a2, zp a3, zp a4, zj x5, zp a6, zj (x7 + r_13), zj (x8 + (r_16 - r_19)), zj (x9 + 1), zj x10, v11, v12, v13, v14, v15, v16, v17, v18, v19] [zj ((r_39 + r_42) - 1), zp a3] w ov w' c s
          obtain ⟨r_45, hk_9, h⟩ := h
          refine rn_cal0 (ins := .invokevirtual 50) (rest := []) rfl rfl rfl rfl (zinv_v (fs := _) hl_1 rfl rfl rfl rfl) rfl rfl hk_9 ?_
          show Zr sc 151 207 [.ref 0, zj x1, zp a2, zp a3, zp a4, zj x5, zp a6, zj (x7 + r_13), zj (x8 + (r_16 - r_19)), zj (x9 + 1), zj x10, v11, v12, v13, v14, v15, v16, v17, v18, v19] [zj r_45] w ov w' c s
          refine Zr_st (q := (209, [.ref 0, zj x1, zp a2, zp a3, zp a4, zj x5, zp a6, zj (x7 + r_13), zj (x8 + (r_16 - r_19)), zj (x9 + 1), zj x10, v11, v12, v13, v14, v15, v16, v17, v18, v19], [zj x10, zj r_45])) rfl rfl rfl ?_
          show Zr sc 151 209 [.ref 0, zj x1, zp a2, zp a3, zp a4, zj x5, zp a6, zj (x7 + r_13), zj (x8 + (r_16 - r_19)), zj (x9 + 1), zj x10, v11, v12, v13, v14, v15, v16, v17, v18, v19] [zj x10, zj r_45] w ov w' c s
          obtain ⟨hr_46, h⟩ := h
          refine Zr_br (p := r_45 = x10) rfl rfl (zcmp_j (cnd := .eq) hr_46.1 hr_46.2) (fun hp => ?_) (fun hp => ?_)
          · replace h := h.1 hp
            show Zr sc 151 214 [.ref 0, zj x1, zp a2, zp a3, zp a4, zj x5, zp a6, zj (x7 + r_13), zj (x8 + (r_16 - r_19)), zj (x9 + 1), zj x10, v11, v12, v13, v14, v15, v16, v17, v18, v19] [] w ov w' c s
            refine Zr_st (q := (215, [.ref 0, zj x1, zp a2, zp a3, zp a4, zj x5, zp a6, zj (x7 + r_13), zj (x8 + (r_16 - r_19)), zj (x9 + 1), zj x10, v11, v12, v13, v14, v15, v16, v17, v18, v19], [zp a3])) rfl rfl rfl ?_
            show Zr sc 151 215 [.ref 0, zj x1, zp a2, zp a3, zp a4, zj x5, zp a6, zj (x7 + r_13), zj (x8 + (r_16 - r_19)), zj (x9 + 1), zj x10, v11, v12, v13, v14, v15, v16, v17, v18, v19] [zp a3] w ov w' c s
            refine Zr_st (q := (217, [.ref 0, zj x1, zp a2, zp a3, zp a4, zj x5, zp a6, zj (x7 + r_13), zj (x8 + (r_16 - r_19)), zj (x9 + 1), zj x10, v11, v12, v13, v14, v15, v16, v17, v18, v19], [zj x10, zp a3])) rfl rfl rfl ?_
            show Zr sc 151 217 [.ref 0, zj x1, zp a2, zp a3, zp a4, zj x5, zp a6, zj (x7 + r_13), zj (x8 + (r_16 - r_19)), zj (x9 + 1), zj x10, v11, v12, v13, v14, v15, v16, v17, v18, v19] [zj x10, zp a3] w ov w' c s
            obtain ⟨r_49, hk_9, h⟩ := h
            refine rn_cal0 (ins := .invokevirtual 47) (rest := []) rfl rfl rfl rfl (zinv_v (fs := _) hl_1 rfl rfl rfl rfl) rfl rfl hk_9 ?_
            show Zr sc 151 220 [.ref 0, zj x1, zp a2, zp a3, zp a4, zj x5, zp a6, zj (x7 + r_13), zj (x8 + (r_16 - r_19)), zj (x9 + 1), zj x10, v11, v12, v13, v14, v15, v16, v17, v18, v19] [zj r_49] w ov w' c s
            refine Zr_st (q := (222, [.ref 0, zj x1, zp a2, zp a3, zp a4, zj x5, zp a6, zj (x7 + r_13), zj (x8 + (r_16 - r_19)), zj (x9 + 1), zj x10, zj r_49, v12, v13, v14, v15, v16, v17, v18, v19], [])) rfl rfl rfl ?_
            show Zr sc 151 222 [.ref 0, zj x1, zp a2, zp a3, zp a4, zj x5, zp a6, zj (x7 + r_13), zj (x8 + (r_16 - r_19)), zj (x9 + 1), zj x10, zj r_49, v12, v13, v14, v15, v16, v17, v18, v19] [] w ov w' c s
            exact h
          · replace h := h.2 hp
            show Zr sc 151 212 [.ref 0, zj x1, zp a2, zp a3, zp a4, zj x5, zp a6, zj (x7 + r_13), zj (x8 + (r_16 - r_19)), zj (x9 + 1), zj x10, v11, v12, v13, v14, v15, v16, v17, v18, v19] [] w ov w' c s
            exact h
    · replace h := h.2 hp
      show Zr sc 151 119 [.ref 0, zj x1, zp a2, zp a3, zp a4, zj x5, zp a6, zj x7, zj x8, zj x9, zj x10, v11, v12, v13, v14, v15, v16, v17, v18, v19] [] w ov w' c s
      refine Zr_st (q := (255, [.ref 0, zj x1, zp a2, zp a3, zp a4, zj x5, zp a6, zj x7, zj x8, zj x9, zj x10, v11, v12, v13, v14, v15, v16, v17, v18, v19], [])) rfl rfl rfl ?_
      show Zr sc 151 255 [.ref 0, zj x1, zp a2, zp a3, zp a4, zj x5, zp a6, zj x7, zj x8, zj x9, zj x10, v11, v12, v13, v14, v15, v16, v17, v18, v19] [] w ov w' c s
      exact h
set_option maxRecDepth 100000 in
theorem V151_212 {sc : List Value} {w w' : List zE} {ov : Option Value} {c s : Nat} {x1 : Int} {a2 : Nat} {a3 : Nat} {a4 : Nat} {x5 : Int} {a6 : Nat} {x7 : Int} {x8 : Int} {x9 : Int} {x10 : Int} {v11 : Value} {v12 : Value} {v13 : Value} {v14 : Value} {v15 : Value} {v16 : Value} {v17 : Value} {v18 : Value} {v19 : Value} (h : (ov = some (zj 0) ∧ w' = w ∧ c = 0 ∧ s = 0)) : Zr sc 151 212 [.ref 0, zj x1, zp a2, zp a3, zp a4, zj x5, zp a6, zj x7, zj x8, zj x9, zj x10, v11, v12, v13, v14, v15, v16, v17, v18, v19] [] w ov w' c s := by
  refine rl_ic rfl ?_
  show Zr sc 151 213 [.ref 0, zj x1, zp a2, zp a3, zp a4, zj x5, zp a6, zj x7, zj x8, zj x9, zj x10, v11, v12, v13, v14, v15, v16, v17, v18, v19] [zj 0] w ov w' c s
  obtain ⟨h1, h2, h3, h4⟩ := h
  subst h1; subst h2; subst h3; subst h4
  exact Zr_ret (ins := .ireturn) rfl rfl
set_option maxRecDepth 100000 in
theorem V151_222 {sc : List Value} {w w' : List zE} {ov : Option Value} {c s : Nat} {x1 : Int} {a2 : Nat} {a3 : Nat} {a4 : Nat} {x5 : Int} {a6 : Nat} {x7 : Int} {x8 : Int} {x9 : Int} {x10 : Int} {x11 : Int} {v12 : Value} {v13 : Value} {v14 : Value} {v15 : Value} {v16 : Value} {v17 : Value} {v18 : Value} {v19 : Value} (h : (∃ fs_2 : List Value, w[a3]? = some (zob 6 fs_2) ∧ (∃ r_5 : Int, Zc sc 8 [zp a3, zj x10] w (some (zj r_5)) w 0 0 ∧ (∃ r_8 : Int, Zc sc 12 [zp a3, zj x10] w (some (zj r_8)) w 0 0 ∧ ((zrg x11 ∧ zrg (r_5 + r_8)) ∧ (((r_5 + r_8) ≤ x11 → Zr sc 151 255 [.ref 0, zj x1, zp a2, zp a3, zp a4, zj x5, zp a6, zj x7, zj x8, zj x9, zj x10, zj x11, v12, v13, v14, v15, v16, v17, v18, v19] [] w ov w' c s) ∧ (¬ ((r_5 + r_8) ≤ x11) → (∃ l_12 : List Int, w[a6]? = some (za l_12) ∧ (((0 : Int) ≤ x11 ∧ x11 < (l_12.length : Int) ∧ x11 ≤ (2147483647 : Int)) ∧ (((0 : Int) ≤ x11 ∧ x11 < (l_12.length : Int) ∧ x11 ≤ (2147483647 : Int)) ∧ Zr sc 151 222 [.ref 0, zj x1, zp a2, zp a3, zp a4, zj x5, zp a6, zj x7, zj x8, zj x9, zj x10, zj (x11 + 1), v12, v13, v14, v15, v16, v17, v18, v19] [] (w.set a6 (za (zsi l_12 x11 ((zgi l_12 x11) + 1)))) ov w' c s)))))))))) : Zr sc 151 222 [.ref 0, zj x1, zp a2, zp a3, zp a4, zj x5, zp a6, zj x7, zj x8, zj x9, zj x10, zj x11, v12, v13, v14, v15, v16, v17, v18, v19] [] w ov w' c s := by
  refine Zr_st (q := (224, [.ref 0, zj x1, zp a2, zp a3, zp a4, zj x5, zp a6, zj x7, zj x8, zj x9, zj x10, zj x11, v12, v13, v14, v15, v16, v17, v18, v19], [zj x11])) rfl rfl rfl ?_
  show Zr sc 151 224 [.ref 0, zj x1, zp a2, zp a3, zp a4, zj x5, zp a6, zj x7, zj x8, zj x9, zj x10, zj x11, v12, v13, v14, v15, v16, v17, v18, v19] [zj x11] w ov w' c s
  refine Zr_st (q := (225, [.ref 0, zj x1, zp a2, zp a3, zp a4, zj x5, zp a6, zj x7, zj x8, zj x9, zj x10, zj x11, v12, v13, v14, v15, v16, v17, v18, v19], [zp a3, zj x11])) rfl rfl rfl ?_
  show Zr sc 151 225 [.ref 0, zj x1, zp a2, zp a3, zp a4, zj x5, zp a6, zj x7, zj x8, zj x9, zj x10, zj x11, v12, v13, v14, v15, v16, v17, v18, v19] [zp a3, zj x11] w ov w' c s
  refine Zr_st (q := (227, [.ref 0, zj x1, zp a2, zp a3, zp a4, zj x5, zp a6, zj x7, zj x8, zj x9, zj x10, zj x11, v12, v13, v14, v15, v16, v17, v18, v19], [zj x10, zp a3, zj x11])) rfl rfl rfl ?_
  show Zr sc 151 227 [.ref 0, zj x1, zp a2, zp a3, zp a4, zj x5, zp a6, zj x7, zj x8, zj x9, zj x10, zj x11, v12, v13, v14, v15, v16, v17, v18, v19] [zj x10, zp a3, zj x11] w ov w' c s
  obtain ⟨fs_2, hl_1, h⟩ := h
  obtain ⟨r_5, hk_9, h⟩ := h
  refine rn_cal0 (ins := .invokevirtual 47) (rest := [zj x11]) rfl rfl rfl rfl (zinv_v (fs := _) hl_1 rfl rfl rfl rfl) rfl rfl hk_9 ?_
  show Zr sc 151 230 [.ref 0, zj x1, zp a2, zp a3, zp a4, zj x5, zp a6, zj x7, zj x8, zj x9, zj x10, zj x11, v12, v13, v14, v15, v16, v17, v18, v19] [zj r_5, zj x11] w ov w' c s
  refine Zr_st (q := (231, [.ref 0, zj x1, zp a2, zp a3, zp a4, zj x5, zp a6, zj x7, zj x8, zj x9, zj x10, zj x11, v12, v13, v14, v15, v16, v17, v18, v19], [zp a3, zj r_5, zj x11])) rfl rfl rfl ?_
  show Zr sc 151 231 [.ref 0, zj x1, zp a2, zp a3, zp a4, zj x5, zp a6, zj x7, zj x8, zj x9, zj x10, zj x11, v12, v13, v14, v15, v16, v17, v18, v19] [zp a3, zj r_5, zj x11] w ov w' c s
  refine Zr_st (q := (233, [.ref 0, zj x1, zp a2, zp a3, zp a4, zj x5, zp a6, zj x7, zj x8, zj x9, zj x10, zj x11, v12, v13, v14, v15, v16, v17, v18, v19], [zj x10, zp a3, zj r_5, zj x11])) rfl rfl rfl ?_
  show Zr sc 151 233 [.ref 0, zj x1, zp a2, zp a3, zp a4, zj x5, zp a6, zj x7, zj x8, zj x9, zj x10, zj x11, v12, v13, v14, v15, v16, v17, v18, v19] [zj x10, zp a3, zj r_5, zj x11] w ov w' c s
  obtain ⟨r_8, hk_9, h⟩ := h
  refine rn_cal0 (ins := .invokevirtual 38) (rest := [zj r_5, zj x11]) rfl rfl rfl rfl (zinv_v (fs := _) hl_1 rfl rfl rfl rfl) rfl rfl hk_9 ?_
  show Zr sc 151 236 [.ref 0, zj x1, zp a2, zp a3, zp a4, zj x5, zp a6, zj x7, zj x8, zj x9, zj x10, zj x11, v12, v13, v14, v15, v16, v17, v18, v19] [zj r_8, zj r_5, zj x11] w ov w' c s
  refine rl_add rfl ?_
  show Zr sc 151 237 [.ref 0, zj x1, zp a2, zp a3, zp a4, zj x5, zp a6, zj x7, zj x8, zj x9, zj x10, zj x11, v12, v13, v14, v15, v16, v17, v18, v19] [zj (r_5 + r_8), zj x11] w ov w' c s
  obtain ⟨hr_9, h⟩ := h
  refine Zr_br (p := (r_5 + r_8) ≤ x11) rfl rfl (zcmp_j (cnd := .ge) hr_9.1 hr_9.2) (fun hp => ?_) (fun hp => ?_)
  · replace h := h.1 hp
    show Zr sc 151 255 [.ref 0, zj x1, zp a2, zp a3, zp a4, zj x5, zp a6, zj x7, zj x8, zj x9, zj x10, zj x11, v12, v13, v14, v15, v16, v17, v18, v19] [] w ov w' c s
    exact h
  · replace h := h.2 hp
    show Zr sc 151 240 [.ref 0, zj x1, zp a2, zp a3, zp a4, zj x5, zp a6, zj x7, zj x8, zj x9, zj x10, zj x11, v12, v13, v14, v15, v16, v17, v18, v19] [] w ov w' c s
    refine Zr_st (q := (242, [.ref 0, zj x1, zp a2, zp a3, zp a4, zj x5, zp a6, zj x7, zj x8, zj x9, zj x10, zj x11, v12, v13, v14, v15, v16, v17, v18, v19], [zp a6])) rfl rfl rfl ?_
    show Zr sc 151 242 [.ref 0, zj x1, zp a2, zp a3, zp a4, zj x5, zp a6, zj x7, zj x8, zj x9, zj x10, zj x11, v12, v13, v14, v15, v16, v17, v18, v19] [zp a6] w ov w' c s
    refine Zr_st (q := (244, [.ref 0, zj x1, zp a2, zp a3, zp a4, zj x5, zp a6, zj x7, zj x8, zj x9, zj x10, zj x11, v12, v13, v14, v15, v16, v17, v18, v19], [zj x11, zp a6])) rfl rfl rfl ?_
    show Zr sc 151 244 [.ref 0, zj x1, zp a2, zp a3, zp a4, zj x5, zp a6, zj x7, zj x8, zj x9, zj x10, zj x11, v12, v13, v14, v15, v16, v17, v18, v19] [zj x11, zp a6] w ov w' c s
    refine Zr_st (q := (245, [.ref 0, zj x1, zp a2, zp a3, zp a4, zj x5, zp a6, zj x7, zj x8, zj x9, zj x10, zj x11, v12, v13, v14, v15, v16, v17, v18, v19], [zj x11, zp a6, zj x11, zp a6])) rfl rfl rfl ?_
    show Zr sc 151 245 [.ref 0, zj x1, zp a2, zp a3, zp a4, zj x5, zp a6, zj x7, zj x8, zj x9, zj x10, zj x11, v12, v13, v14, v15, v16, v17, v18, v19] [zj x11, zp a6, zj x11, zp a6] w ov w' c s
    obtain ⟨l_12, hw_11, h⟩ := h
    obtain ⟨hi_10, h⟩ := h
    refine rl_ia rfl hw_11 hi_10.1 hi_10.2.1 hi_10.2.2 ?_
    show Zr sc 151 246 [.ref 0, zj x1, zp a2, zp a3, zp a4, zj x5, zp a6, zj x7, zj x8, zj x9, zj x10, zj x11, v12, v13, v14, v15, v16, v17, v18, v19] [zj (zgi l_12 x11), zj x11, zp a6] w ov w' c s
    refine rl_ic rfl ?_
    show Zr sc 151 247 [.ref 0, zj x1, zp a2, zp a3, zp a4, zj x5, zp a6, zj x7, zj x8, zj x9, zj x10, zj x11, v12, v13, v14, v15, v16, v17, v18, v19] [zj 1, zj (zgi l_12 x11), zj x11, zp a6] w ov w' c s
    refine rl_add rfl ?_
    show Zr sc 151 248 [.ref 0, zj x1, zp a2, zp a3, zp a4, zj x5, zp a6, zj x7, zj x8, zj x9, zj x10, zj x11, v12, v13, v14, v15, v16, v17, v18, v19] [zj ((zgi l_12 x11) + 1), zj x11, zp a6] w ov w' c s
    obtain ⟨hi_13, h⟩ := h
    refine rl_is rfl hw_11 hi_13.1 hi_13.2.1 hi_13.2.2 ?_
    show Zr sc 151 249 [.ref 0, zj x1, zp a2, zp a3, zp a4, zj x5, zp a6, zj x7, zj x8, zj x9, zj x10, zj x11, v12, v13, v14, v15, v16, v17, v18, v19] [] (w.set a6 (za (zsi l_12 x11 ((zgi l_12 x11) + 1)))) ov w' c s
    refine rl_inc rfl rfl rfl rfl ?_
    show Zr sc 151 252 [.ref 0, zj x1, zp a2, zp a3, zp a4, zj x5, zp a6, zj x7, zj x8, zj x9, zj x10, zj (x11 + 1), v12, v13, v14, v15, v16, v17, v18, v19] [] (w.set a6 (za (zsi l_12 x11 ((zgi l_12 x11) + 1)))) ov w' c s
    refine Zr_st (q := (222, [.ref 0, zj x1, zp a2, zp a3, zp a4, zj x5, zp a6, zj x7, zj x8, zj x9, zj x10, zj (x11 + 1), v12, v13, v14, v15, v16, v17, v18, v19], [])) rfl rfl rfl ?_
    show Zr sc 151 222 [.ref 0, zj x1, zp a2, zp a3, zp a4, zj x5, zp a6, zj x7, zj x8, zj x9, zj x10, zj (x11 + 1), v12, v13, v14, v15, v16, v17, v18, v19] [] (w.set a6 (za (zsi l_12 x11 ((zgi l_12 x11) + 1)))) ov w' c s
    exact h
set_option maxRecDepth 100000 in
theorem V151_255 {sc : List Value} {w w' : List zE} {ov : Option Value} {c s : Nat} {x1 : Int} {a2 : Nat} {a3 : Nat} {a4 : Nat} {x5 : Int} {a6 : Nat} {x7 : Int} {x8 : Int} {x9 : Int} {x10 : Int} {v11 : Value} {v12 : Value} {v13 : Value} {v14 : Value} {v15 : Value} {v16 : Value} {v17 : Value} {v18 : Value} {v19 : Value} (h : Zr sc 151 101 [.ref 0, zj x1, zp a2, zp a3, zp a4, zj x5, zp a6, zj x7, zj x8, zj x9, zj (x10 + 1), v11, v12, v13, v14, v15, v16, v17, v18, v19] [] w ov w' c s) : Zr sc 151 255 [.ref 0, zj x1, zp a2, zp a3, zp a4, zj x5, zp a6, zj x7, zj x8, zj x9, zj x10, v11, v12, v13, v14, v15, v16, v17, v18, v19] [] w ov w' c s := by
  refine rl_inc rfl rfl rfl rfl ?_
  show Zr sc 151 258 [.ref 0, zj x1, zp a2, zp a3, zp a4, zj x5, zp a6, zj x7, zj x8, zj x9, zj (x10 + 1), v11, v12, v13, v14, v15, v16, v17, v18, v19] [] w ov w' c s
  refine Zr_st (q := (101, [.ref 0, zj x1, zp a2, zp a3, zp a4, zj x5, zp a6, zj x7, zj x8, zj x9, zj (x10 + 1), v11, v12, v13, v14, v15, v16, v17, v18, v19], [])) rfl rfl rfl ?_
  show Zr sc 151 101 [.ref 0, zj x1, zp a2, zp a3, zp a4, zj x5, zp a6, zj x7, zj x8, zj x9, zj (x10 + 1), v11, v12, v13, v14, v15, v16, v17, v18, v19] [] w ov w' c s
  exact h
set_option maxRecDepth 100000 in
theorem V151_270 {sc : List Value} {w w' : List zE} {ov : Option Value} {c s : Nat} {x1 : Int} {a2 : Nat} {a3 : Nat} {a4 : Nat} {x5 : Int} {a6 : Nat} {x7 : Int} {x8 : Int} {x9 : Int} {x10 : Int} {x11 : Int} {x12 : Int} {v13 : Value} {v14 : Value} {v15 : Value} {v16 : Value} {v17 : Value} {v18 : Value} {v19 : Value} {dr : Int} {wy : Int} {st : Int} {hd : Int} {nm : Int} {ar : Int} {hn : Int} {pk : Int} {D : Nat} {tl : Int} (L0a2 : w[a2]? = some (zob 7 [zp (a2 + 1), .ref 0, zj dr, zj wy, zj st, zj hd, zp (a2 + 73), zj nm, zp (a2 + 74), zp (a2 + 75), zp (a2 + 76), zj ar, zj hn, zp (a2 + 77), zj pk, zp D, zj tl])) (h : (∃ fs_2 : List Value, w[a3]? = some (zob 6 fs_2) ∧ (∃ r_5 : Int, Zc sc 19 [zp a3] w (some (zj r_5)) w 0 0 ∧ ((zrg x12 ∧ zrg r_5) ∧ ((r_5 ≤ x12 → (∃ l_8 : List Int, w[a6]? = some (za l_8) ∧ Zr sc 151 390 [.ref 0, zj x1, zp a2, zp a3, zp a4, zj x5, zp a6, zj x7, zj x8, zj x9, zj x10, zj x11, zp a6, zj (l_8.length : Int), zj 0, v15, v16, v17, v18, v19] [] w ov w' c s)) ∧ (¬ (r_5 ≤ x12) → (∃ r_11 : Int, Zc sc 22 [zp a3, zj x12] w (some (zj r_11)) w 0 0 ∧ (∃ r_14 : Int, Zc sc 25 [zp a3, zj x12] w (some (zj r_14)) w 0 0 ∧ ((zrg r_11 ∧ zrg x10) ∧ ((r_11 < x10 → Zr sc 151 328 [.ref 0, zj x1, zp a2, zp a3, zp a4, zj x5, zp a6, zj x7, zj x8, zj x9, zj x10, zj x11, zj x12, zj r_11, zj r_14, v15, v16, v17, v18, v19] [] w ov w' c s) ∧ (¬ (r_11 < x10) → ((zrg r_14 ∧ zrg 1) ∧ ((r_14 < 1 → Zr sc 151 328 [.ref 0, zj x1, zp a2, zp a3, zp a4, zj x5, zp a6, zj x7, zj x8, zj x9, zj x10, zj x11, zj x12, zj r_11, zj r_14, v15, v16, v17, v18, v19] [] w ov w' c s) ∧ (¬ (r_14 < 1) → ((zrg wy ∧ zrg 4) ∧ ((4 ≤ wy → Zr sc 151 330 [.ref 0, zj x1, zp a2, zp a3, zp a4, zj x5, zp a6, zj x7, zj x8, zj x9, zj x10, zj x11, zj x12, zj r_11, zj r_14, v15, v16, v17, v18, v19] [] w ov w' c s) ∧ (¬ (4 ≤ wy) → ((zrg x12) ∧ ((x12 ≤ 0 → Zr sc 151 330 [.ref 0, zj x1, zp a2, zp a3, zp a4, zj x5, zp a6, zj x7, zj x8, zj x9, zj x10, zj x11, zj x12, zj r_11, zj r_14, v15, v16, v17, v18, v19] [] w ov w' c s) ∧ (¬ (x12 ≤ 0) → ((zrg r_11 ∧ zrg x10) ∧ ((r_11 ≠ x10 → Zr sc 151 330 [.ref 0, zj x1, zp a2, zp a3, zp a4, zj x5, zp a6, zj x7, zj x8, zj x9, zj x10, zj x11, zj x12, zj r_11, zj r_14, v15, v16, v17, v18, v19] [] w ov w' c s) ∧ (¬ (r_11 ≠ x10) → Zr sc 151 328 [.ref 0, zj x1, zp a2, zp a3, zp a4, zj x5, zp a6, zj x7, zj x8, zj x9, zj x10, zj x11, zj x12, zj r_11, zj r_14, v15, v16, v17, v18, v19] [] w ov w' c s))))))))))))))))))))))) : Zr sc 151 270 [.ref 0, zj x1, zp a2, zp a3, zp a4, zj x5, zp a6, zj x7, zj x8, zj x9, zj x10, zj x11, zj x12, v13, v14, v15, v16, v17, v18, v19] [] w ov w' c s := by
  refine Zr_st (q := (272, [.ref 0, zj x1, zp a2, zp a3, zp a4, zj x5, zp a6, zj x7, zj x8, zj x9, zj x10, zj x11, zj x12, v13, v14, v15, v16, v17, v18, v19], [zj x12])) rfl rfl rfl ?_
  show Zr sc 151 272 [.ref 0, zj x1, zp a2, zp a3, zp a4, zj x5, zp a6, zj x7, zj x8, zj x9, zj x10, zj x11, zj x12, v13, v14, v15, v16, v17, v18, v19] [zj x12] w ov w' c s
  refine Zr_st (q := (273, [.ref 0, zj x1, zp a2, zp a3, zp a4, zj x5, zp a6, zj x7, zj x8, zj x9, zj x10, zj x11, zj x12, v13, v14, v15, v16, v17, v18, v19], [zp a3, zj x12])) rfl rfl rfl ?_
  show Zr sc 151 273 [.ref 0, zj x1, zp a2, zp a3, zp a4, zj x5, zp a6, zj x7, zj x8, zj x9, zj x10, zj x11, zj x12, v13, v14, v15, v16, v17, v18, v19] [zp a3, zj x12] w ov w' c s
  obtain ⟨fs_2, hl_1, h⟩ := h
  obtain ⟨r_5, hk_9, h⟩ := h
  refine rn_cal0 (ins := .invokevirtual 53) (rest := [zj x12]) rfl rfl rfl rfl (zinv_v (fs := _) hl_1 rfl rfl rfl rfl) rfl rfl hk_9 ?_
  show Zr sc 151 276 [.ref 0, zj x1, zp a2, zp a3, zp a4, zj x5, zp a6, zj x7, zj x8, zj x9, zj x10, zj x11, zj x12, v13, v14, v15, v16, v17, v18, v19] [zj r_5, zj x12] w ov w' c s
  obtain ⟨hr_6, h⟩ := h
  refine Zr_br (p := r_5 ≤ x12) rfl rfl (zcmp_j (cnd := .ge) hr_6.1 hr_6.2) (fun hp => ?_) (fun hp => ?_)
  · replace h := h.1 hp
    show Zr sc 151 378 [.ref 0, zj x1, zp a2, zp a3, zp a4, zj x5, zp a6, zj x7, zj x8, zj x9, zj x10, zj x11, zj x12, v13, v14, v15, v16, v17, v18, v19] [] w ov w' c s
    refine Zr_st (q := (380, [.ref 0, zj x1, zp a2, zp a3, zp a4, zj x5, zp a6, zj x7, zj x8, zj x9, zj x10, zj x11, zj x12, v13, v14, v15, v16, v17, v18, v19], [zp a6])) rfl rfl rfl ?_
    show Zr sc 151 380 [.ref 0, zj x1, zp a2, zp a3, zp a4, zj x5, zp a6, zj x7, zj x8, zj x9, zj x10, zj x11, zj x12, v13, v14, v15, v16, v17, v18, v19] [zp a6] w ov w' c s
    refine Zr_st (q := (382, [.ref 0, zj x1, zp a2, zp a3, zp a4, zj x5, zp a6, zj x7, zj x8, zj x9, zj x10, zj x11, zp a6, v13, v14, v15, v16, v17, v18, v19], [])) rfl rfl rfl ?_
    show Zr sc 151 382 [.ref 0, zj x1, zp a2, zp a3, zp a4, zj x5, zp a6, zj x7, zj x8, zj x9, zj x10, zj x11, zp a6, v13, v14, v15, v16, v17, v18, v19] [] w ov w' c s
    refine Zr_st (q := (384, [.ref 0, zj x1, zp a2, zp a3, zp a4, zj x5, zp a6, zj x7, zj x8, zj x9, zj x10, zj x11, zp a6, v13, v14, v15, v16, v17, v18, v19], [zp a6])) rfl rfl rfl ?_
    show Zr sc 151 384 [.ref 0, zj x1, zp a2, zp a3, zp a4, zj x5, zp a6, zj x7, zj x8, zj x9, zj x10, zj x11, zp a6, v13, v14, v15, v16, v17, v18, v19] [zp a6] w ov w' c s
    obtain ⟨l_8, hw_7, h⟩ := h
    refine rl_al rfl hw_7 ?_
    show Zr sc 151 385 [.ref 0, zj x1, zp a2, zp a3, zp a4, zj x5, zp a6, zj x7, zj x8, zj x9, zj x10, zj x11, zp a6, v13, v14, v15, v16, v17, v18, v19] [zj (l_8.length : Int)] w ov w' c s
    refine Zr_st (q := (387, [.ref 0, zj x1, zp a2, zp a3, zp a4, zj x5, zp a6, zj x7, zj x8, zj x9, zj x10, zj x11, zp a6, zj (l_8.length : Int), v14, v15, v16, v17, v18, v19], [])) rfl rfl rfl ?_
    show Zr sc 151 387 [.ref 0, zj x1, zp a2, zp a3, zp a4, zj x5, zp a6, zj x7, zj x8, zj x9, zj x10, zj x11, zp a6, zj (l_8.length : Int), v14, v15, v16, v17, v18, v19] [] w ov w' c s
    refine rl_ic rfl ?_
    show Zr sc 151 388 [.ref 0, zj x1, zp a2, zp a3, zp a4, zj x5, zp a6, zj x7, zj x8, zj x9, zj x10, zj x11, zp a6, zj (l_8.length : Int), v14, v15, v16, v17, v18, v19] [zj 0] w ov w' c s
    refine Zr_st (q := (390, [.ref 0, zj x1, zp a2, zp a3, zp a4, zj x5, zp a6, zj x7, zj x8, zj x9, zj x10, zj x11, zp a6, zj (l_8.length : Int), zj 0, v15, v16, v17, v18, v19], [])) rfl rfl rfl ?_
    show Zr sc 151 390 [.ref 0, zj x1, zp a2, zp a3, zp a4, zj x5, zp a6, zj x7, zj x8, zj x9, zj x10, zj x11, zp a6, zj (l_8.length : Int), zj 0, v15, v16, v17, v18, v19] [] w ov w' c s
    exact h
  · replace h := h.2 hp
    show Zr sc 151 279 [.ref 0, zj x1, zp a2, zp a3, zp a4, zj x5, zp a6, zj x7, zj x8, zj x9, zj x10, zj x11, zj x12, v13, v14, v15, v16, v17, v18, v19] [] w ov w' c s
    refine Zr_st (q := (280, [.ref 0, zj x1, zp a2, zp a3, zp a4, zj x5, zp a6, zj x7, zj x8, zj x9, zj x10, zj x11, zj x12, v13, v14, v15, v16, v17, v18, v19], [zp a3])) rfl rfl rfl ?_
    show Zr sc 151 280 [.ref 0, zj x1, zp a2, zp a3, zp a4, zj x5, zp a6, zj x7, zj x8, zj x9, zj x10, zj x11, zj x12, v13, v14, v15, v16, v17, v18, v19] [zp a3] w ov w' c s
    refine Zr_st (q := (282, [.ref 0, zj x1, zp a2, zp a3, zp a4, zj x5, zp a6, zj x7, zj x8, zj x9, zj x10, zj x11, zj x12, v13, v14, v15, v16, v17, v18, v19], [zj x12, zp a3])) rfl rfl rfl ?_
    show Zr sc 151 282 [.ref 0, zj x1, zp a2, zp a3, zp a4, zj x5, zp a6, zj x7, zj x8, zj x9, zj x10, zj x11, zj x12, v13, v14, v15, v16, v17, v18, v19] [zj x12, zp a3] w ov w' c s
    obtain ⟨r_11, hk_9, h⟩ := h
    refine rn_cal0 (ins := .invokevirtual 56) (rest := []) rfl rfl rfl rfl (zinv_v (fs := _) hl_1 rfl rfl rfl rfl) rfl rfl hk_9 ?_
    show Zr sc 151 285 [.ref 0, zj x1, zp a2, zp a3, zp a4, zj x5, zp a6, zj x7, zj x8, zj x9, zj x10, zj x11, zj x12, v13, v14, v15, v16, v17, v18, v19] [zj r_11] w ov w' c s
    refine Zr_st (q := (287, [.ref 0, zj x1, zp a2, zp a3, zp a4, zj x5, zp a6, zj x7, zj x8, zj x9, zj x10, zj x11, zj x12, zj r_11, v14, v15, v16, v17, v18, v19], [])) rfl rfl rfl ?_
    show Zr sc 151 287 [.ref 0, zj x1, zp a2, zp a3, zp a4, zj x5, zp a6, zj x7, zj x8, zj x9, zj x10, zj x11, zj x12, zj r_11, v14, v15, v16, v17, v18, v19] [] w ov w' c s
    refine Zr_st (q := (288, [.ref 0, zj x1, zp a2, zp a3, zp a4, zj x5, zp a6, zj x7, zj x8, zj x9, zj x10, zj x11, zj x12, zj r_11, v14, v15, v16, v17, v18, v19], [zp a3])) rfl rfl rfl ?_
    show Zr sc 151 288 [.ref 0, zj x1, zp a2, zp a3, zp a4, zj x5, zp a6, zj x7, zj x8, zj x9, zj x10, zj x11, zj x12, zj r_11, v14, v15, v16, v17, v18, v19] [zp a3] w ov w' c s
    refine Zr_st (q := (290, [.ref 0, zj x1, zp a2, zp a3, zp a4, zj x5, zp a6, zj x7, zj x8, zj x9, zj x10, zj x11, zj x12, zj r_11, v14, v15, v16, v17, v18, v19], [zj x12, zp a3])) rfl rfl rfl ?_
    show Zr sc 151 290 [.ref 0, zj x1, zp a2, zp a3, zp a4, zj x5, zp a6, zj x7, zj x8, zj x9, zj x10, zj x11, zj x12, zj r_11, v14, v15, v16, v17, v18, v19] [zj x12, zp a3] w ov w' c s
    obtain ⟨r_14, hk_9, h⟩ := h
    refine rn_cal0 (ins := .invokevirtual 59) (rest := []) rfl rfl rfl rfl (zinv_v (fs := _) hl_1 rfl rfl rfl rfl) rfl rfl hk_9 ?_
    show Zr sc 151 293 [.ref 0, zj x1, zp a2, zp a3, zp a4, zj x5, zp a6, zj x7, zj x8, zj x9, zj x10, zj x11, zj x12, zj r_11, v14, v15, v16, v17, v18, v19] [zj r_14] w ov w' c s
    refine Zr_st (q := (295, [.ref 0, zj x1, zp a2, zp a3, zp a4, zj x5, zp a6, zj x7, zj x8, zj x9, zj x10, zj x11, zj x12, zj r_11, zj r_14, v15, v16, v17, v18, v19], [])) rfl rfl rfl ?_
    show Zr sc 151 295 [.ref 0, zj x1, zp a2, zp a3, zp a4, zj x5, zp a6, zj x7, zj x8, zj x9, zj x10, zj x11, zj x12, zj r_11, zj r_14, v15, v16, v17, v18, v19] [] w ov w' c s
    refine Zr_st (q := (297, [.ref 0, zj x1, zp a2, zp a3, zp a4, zj x5, zp a6, zj x7, zj x8, zj x9, zj x10, zj x11, zj x12, zj r_11, zj r_14, v15, v16, v17, v18, v19], [zj r_11])) rfl rfl rfl ?_
    show Zr sc 151 297 [.ref 0, zj x1, zp a2, zp a3, zp a4, zj x5, zp a6, zj x7, zj x8, zj x9, zj x10, zj x11, zj x12, zj r_11, zj r_14, v15, v16, v17, v18, v19] [zj r_11] w ov w' c s
    refine Zr_st (q := (299, [.ref 0, zj x1, zp a2, zp a3, zp a4, zj x5, zp a6, zj x7, zj x8, zj x9, zj x10, zj x11, zj x12, zj r_11, zj r_14, v15, v16, v17, v18, v19], [zj x10, zj r_11])) rfl rfl rfl ?_
    show Zr sc 151 299 [.ref 0, zj x1, zp a2, zp a3, zp a4, zj x5, zp a6, zj x7, zj x8, zj x9, zj x10, zj x11, zj x12, zj r_11, zj r_14, v15, v16, v17, v18, v19] [zj x10, zj r_11] w ov w' c s
    obtain ⟨hr_15, h⟩ := h
    refine Zr_br (p := r_11 < x10) rfl rfl (zcmp_j (cnd := .lt) hr_15.1 hr_15.2) (fun hp => ?_) (fun hp => ?_)
    · replace h := h.1 hp
      show Zr sc 151 328 [.ref 0, zj x1, zp a2, zp a3, zp a4, zj x5, zp a6, zj x7, zj x8, zj x9, zj x10, zj x11, zj x12, zj r_11, zj r_14, v15, v16, v17, v18, v19] [] w ov w' c s
      exact h
    · replace h := h.2 hp
      show Zr sc 151 302 [.ref 0, zj x1, zp a2, zp a3, zp a4, zj x5, zp a6, zj x7, zj x8, zj x9, zj x10, zj x11, zj x12, zj r_11, zj r_14, v15, v16, v17, v18, v19] [] w ov w' c s
      refine Zr_st (q := (304, [.ref 0, zj x1, zp a2, zp a3, zp a4, zj x5, zp a6, zj x7, zj x8, zj x9, zj x10, zj x11, zj x12, zj r_11, zj r_14, v15, v16, v17, v18, v19], [zj r_14])) rfl rfl rfl ?_
      show Zr sc 151 304 [.ref 0, zj x1, zp a2, zp a3, zp a4, zj x5, zp a6, zj x7, zj x8, zj x9, zj x10, zj x11, zj x12, zj r_11, zj r_14, v15, v16, v17, v18, v19] [zj r_14] w ov w' c s
      refine rl_ic rfl ?_
      show Zr sc 151 305 [.ref 0, zj x1, zp a2, zp a3, zp a4, zj x5, zp a6, zj x7, zj x8, zj x9, zj x10, zj x11, zj x12, zj r_11, zj r_14, v15, v16, v17, v18, v19] [zj 1, zj r_14] w ov w' c s
      obtain ⟨hr_16, h⟩ := h
      refine Zr_br (p := r_14 < 1) rfl rfl (zcmp_j (cnd := .lt) hr_16.1 hr_16.2) (fun hp => ?_) (fun hp => ?_)
      · replace h := h.1 hp
        show Zr sc 151 328 [.ref 0, zj x1, zp a2, zp a3, zp a4, zj x5, zp a6, zj x7, zj x8, zj x9, zj x10, zj x11, zj x12, zj r_11, zj r_14, v15, v16, v17, v18, v19] [] w ov w' c s
        exact h
      · replace h := h.2 hp
        show Zr sc 151 308 [.ref 0, zj x1, zp a2, zp a3, zp a4, zj x5, zp a6, zj x7, zj x8, zj x9, zj x10, zj x11, zj x12, zj r_11, zj r_14, v15, v16, v17, v18, v19] [] w ov w' c s
        refine Zr_st (q := (309, [.ref 0, zj x1, zp a2, zp a3, zp a4, zj x5, zp a6, zj x7, zj x8, zj x9, zj x10, zj x11, zj x12, zj r_11, zj r_14, v15, v16, v17, v18, v19], [zp a2])) rfl rfl rfl ?_
        show Zr sc 151 309 [.ref 0, zj x1, zp a2, zp a3, zp a4, zj x5, zp a6, zj x7, zj x8, zj x9, zj x10, zj x11, zj x12, zj r_11, zj r_14, v15, v16, v17, v18, v19] [zp a2] w ov w' c s
        refine rl_gf rfl L0a2 rfl rfl ?_
        show Zr sc 151 312 [.ref 0, zj x1, zp a2, zp a3, zp a4, zj x5, zp a6, zj x7, zj x8, zj x9, zj x10, zj x11, zj x12, zj r_11, zj r_14, v15, v16, v17, v18, v19] [zj wy] w ov w' c s
        refine rl_ic rfl ?_
        show Zr sc 151 313 [.ref 0, zj x1, zp a2, zp a3, zp a4, zj x5, zp a6, zj x7, zj x8, zj x9, zj x10, zj x11, zj x12, zj r_11, zj r_14, v15, v16, v17, v18, v19] [zj 4, zj wy] w ov w' c s
        obtain ⟨hr_17, h⟩ := h
        refine Zr_br (p := 4 ≤ wy) rfl rfl (zcmp_j (cnd := .ge) hr_17.1 hr_17.2) (fun hp => ?_) (fun hp => ?_)
        · replace h := h.1 hp
          show Zr sc 151 330 [.ref 0, zj x1, zp a2, zp a3, zp a4, zj x5, zp a6, zj x7, zj x8, zj x9, zj x10, zj x11, zj x12, zj r_11, zj r_14, v15, v16, v17, v18, v19] [] w ov w' c s
          exact h
        · replace h := h.2 hp
          show Zr sc 151 316 [.ref 0, zj x1, zp a2, zp a3, zp a4, zj x5, zp a6, zj x7, zj x8, zj x9, zj x10, zj x11, zj x12, zj r_11, zj r_14, v15, v16, v17, v18, v19] [] w ov w' c s
          refine Zr_st (q := (318, [.ref 0, zj x1, zp a2, zp a3, zp a4, zj x5, zp a6, zj x7, zj x8, zj x9, zj x10, zj x11, zj x12, zj r_11, zj r_14, v15, v16, v17, v18, v19], [zj x12])) rfl rfl rfl ?_
          show Zr sc 151 318 [.ref 0, zj x1, zp a2, zp a3, zp a4, zj x5, zp a6, zj x7, zj x8, zj x9, zj x10, zj x11, zj x12, zj r_11, zj r_14, v15, v16, v17, v18, v19] [zj x12] w ov w' c s
          obtain ⟨hr_18, h⟩ := h
          refine Zr_b0 (p := x12 ≤ 0) rfl rfl (zcmp_0 (cnd := .le) hr_18) (fun hp => ?_) (fun hp => ?_)
          · replace h := h.1 hp
            show Zr sc 151 330 [.ref 0, zj x1, zp a2, zp a3, zp a4, zj x5, zp a6, zj x7, zj x8, zj x9, zj x10, zj x11, zj x12, zj r_11, zj r_14, v15, v16, v17, v18, v19] [] w ov w' c s
            exact h
          · replace h := h.2 hp
            show Zr sc 151 321 [.ref 0, zj x1, zp a2, zp a3, zp a4, zj x5, zp a6, zj x7, zj x8, zj x9, zj x10, zj x11, zj x12, zj r_11, zj r_14, v15, v16, v17, v18, v19] [] w ov w' c s
            refine Zr_st (q := (323, [.ref 0, zj x1, zp a2, zp a3, zp a4, zj x5, zp a6, zj x7, zj x8, zj x9, zj x10, zj x11, zj x12, zj r_11, zj r_14, v15, v16, v17, v18, v19], [zj r_11])) rfl rfl rfl ?_
            show Zr sc 151 323 [.ref 0, zj x1, zp a2, zp a3, zp a4, zj x5, zp a6, zj x7, zj x8, zj x9, zj x10, zj x11, zj x12, zj r_11, zj r_14, v15, v16, v17, v18, v19] [zj r_11] w ov w' c s
            refine Zr_st (q := (325, [.ref 0, zj x1, zp a2, zp a3, zp a4, zj x5, zp a6, zj x7, zj x8, zj x9, zj x10, zj x11, zj x12, zj r_11, zj r_14, v15, v16, v17, v18, v19], [zj x10, zj r_11])) rfl rfl rfl ?_
            show Zr sc 151 325 [.ref 0, zj x1, zp a2, zp a3, zp a4, zj x5, zp a6, zj x7, zj x8, zj x9, zj x10, zj x11, zj x12, zj r_11, zj r_14, v15, v16, v17, v18, v19] [zj x10, zj r_11] w ov w' c s
            obtain ⟨hr_19, h⟩ := h
            refine Zr_br (p := r_11 ≠ x10) rfl rfl (zcmp_j (cnd := .ne) hr_19.1 hr_19.2) (fun hp => ?_) (fun hp => ?_)
            · replace h := h.1 hp
              show Zr sc 151 330 [.ref 0, zj x1, zp a2, zp a3, zp a4, zj x5, zp a6, zj x7, zj x8, zj x9, zj x10, zj x11, zj x12, zj r_11, zj r_14, v15, v16, v17, v18, v19] [] w ov w' c s
              exact h
            · replace h := h.2 hp
              show Zr sc 151 328 [.ref 0, zj x1, zp a2, zp a3, zp a4, zj x5, zp a6, zj x7, zj x8, zj x9, zj x10, zj x11, zj x12, zj r_11, zj r_14, v15, v16, v17, v18, v19] [] w ov w' c s
              exact h
set_option maxRecDepth 100000 in
theorem V151_328 {sc : List Value} {w w' : List zE} {ov : Option Value} {c s : Nat} {x1 : Int} {a2 : Nat} {a3 : Nat} {a4 : Nat} {x5 : Int} {a6 : Nat} {x7 : Int} {x8 : Int} {x9 : Int} {x10 : Int} {x11 : Int} {x12 : Int} {x13 : Int} {x14 : Int} {v15 : Value} {v16 : Value} {v17 : Value} {v18 : Value} {v19 : Value} (h : (ov = some (zj 0) ∧ w' = w ∧ c = 0 ∧ s = 0)) : Zr sc 151 328 [.ref 0, zj x1, zp a2, zp a3, zp a4, zj x5, zp a6, zj x7, zj x8, zj x9, zj x10, zj x11, zj x12, zj x13, zj x14, v15, v16, v17, v18, v19] [] w ov w' c s := by
  refine rl_ic rfl ?_
  show Zr sc 151 329 [.ref 0, zj x1, zp a2, zp a3, zp a4, zj x5, zp a6, zj x7, zj x8, zj x9, zj x10, zj x11, zj x12, zj x13, zj x14, v15, v16, v17, v18, v19] [zj 0] w ov w' c s
  obtain ⟨h1, h2, h3, h4⟩ := h
  subst h1; subst h2; subst h3; subst h4
  exact Zr_ret (ins := .ireturn) rfl rfl
set_option maxRecDepth 100000 in
theorem V151_330 {sc : List Value} {w w' : List zE} {ov : Option Value} {c s : Nat} {x1 : Int} {a2 : Nat} {a3 : Nat} {a4 : Nat} {x5 : Int} {a6 : Nat} {x7 : Int} {x8 : Int} {x9 : Int} {x10 : Int} {x11 : Int} {x12 : Int} {x13 : Int} {x14 : Int} {v15 : Value} {v16 : Value} {v17 : Value} {v18 : Value} {v19 : Value} (h : ((zrg x11 ∧ zrg x14) ∧ Zr sc 151 350 [.ref 0, zj x1, zp a2, zp a3, zp a4, zj x5, zp a6, zj x7, zj x8, zj x9, zj (x13 + x14), zj (max x11 x14), zj x12, zj x13, zj x14, zj x13, v16, v17, v18, v19] [] w ov w' c s)) : Zr sc 151 330 [.ref 0, zj x1, zp a2, zp a3, zp a4, zj x5, zp a6, zj x7, zj x8, zj x9, zj x10, zj x11, zj x12, zj x13, zj x14, v15, v16, v17, v18, v19] [] w ov w' c s := by
  refine Zr_st (q := (332, [.ref 0, zj x1, zp a2, zp a3, zp a4, zj x5, zp a6, zj x7, zj x8, zj x9, zj x10, zj x11, zj x12, zj x13, zj x14, v15, v16, v17, v18, v19], [zj x13])) rfl rfl rfl ?_
  show Zr sc 151 332 [.ref 0, zj x1, zp a2, zp a3, zp a4, zj x5, zp a6, zj x7, zj x8, zj x9, zj x10, zj x11, zj x12, zj x13, zj x14, v15, v16, v17, v18, v19] [zj x13] w ov w' c s
  refine Zr_st (q := (334, [.ref 0, zj x1, zp a2, zp a3, zp a4, zj x5, zp a6, zj x7, zj x8, zj x9, zj x10, zj x11, zj x12, zj x13, zj x14, v15, v16, v17, v18, v19], [zj x14, zj x13])) rfl rfl rfl ?_
  show Zr sc 151 334 [.ref 0, zj x1, zp a2, zp a3, zp a4, zj x5, zp a6, zj x7, zj x8, zj x9, zj x10, zj x11, zj x12, zj x13, zj x14, v15, v16, v17, v18, v19] [zj x14, zj x13] w ov w' c s
  refine rl_add rfl ?_
  show Zr sc 151 335 [.ref 0, zj x1, zp a2, zp a3, zp a4, zj x5, zp a6, zj x7, zj x8, zj x9, zj x10, zj x11, zj x12, zj x13, zj x14, v15, v16, v17, v18, v19] [zj (x13 + x14)] w ov w' c s
  refine Zr_st (q := (337, [.ref 0, zj x1, zp a2, zp a3, zp a4, zj x5, zp a6, zj x7, zj x8, zj x9, zj (x13 + x14), zj x11, zj x12, zj x13, zj x14, v15, v16, v17, v18, v19], [])) rfl rfl rfl ?_
  show Zr sc 151 337 [.ref 0, zj x1, zp a2, zp a3, zp a4, zj x5, zp a6, zj x7, zj x8, zj x9, zj (x13 + x14), zj x11, zj x12, zj x13, zj x14, v15, v16, v17, v18, v19] [] w ov w' c s
  refine Zr_st (q := (339, [.ref 0, zj x1, zp a2, zp a3, zp a4, zj x5, zp a6, zj x7, zj x8, zj x9, zj (x13 + x14), zj x11, zj x12, zj x13, zj x14, v15, v16, v17, v18, v19], [zj x11])) rfl rfl rfl ?_
  show Zr sc 151 339 [.ref 0, zj x1, zp a2, zp a3, zp a4, zj x5, zp a6, zj x7, zj x8, zj x9, zj (x13 + x14), zj x11, zj x12, zj x13, zj x14, v15, v16, v17, v18, v19] [zj x11] w ov w' c s
  refine Zr_st (q := (341, [.ref 0, zj x1, zp a2, zp a3, zp a4, zj x5, zp a6, zj x7, zj x8, zj x9, zj (x13 + x14), zj x11, zj x12, zj x13, zj x14, v15, v16, v17, v18, v19], [zj x14, zj x11])) rfl rfl rfl ?_
  show Zr sc 151 341 [.ref 0, zj x1, zp a2, zp a3, zp a4, zj x5, zp a6, zj x7, zj x8, zj x9, zj (x13 + x14), zj x11, zj x12, zj x13, zj x14, v15, v16, v17, v18, v19] [zj x14, zj x11] w ov w' c s
  obtain ⟨hm_1, h⟩ := h
  refine Zr_mx (b := true) (ins := .invokestatic 66) (rest := []) rfl rfl rfl rfl (zinv_t2 (rest := []) rfl rfl rfl rfl rfl) rfl (zmx_j hm_1.1 hm_1.2) ?_
  show Zr sc 151 344 [.ref 0, zj x1, zp a2, zp a3, zp a4, zj x5, zp a6, zj x7, zj x8, zj x9, zj (x13 + x14), zj x11, zj x12, zj x13, zj x14, v15, v16, v17, v18, v19] [zj (max x11 x14)] w ov w' c s
  refine Zr_st (q := (346, [.ref 0, zj x1, zp a2, zp a3, zp a4, zj x5, zp a6, zj x7, zj x8, zj x9, zj (x13 + x14), zj (max x11 x14), zj x12, zj x13, zj x14, v15, v16, v17, v18, v19], [])) rfl rfl rfl ?_
  show Zr sc 151 346 [.ref 0, zj x1, zp a2, zp a3, zp a4, zj x5, zp a6, zj x7, zj x8, zj x9, zj (x13 + x14), zj (max x11 x14), zj x12, zj x13, zj x14, v15, v16, v17, v18, v19] [] w ov w' c s
  refine Zr_st (q := (348, [.ref 0, zj x1, zp a2, zp a3, zp a4, zj x5, zp a6, zj x7, zj x8, zj x9, zj (x13 + x14), zj (max x11 x14), zj x12, zj x13, zj x14, v15, v16, v17, v18, v19], [zj x13])) rfl rfl rfl ?_
  show Zr sc 151 348 [.ref 0, zj x1, zp a2, zp a3, zp a4, zj x5, zp a6, zj x7, zj x8, zj x9, zj (x13 + x14), zj (max x11 x14), zj x12, zj x13, zj x14, v15, v16, v17, v18, v19] [zj x13] w ov w' c s
  refine Zr_st (q := (350, [.ref 0, zj x1, zp a2, zp a3, zp a4, zj x5, zp a6, zj x7, zj x8, zj x9, zj (x13 + x14), zj (max x11 x14), zj x12, zj x13, zj x14, zj x13, v16, v17, v18, v19], [])) rfl rfl rfl ?_
  show Zr sc 151 350 [.ref 0, zj x1, zp a2, zp a3, zp a4, zj x5, zp a6, zj x7, zj x8, zj x9, zj (x13 + x14), zj (max x11 x14), zj x12, zj x13, zj x14, zj x13, v16, v17, v18, v19] [] w ov w' c s
  exact h
set_option maxRecDepth 100000 in
theorem V151_350 {sc : List Value} {w w' : List zE} {ov : Option Value} {c s : Nat} {x1 : Int} {a2 : Nat} {a3 : Nat} {a4 : Nat} {x5 : Int} {a6 : Nat} {x7 : Int} {x8 : Int} {x9 : Int} {x10 : Int} {x11 : Int} {x12 : Int} {x13 : Int} {x14 : Int} {x15 : Int} {v16 : Value} {v17 : Value} {v18 : Value} {v19 : Value} (h : ((zrg x15 ∧ zrg x10) ∧ ((x10 ≤ x15 → Zr sc 151 270 [.ref 0, zj x1, zp a2, zp a3, zp a4, zj x5, zp a6, zj x7, zj x8, zj x9, zj x10, zj x11, zj (x12 + 1), zj x13, zj x14, zj x15, v16, v17, v18, v19] [] w ov w' c s) ∧ (¬ (x10 ≤ x15) → (∃ l_4 : List Int, w[a6]? = some (za l_4) ∧ (((0 : Int) ≤ x15 ∧ x15 < (l_4.length : Int) ∧ x15 ≤ (2147483647 : Int)) ∧ (((0 : Int) ≤ x15 ∧ x15 < (l_4.length : Int) ∧ x15 ≤ (2147483647 : Int)) ∧ Zr sc 151 350 [.ref 0, zj x1, zp a2, zp a3, zp a4, zj x5, zp a6, zj x7, zj x8, zj x9, zj x10, zj x11, zj x12, zj x13, zj x14, zj (x15 + 1), v16, v17, v18, v19] [] (w.set a6 (za (zsi l_4 x15 ((zgi l_4 x15) + 1)))) ov w' c s))))))) : Zr sc 151 350 [.ref 0, zj x1, zp a2, zp a3, zp a4, zj x5, zp a6, zj x7, zj x8, zj x9, zj x10, zj x11, zj x12, zj x13, zj x14, zj x15, v16, v17, v18, v19] [] w ov w' c s := by
  refine Zr_st (q := (352, [.ref 0, zj x1, zp a2, zp a3, zp a4, zj x5, zp a6, zj x7, zj x8, zj x9, zj x10, zj x11, zj x12, zj x13, zj x14, zj x15, v16, v17, v18, v19], [zj x15])) rfl rfl rfl ?_
  show Zr sc 151 352 [.ref 0, zj x1, zp a2, zp a3, zp a4, zj x5, zp a6, zj x7, zj x8, zj x9, zj x10, zj x11, zj x12, zj x13, zj x14, zj x15, v16, v17, v18, v19] [zj x15] w ov w' c s
  refine Zr_st (q := (354, [.ref 0, zj x1, zp a2, zp a3, zp a4, zj x5, zp a6, zj x7, zj x8, zj x9, zj x10, zj x11, zj x12, zj x13, zj x14, zj x15, v16, v17, v18, v19], [zj x10, zj x15])) rfl rfl rfl ?_
  show Zr sc 151 354 [.ref 0, zj x1, zp a2, zp a3, zp a4, zj x5, zp a6, zj x7, zj x8, zj x9, zj x10, zj x11, zj x12, zj x13, zj x14, zj x15, v16, v17, v18, v19] [zj x10, zj x15] w ov w' c s
  obtain ⟨hr_1, h⟩ := h
  refine Zr_br (p := x10 ≤ x15) rfl rfl (zcmp_j (cnd := .ge) hr_1.1 hr_1.2) (fun hp => ?_) (fun hp => ?_)
  · replace h := h.1 hp
    show Zr sc 151 372 [.ref 0, zj x1, zp a2, zp a3, zp a4, zj x5, zp a6, zj x7, zj x8, zj x9, zj x10, zj x11, zj x12, zj x13, zj x14, zj x15, v16, v17, v18, v19] [] w ov w' c s
    refine rl_inc rfl rfl rfl rfl ?_
    show Zr sc 151 375 [.ref 0, zj x1, zp a2, zp a3, zp a4, zj x5, zp a6, zj x7, zj x8, zj x9, zj x10, zj x11, zj (x12 + 1), zj x13, zj x14, zj x15, v16, v17, v18, v19] [] w ov w' c s
    refine Zr_st (q := (270, [.ref 0, zj x1, zp a2, zp a3, zp a4, zj x5, zp a6, zj x7, zj x8, zj x9, zj x10, zj x11, zj (x12 + 1), zj x13, zj x14, zj x15, v16, v17, v18, v19], [])) rfl rfl rfl ?_
    show Zr sc 151 270 [.ref 0, zj x1, zp a2, zp a3, zp a4, zj x5, zp a6, zj x7, zj x8, zj x9, zj x10, zj x11, zj (x12 + 1), zj x13, zj x14, zj x15, v16, v17, v18, v19] [] w ov w' c s
    exact h
  · replace h := h.2 hp
    show Zr sc 151 357 [.ref 0, zj x1, zp a2, zp a3, zp a4, zj x5, zp a6, zj x7, zj x8, zj x9, zj x10, zj x11, zj x12, zj x13, zj x14, zj x15, v16, v17, v18, v19] [] w ov w' c s
    refine Zr_st (q := (359, [.ref 0, zj x1, zp a2, zp a3, zp a4, zj x5, zp a6, zj x7, zj x8, zj x9, zj x10, zj x11, zj x12, zj x13, zj x14, zj x15, v16, v17, v18, v19], [zp a6])) rfl rfl rfl ?_
    show Zr sc 151 359 [.ref 0, zj x1, zp a2, zp a3, zp a4, zj x5, zp a6, zj x7, zj x8, zj x9, zj x10, zj x11, zj x12, zj x13, zj x14, zj x15, v16, v17, v18, v19] [zp a6] w ov w' c s
    refine Zr_st (q := (361, [.ref 0, zj x1, zp a2, zp a3, zp a4, zj x5, zp a6, zj x7, zj x8, zj x9, zj x10, zj x11, zj x12, zj x13, zj x14, zj x15, v16, v17, v18, v19], [zj x15, zp a6])) rfl rfl rfl ?_
    show Zr sc 151 361 [.ref 0, zj x1, zp a2, zp a3, zp a4, zj x5, zp a6, zj x7, zj x8, zj x9, zj x10, zj x11, zj x12, zj x13, zj x14, zj x15, v16, v17, v18, v19] [zj x15, zp a6] w ov w' c s
    refine Zr_st (q := (362, [.ref 0, zj x1, zp a2, zp a3, zp a4, zj x5, zp a6, zj x7, zj x8, zj x9, zj x10, zj x11, zj x12, zj x13, zj x14, zj x15, v16, v17, v18, v19], [zj x15, zp a6, zj x15, zp a6])) rfl rfl rfl ?_
    show Zr sc 151 362 [.ref 0, zj x1, zp a2, zp a3, zp a4, zj x5, zp a6, zj x7, zj x8, zj x9, zj x10, zj x11, zj x12, zj x13, zj x14, zj x15, v16, v17, v18, v19] [zj x15, zp a6, zj x15, zp a6] w ov w' c s
    obtain ⟨l_4, hw_3, h⟩ := h
    obtain ⟨hi_2, h⟩ := h
    refine rl_ia rfl hw_3 hi_2.1 hi_2.2.1 hi_2.2.2 ?_
    show Zr sc 151 363 [.ref 0, zj x1, zp a2, zp a3, zp a4, zj x5, zp a6, zj x7, zj x8, zj x9, zj x10, zj x11, zj x12, zj x13, zj x14, zj x15, v16, v17, v18, v19] [zj (zgi l_4 x15), zj x15, zp a6] w ov w' c s
    refine rl_ic rfl ?_
    show Zr sc 151 364 [.ref 0, zj x1, zp a2, zp a3, zp a4, zj x5, zp a6, zj x7, zj x8, zj x9, zj x10, zj x11, zj x12, zj x13, zj x14, zj x15, v16, v17, v18, v19] [zj 1, zj (zgi l_4 x15), zj x15, zp a6] w ov w' c s
    refine rl_add rfl ?_
    show Zr sc 151 365 [.ref 0, zj x1, zp a2, zp a3, zp a4, zj x5, zp a6, zj x7, zj x8, zj x9, zj x10, zj x11, zj x12, zj x13, zj x14, zj x15, v16, v17, v18, v19] [zj ((zgi l_4 x15) + 1), zj x15, zp a6] w ov w' c s
    obtain ⟨hi_5, h⟩ := h
    refine rl_is rfl hw_3 hi_5.1 hi_5.2.1 hi_5.2.2 ?_
    show Zr sc 151 366 [.ref 0, zj x1, zp a2, zp a3, zp a4, zj x5, zp a6, zj x7, zj x8, zj x9, zj x10, zj x11, zj x12, zj x13, zj x14, zj x15, v16, v17, v18, v19] [] (w.set a6 (za (zsi l_4 x15 ((zgi l_4 x15) + 1)))) ov w' c s
    refine rl_inc rfl rfl rfl rfl ?_
    show Zr sc 151 369 [.ref 0, zj x1, zp a2, zp a3, zp a4, zj x5, zp a6, zj x7, zj x8, zj x9, zj x10, zj x11, zj x12, zj x13, zj x14, zj (x15 + 1), v16, v17, v18, v19] [] (w.set a6 (za (zsi l_4 x15 ((zgi l_4 x15) + 1)))) ov w' c s
    refine Zr_st (q := (350, [.ref 0, zj x1, zp a2, zp a3, zp a4, zj x5, zp a6, zj x7, zj x8, zj x9, zj x10, zj x11, zj x12, zj x13, zj x14, zj (x15 + 1), v16, v17, v18, v19], [])) rfl rfl rfl ?_
    show Zr sc 151 350 [.ref 0, zj x1, zp a2, zp a3, zp a4, zj x5, zp a6, zj x7, zj x8, zj x9, zj x10, zj x11, zj x12, zj x13, zj x14, zj (x15 + 1), v16, v17, v18, v19] [] (w.set a6 (za (zsi l_4 x15 ((zgi l_4 x15) + 1)))) ov w' c s
    exact h
set_option maxRecDepth 100000 in
theorem V151_390 {sc : List Value} {w w' : List zE} {ov : Option Value} {c s : Nat} {x1 : Int} {a2 : Nat} {a3 : Nat} {a4 : Nat} {x5 : Int} {a6 : Nat} {x7 : Int} {x8 : Int} {x9 : Int} {x10 : Int} {x11 : Int} {a12 : Nat} {x13 : Int} {x14 : Int} {v15 : Value} {v16 : Value} {v17 : Value} {v18 : Value} {v19 : Value} (h : ((zrg x14 ∧ zrg x13) ∧ ((x13 ≤ x14 → (∃ fs_3 : List Value, w[a3]? = some (zob 6 fs_3) ∧ (∃ r_6 : Int, Zc sc 27 [zp a3] w (some (zj r_6)) w 0 0 ∧ ((zrg r_6 ∧ zrg x7) ∧ ((r_6 ≠ x7 → Zr sc 151 463 [.ref 0, zj x1, zp a2, zp a3, zp a4, zj x5, zp a6, zj x7, zj x8, zj x9, zj x10, zj x11, zp a12, zj x13, zj x14, v15, v16, v17, v18, v19] [] w ov w' c s) ∧ (¬ (r_6 ≠ x7) → (∃ r_10 : Int, Zc sc 29 [zp a3] w (some (zj r_10)) w 0 0 ∧ ((zrg r_10 ∧ zrg x8) ∧ ((r_10 ≠ x8 → Zr sc 151 463 [.ref 0, zj x1, zp a2, zp a3, zp a4, zj x5, zp a6, zj x7, zj x8, zj x9, zj x10, zj x11, zp a12, zj x13, zj x14, v15, v16, v17, v18, v19] [] w ov w' c s) ∧ (¬ (r_10 ≠ x8) → (∃ r_14 : Int, Zc sc 17 [zp a3] w (some (zj r_14)) w 0 0 ∧ ((zrg r_14 ∧ zrg x9) ∧ ((r_14 ≠ x9 → Zr sc 151 463 [.ref 0, zj x1, zp a2, zp a3, zp a4, zj x5, zp a6, zj x7, zj x8, zj x9, zj x10, zj x11, zp a12, zj x13, zj x14, v15, v16, v17, v18, v19] [] w ov w' c s) ∧ (¬ (r_14 ≠ x9) → (∃ r_18 : Int, Zc sc 31 [zp a3] w (some (zj r_18)) w 0 0 ∧ ((zrg r_18 ∧ zrg x11) ∧ ((r_18 ≠ x11 → Zr sc 151 463 [.ref 0, zj x1, zp a2, zp a3, zp a4, zj x5, zp a6, zj x7, zj x8, zj x9, zj x10, zj x11, zp a12, zj x13, zj x14, v15, v16, v17, v18, v19] [] w ov w' c s) ∧ (¬ (r_18 ≠ x11) → (∃ r_22 : Int, Zc sc 35 [zp a3] w (some (zj r_22)) w 0 0 ∧ ((zrg r_22 ∧ zrg x7) ∧ ((x7 ≤ r_22 → Zr sc 151 468 [.ref 0, zj x1, zp a2, zp a3, zp a4, zj x5, zp a6, zj x7, zj x8, zj x9, zj x10, zj x11, zj 0, zj x13, zj x14, v15, v16, v17, v18, v19] [] w ov w' c s) ∧ (¬ (x7 ≤ r_22) → Zr sc 151 463 [.ref 0, zj x1, zp a2, zp a3, zp a4, zj x5, zp a6, zj x7, zj x8, zj x9, zj x10, zj x11, zp a12, zj x13, zj x14, v15, v16, v17, v18, v19] [] w ov w' c s)))))))))))))))))))))) ∧ (¬ (x13 ≤ x14) → (∃ l_26 : List Int, w[a12]? = some (za l_26) ∧ (((0 : Int) ≤ x14 ∧ x14 < (l_26.length : Int) ∧ x14 ≤ (2147483647 : Int)) ∧ ((zrg (zgi l_26 x14) ∧ zrg 1) ∧ (((zgi l_26 x14) = 1 → Zr sc 151 390 [.ref 0, zj x1, zp a2, zp a3, zp a4, zj x5, zp a6, zj x7, zj x8, zj x9, zj x10, zj x11, zp a12, zj x13, zj (x14 + 1), zj (zgi l_26 x14), v16, v17, v18, v19] [] w ov w' c s) ∧ (¬ ((zgi l_26 x14) = 1) → (ov = some (zj 0) ∧ w' = w ∧ c = 0 ∧ s = 0)))))))))) : Zr sc 151 390 [.ref 0, zj x1, zp a2, zp a3, zp a4, zj x5, zp a6, zj x7, zj x8, zj x9, zj x10, zj x11, zp a12, zj x13, zj x14, v15, v16, v17, v18, v19] [] w ov w' c s := by
  refine Zr_st (q := (392, [.ref 0, zj x1, zp a2, zp a3, zp a4, zj x5, zp a6, zj x7, zj x8, zj x9, zj x10, zj x11, zp a12, zj x13, zj x14, v15, v16, v17, v18, v19], [zj x14])) rfl rfl rfl ?_
  show Zr sc 151 392 [.ref 0, zj x1, zp a2, zp a3, zp a4, zj x5, zp a6, zj x7, zj x8, zj x9, zj x10, zj x11, zp a12, zj x13, zj x14, v15, v16, v17, v18, v19] [zj x14] w ov w' c s
  refine Zr_st (q := (394, [.ref 0, zj x1, zp a2, zp a3, zp a4, zj x5, zp a6, zj x7, zj x8, zj x9, zj x10, zj x11, zp a12, zj x13, zj x14, v15, v16, v17, v18, v19], [zj x13, zj x14])) rfl rfl rfl ?_
  show Zr sc 151 394 [.ref 0, zj x1, zp a2, zp a3, zp a4, zj x5, zp a6, zj x7, zj x8, zj x9, zj x10, zj x11, zp a12, zj x13, zj x14, v15, v16, v17, v18, v19] [zj x13, zj x14] w ov w' c s
  obtain ⟨hr_1, h⟩ := h
  refine Zr_br (p := x13 ≤ x14) rfl rfl (zcmp_j (cnd := .ge) hr_1.1 hr_1.2) (fun hp => ?_) (fun hp => ?_)
  · replace h := h.1 hp
    show Zr sc 151 418 [.ref 0, zj x1, zp a2, zp a3, zp a4, zj x5, zp a6, zj x7, zj x8, zj x9, zj x10, zj x11, zp a12, zj x13, zj x14, v15, v16, v17, v18, v19] [] w ov w' c s
    refine Zr_st (q := (419, [.ref 0, zj x1, zp a2, zp a3, zp a4, zj x5, zp a6, zj x7, zj x8, zj x9, zj x10, zj x11, zp a12, zj x13, zj x14, v15, v16, v17, v18, v19], [zp a3])) rfl rfl rfl ?_
    show Zr sc 151 419 [.ref 0, zj x1, zp a2, zp a3, zp a4, zj x5, zp a6, zj x7, zj x8, zj x9, zj x10, zj x11, zp a12, zj x13, zj x14, v15, v16, v17, v18, v19] [zp a3] w ov w' c s
    obtain ⟨fs_3, hl_2, h⟩ := h
    obtain ⟨r_6, hk_9, h⟩ := h
    refine rn_cal0 (ins := .invokevirtual 72) (rest := []) rfl rfl rfl rfl (zinv_v (fs := _) hl_2 rfl rfl rfl rfl) rfl rfl hk_9 ?_
    show Zr sc 151 422 [.ref 0, zj x1, zp a2, zp a3, zp a4, zj x5, zp a6, zj x7, zj x8, zj x9, zj x10, zj x11, zp a12, zj x13, zj x14, v15, v16, v17, v18, v19] [zj r_6] w ov w' c s
    refine Zr_st (q := (424, [.ref 0, zj x1, zp a2, zp a3, zp a4, zj x5, zp a6, zj x7, zj x8, zj x9, zj x10, zj x11, zp a12, zj x13, zj x14, v15, v16, v17, v18, v19], [zj x7, zj r_6])) rfl rfl rfl ?_
    show Zr sc 151 424 [.ref 0, zj x1, zp a2, zp a3, zp a4, zj x5, zp a6, zj x7, zj x8, zj x9, zj x10, zj x11, zp a12, zj x13, zj x14, v15, v16, v17, v18, v19] [zj x7, zj r_6] w ov w' c s
    obtain ⟨hr_7, h⟩ := h
    refine Zr_br (p := r_6 ≠ x7) rfl rfl (zcmp_j (cnd := .ne) hr_7.1 hr_7.2) (fun hp => ?_) (fun hp => ?_)
    · replace h := h.1 hp
      show Zr sc 151 463 [.ref 0, zj x1, zp a2, zp a3, zp a4, zj x5, zp a6, zj x7, zj x8, zj x9, zj x10, zj x11, zp a12, zj x13, zj x14, v15, v16, v17, v18, v19] [] w ov w' c s
      exact h
    · replace h := h.2 hp
      show Zr sc 151 427 [.ref 0, zj x1, zp a2, zp a3, zp a4, zj x5, zp a6, zj x7, zj x8, zj x9, zj x10, zj x11, zp a12, zj x13, zj x14, v15, v16, v17, v18, v19] [] w ov w' c s
      refine Zr_st (q := (428, [.ref 0, zj x1, zp a2, zp a3, zp a4, zj x5, zp a6, zj x7, zj x8, zj x9, zj x10, zj x11, zp a12, zj x13, zj x14, v15, v16, v17, v18, v19], [zp a3])) rfl rfl rfl ?_
      show Zr sc 151 428 [.ref 0, zj x1, zp a2, zp a3, zp a4, zj x5, zp a6, zj x7, zj x8, zj x9, zj x10, zj x11, zp a12, zj x13, zj x14, v15, v16, v17, v18, v19] [zp a3] w ov w' c s
      obtain ⟨r_10, hk_9, h⟩ := h
      refine rn_cal0 (ins := .invokevirtual 75) (rest := []) rfl rfl rfl rfl (zinv_v (fs := _) hl_2 rfl rfl rfl rfl) rfl rfl hk_9 ?_
      show Zr sc 151 431 [.ref 0, zj x1, zp a2, zp a3, zp a4, zj x5, zp a6, zj x7, zj x8, zj x9, zj x10, zj x11, zp a12, zj x13, zj x14, v15, v16, v17, v18, v19] [zj r_10] w ov w' c s
      refine Zr_st (q := (433, [.ref 0, zj x1, zp a2, zp a3, zp a4, zj x5, zp a6, zj x7, zj x8, zj x9, zj x10, zj x11, zp a12, zj x13, zj x14, v15, v16, v17, v18, v19], [zj x8, zj r_10])) rfl rfl rfl ?_
      show Zr sc 151 433 [.ref 0, zj x1, zp a2, zp a3, zp a4, zj x5, zp a6, zj x7, zj x8, zj x9, zj x10, zj x11, zp a12, zj x13, zj x14, v15, v16, v17, v18, v19] [zj x8, zj r_10] w ov w' c s
      obtain ⟨hr_11, h⟩ := h
      refine Zr_br (p := r_10 ≠ x8) rfl rfl (zcmp_j (cnd := .ne) hr_11.1 hr_11.2) (fun hp => ?_) (fun hp => ?_)
      · replace h := h.1 hp
        show Zr sc 151 463 [.ref 0, zj x1, zp a2, zp a3, zp a4, zj x5, zp a6, zj x7, zj x8, zj x9, zj x10, zj x11, zp a12, zj x13, zj x14, v15, v16, v17, v18, v19] [] w ov w' c s
        exact h
      · replace h := h.2 hp
        show Zr sc 151 436 [.ref 0, zj x1, zp a2, zp a3, zp a4, zj x5, zp a6, zj x7, zj x8, zj x9, zj x10, zj x11, zp a12, zj x13, zj x14, v15, v16, v17, v18, v19] [] w ov w' c s
        refine Zr_st (q := (437, [.ref 0, zj x1, zp a2, zp a3, zp a4, zj x5, zp a6, zj x7, zj x8, zj x9, zj x10, zj x11, zp a12, zj x13, zj x14, v15, v16, v17, v18, v19], [zp a3])) rfl rfl rfl ?_
        show Zr sc 151 437 [.ref 0, zj x1, zp a2, zp a3, zp a4, zj x5, zp a6, zj x7, zj x8, zj x9, zj x10, zj x11, zp a12, zj x13, zj x14, v15, v16, v17, v18, v19] [zp a3] w ov w' c s
        obtain ⟨r_14, hk_9, h⟩ := h
        refine rn_cal0 (ins := .invokevirtual 78) (rest := []) rfl rfl rfl rfl (zinv_v (fs := _) hl_2 rfl rfl rfl rfl) rfl rfl hk_9 ?_
        show Zr sc 151 440 [.ref 0, zj x1, zp a2, zp a3, zp a4, zj x5, zp a6, zj x7, zj x8, zj x9, zj x10, zj x11, zp a12, zj x13, zj x14, v15, v16, v17, v18, v19] [zj r_14] w ov w' c s
        refine Zr_st (q := (442, [.ref 0, zj x1, zp a2, zp a3, zp a4, zj x5, zp a6, zj x7, zj x8, zj x9, zj x10, zj x11, zp a12, zj x13, zj x14, v15, v16, v17, v18, v19], [zj x9, zj r_14])) rfl rfl rfl ?_
        show Zr sc 151 442 [.ref 0, zj x1, zp a2, zp a3, zp a4, zj x5, zp a6, zj x7, zj x8, zj x9, zj x10, zj x11, zp a12, zj x13, zj x14, v15, v16, v17, v18, v19] [zj x9, zj r_14] w ov w' c s
        obtain ⟨hr_15, h⟩ := h
        refine Zr_br (p := r_14 ≠ x9) rfl rfl (zcmp_j (cnd := .ne) hr_15.1 hr_15.2) (fun hp => ?_) (fun hp => ?_)
        · replace h := h.1 hp
          show Zr sc 151 463 [.ref 0, zj x1, zp a2, zp a3, zp a4, zj x5, zp a6, zj x7, zj x8, zj x9, zj x10, zj x11, zp a12, zj x13, zj x14, v15, v16, v17, v18, v19] [] w ov w' c s
          exact h
        · replace h := h.2 hp
          show Zr sc 151 445 [.ref 0, zj x1, zp a2, zp a3, zp a4, zj x5, zp a6, zj x7, zj x8, zj x9, zj x10, zj x11, zp a12, zj x13, zj x14, v15, v16, v17, v18, v19] [] w ov w' c s
          refine Zr_st (q := (446, [.ref 0, zj x1, zp a2, zp a3, zp a4, zj x5, zp a6, zj x7, zj x8, zj x9, zj x10, zj x11, zp a12, zj x13, zj x14, v15, v16, v17, v18, v19], [zp a3])) rfl rfl rfl ?_
          show Zr sc 151 446 [.ref 0, zj x1, zp a2, zp a3, zp a4, zj x5, zp a6, zj x7, zj x8, zj x9, zj x10, zj x11, zp a12, zj x13, zj x14, v15, v16, v17, v18, v19] [zp a3] w ov w' c s
          obtain ⟨r_18, hk_9, h⟩ := h
          refine rn_cal0 (ins := .invokevirtual 81) (rest := []) rfl rfl rfl rfl (zinv_v (fs := _) hl_2 rfl rfl rfl rfl) rfl rfl hk_9 ?_
          show Zr sc 151 449 [.ref 0, zj x1, zp a2, zp a3, zp a4, zj x5, zp a6, zj x7, zj x8, zj x9, zj x10, zj x11, zp a12, zj x13, zj x14, v15, v16, v17, v18, v19] [zj r_18] w ov w' c s
          refine Zr_st (q := (451, [.ref 0, zj x1, zp a2, zp a3, zp a4, zj x5, zp a6, zj x7, zj x8, zj x9, zj x10, zj x11, zp a12, zj x13, zj x14, v15, v16, v17, v18, v19], [zj x11, zj r_18])) rfl rfl rfl ?_
          show Zr sc 151 451 [.ref 0, zj x1, zp a2, zp a3, zp a4, zj x5, zp a6, zj x7, zj x8, zj x9, zj x10, zj x11, zp a12, zj x13, zj x14, v15, v16, v17, v18, v19] [zj x11, zj r_18] w ov w' c s
          obtain ⟨hr_19, h⟩ := h
          refine Zr_br (p := r_18 ≠ x11) rfl rfl (zcmp_j (cnd := .ne) hr_19.1 hr_19.2) (fun hp => ?_) (fun hp => ?_)
          · replace h := h.1 hp
            show Zr sc 151 463 [.ref 0, zj x1, zp a2, zp a3, zp a4, zj x5, zp a6, zj x7, zj x8, zj x9, zj x10, zj x11, zp a12, zj x13, zj x14, v15, v16, v17, v18, v19] [] w ov w' c s
            exact h
          · replace h := h.2 hp
            show Zr sc 151 454 [.ref 0, zj x1, zp a2, zp a3, zp a4, zj x5, zp a6, zj x7, zj x8, zj x9, zj x10, zj x11, zp a12, zj x13, zj x14, v15, v16, v17, v18, v19] [] w ov w' c s
            refine Zr_st (q := (455, [.ref 0, zj x1, zp a2, zp a3, zp a4, zj x5, zp a6, zj x7, zj x8, zj x9, zj x10, zj x11, zp a12, zj x13, zj x14, v15, v16, v17, v18, v19], [zp a3])) rfl rfl rfl ?_
            show Zr sc 151 455 [.ref 0, zj x1, zp a2, zp a3, zp a4, zj x5, zp a6, zj x7, zj x8, zj x9, zj x10, zj x11, zp a12, zj x13, zj x14, v15, v16, v17, v18, v19] [zp a3] w ov w' c s
            obtain ⟨r_22, hk_9, h⟩ := h
            refine rn_cal0 (ins := .invokevirtual 84) (rest := []) rfl rfl rfl rfl (zinv_v (fs := _) hl_2 rfl rfl rfl rfl) rfl rfl hk_9 ?_
            show Zr sc 151 458 [.ref 0, zj x1, zp a2, zp a3, zp a4, zj x5, zp a6, zj x7, zj x8, zj x9, zj x10, zj x11, zp a12, zj x13, zj x14, v15, v16, v17, v18, v19] [zj r_22] w ov w' c s
            refine Zr_st (q := (460, [.ref 0, zj x1, zp a2, zp a3, zp a4, zj x5, zp a6, zj x7, zj x8, zj x9, zj x10, zj x11, zp a12, zj x13, zj x14, v15, v16, v17, v18, v19], [zj x7, zj r_22])) rfl rfl rfl ?_
            show Zr sc 151 460 [.ref 0, zj x1, zp a2, zp a3, zp a4, zj x5, zp a6, zj x7, zj x8, zj x9, zj x10, zj x11, zp a12, zj x13, zj x14, v15, v16, v17, v18, v19] [zj x7, zj r_22] w ov w' c s
            obtain ⟨hr_23, h⟩ := h
            refine Zr_br (p := x7 ≤ r_22) rfl rfl (zcmp_j (cnd := .ge) hr_23.1 hr_23.2) (fun hp => ?_) (fun hp => ?_)
            · replace h := h.1 hp
              show Zr sc 151 465 [.ref 0, zj x1, zp a2, zp a3, zp a4, zj x5, zp a6, zj x7, zj x8, zj x9, zj x10, zj x11, zp a12, zj x13, zj x14, v15, v16, v17, v18, v19] [] w ov w' c s
              refine rl_ic rfl ?_
              show Zr sc 151 466 [.ref 0, zj x1, zp a2, zp a3, zp a4, zj x5, zp a6, zj x7, zj x8, zj x9, zj x10, zj x11, zp a12, zj x13, zj x14, v15, v16, v17, v18, v19] [zj 0] w ov w' c s
              refine Zr_st (q := (468, [.ref 0, zj x1, zp a2, zp a3, zp a4, zj x5, zp a6, zj x7, zj x8, zj x9, zj x10, zj x11, zj 0, zj x13, zj x14, v15, v16, v17, v18, v19], [])) rfl rfl rfl ?_
              show Zr sc 151 468 [.ref 0, zj x1, zp a2, zp a3, zp a4, zj x5, zp a6, zj x7, zj x8, zj x9, zj x10, zj x11, zj 0, zj x13, zj x14, v15, v16, v17, v18, v19] [] w ov w' c s
              exact h
            · replace h := h.2 hp
              show Zr sc 151 463 [.ref 0, zj x1, zp a2, zp a3, zp a4, zj x5, zp a6, zj x7, zj x8, zj x9, zj x10, zj x11, zp a12, zj x13, zj x14, v15, v16, v17, v18, v19] [] w ov w' c s
              exact h
  · replace h := h.2 hp
    show Zr sc 151 397 [.ref 0, zj x1, zp a2, zp a3, zp a4, zj x5, zp a6, zj x7, zj x8, zj x9, zj x10, zj x11, zp a12, zj x13, zj x14, v15, v16, v17, v18, v19] [] w ov w' c s
    refine Zr_st (q := (399, [.ref 0, zj x1, zp a2, zp a3, zp a4, zj x5, zp a6, zj x7, zj x8, zj x9, zj x10, zj x11, zp a12, zj x13, zj x14, v15, v16, v17, v18, v19], [zp a12])) rfl rfl rfl ?_
    show Zr sc 151 399 [.ref 0, zj x1, zp a2, zp a3, zp a4, zj x5, zp a6, zj x7, zj x8, zj x9, zj x10, zj x11, zp a12, zj x13, zj x14, v15, v16, v17, v18, v19] [zp a12] w ov w' c s
    refine Zr_st (q := (401, [.ref 0, zj x1, zp a2, zp a3, zp a4, zj x5, zp a6, zj x7, zj x8, zj x9, zj x10, zj x11, zp a12, zj x13, zj x14, v15, v16, v17, v18, v19], [zj x14, zp a12])) rfl rfl rfl ?_
    show Zr sc 151 401 [.ref 0, zj x1, zp a2, zp a3, zp a4, zj x5, zp a6, zj x7, zj x8, zj x9, zj x10, zj x11, zp a12, zj x13, zj x14, v15, v16, v17, v18, v19] [zj x14, zp a12] w ov w' c s
    obtain ⟨l_26, hw_25, h⟩ := h
    obtain ⟨hi_24, h⟩ := h
    refine rl_ia rfl hw_25 hi_24.1 hi_24.2.1 hi_24.2.2 ?_
    show Zr sc 151 402 [.ref 0, zj x1, zp a2, zp a3, zp a4, zj x5, zp a6, zj x7, zj x8, zj x9, zj x10, zj x11, zp a12, zj x13, zj x14, v15, v16, v17, v18, v19] [zj (zgi l_26 x14)] w ov w' c s
    refine Zr_st (q := (404, [.ref 0, zj x1, zp a2, zp a3, zp a4, zj x5, zp a6, zj x7, zj x8, zj x9, zj x10, zj x11, zp a12, zj x13, zj x14, zj (zgi l_26 x14), v16, v17, v18, v19], [])) rfl rfl rfl ?_
    show Zr sc 151 404 [.ref 0, zj x1, zp a2, zp a3, zp a4, zj x5, zp a6, zj x7, zj x8, zj x9, zj x10, zj x11, zp a12, zj x13, zj x14, zj (zgi l_26 x14), v16, v17, v18, v19] [] w ov w' c s
    refine Zr_st (q := (406, [.ref 0, zj x1, zp a2, zp a3, zp a4, zj x5, zp a6, zj x7, zj x8, zj x9, zj x10, zj x11, zp a12, zj x13, zj x14, zj (zgi l_26 x14), v16, v17, v18, v19], [zj (zgi l_26 x14)])) rfl rfl rfl ?_
    show Zr sc 151 406 [.ref 0, zj x1, zp a2, zp a3, zp a4, zj x5, zp a6, zj x7, zj x8, zj x9, zj x10, zj x11, zp a12, zj x13, zj x14, zj (zgi l_26 x14), v16, v17, v18, v19] [zj (zgi l_26 x14)] w ov w' c s
    refine rl_ic rfl ?_
    show Zr sc 151 407 [.ref 0, zj x1, zp a2, zp a3, zp a4, zj x5, zp a6, zj x7, zj x8, zj x9, zj x10, zj x11, zp a12, zj x13, zj x14, zj (zgi l_26 x14), v16, v17, v18, v19] [zj 1, zj (zgi l_26 x14)] w ov w' c s
    obtain ⟨hr_27, h⟩ := h
    refine Zr_br (p := (zgi l_26 x14) = 1) rfl rfl (zcmp_j (cnd := .eq) hr_27.1 hr_27.2) (fun hp => ?_) (fun hp => ?_)
    · replace h := h.1 hp
      show Zr sc 151 412 [.ref 0, zj x1, zp a2, zp a3, zp a4, zj x5, zp a6, zj x7, zj x8, zj x9, zj x10, zj x11, zp a12, zj x13, zj x14, zj (zgi l_26 x14), v16, v17, v18, v19] [] w ov w' c s
      refine rl_inc rfl rfl rfl rfl ?_
      show Zr sc 151 415 [.ref 0, zj x1, zp a2, zp a3, zp a4, zj x5, zp a6, zj x7, zj x8, zj x9, zj x10, zj x11, zp a12, zj x13, zj (x14 + 1), zj (zgi l_26 x14), v16, v17, v18, v19] [] w ov w' c s
      refine Zr_st (q := (390, [.ref 0, zj x1, zp a2, zp a3, zp a4, zj x5, zp a6, zj x7, zj x8, zj x9, zj x10, zj x11, zp a12, zj x13, zj (x14 + 1), zj (zgi l_26 x14), v16, v17, v18, v19], [])) rfl rfl rfl ?_
      show Zr sc 151 390 [.ref 0, zj x1, zp a2, zp a3, zp a4, zj x5, zp a6, zj x7, zj x8, zj x9, zj x10, zj x11, zp a12, zj x13, zj (x14 + 1), zj (zgi l_26 x14), v16, v17, v18, v19] [] w ov w' c s
      exact h
    · replace h := h.2 hp
      show Zr sc 151 410 [.ref 0, zj x1, zp a2, zp a3, zp a4, zj x5, zp a6, zj x7, zj x8, zj x9, zj x10, zj x11, zp a12, zj x13, zj x14, zj (zgi l_26 x14), v16, v17, v18, v19] [] w ov w' c s
      refine rl_ic rfl ?_
      show Zr sc 151 411 [.ref 0, zj x1, zp a2, zp a3, zp a4, zj x5, zp a6, zj x7, zj x8, zj x9, zj x10, zj x11, zp a12, zj x13, zj x14, zj (zgi l_26 x14), v16, v17, v18, v19] [zj 0] w ov w' c s
      obtain ⟨h1, h2, h3, h4⟩ := h
      subst h1; subst h2; subst h3; subst h4
      exact Zr_ret (ins := .ireturn) rfl rfl
set_option maxRecDepth 100000 in
theorem V151_463 {sc : List Value} {w w' : List zE} {ov : Option Value} {c s : Nat} {x1 : Int} {a2 : Nat} {a3 : Nat} {a4 : Nat} {x5 : Int} {a6 : Nat} {x7 : Int} {x8 : Int} {x9 : Int} {x10 : Int} {x11 : Int} {a12 : Nat} {x13 : Int} {x14 : Int} {v15 : Value} {v16 : Value} {v17 : Value} {v18 : Value} {v19 : Value} (h : (ov = some (zj 0) ∧ w' = w ∧ c = 0 ∧ s = 0)) : Zr sc 151 463 [.ref 0, zj x1, zp a2, zp a3, zp a4, zj x5, zp a6, zj x7, zj x8, zj x9, zj x10, zj x11, zp a12, zj x13, zj x14, v15, v16, v17, v18, v19] [] w ov w' c s := by
  refine rl_ic rfl ?_
  show Zr sc 151 464 [.ref 0, zj x1, zp a2, zp a3, zp a4, zj x5, zp a6, zj x7, zj x8, zj x9, zj x10, zj x11, zp a12, zj x13, zj x14, v15, v16, v17, v18, v19] [zj 0] w ov w' c s
  obtain ⟨h1, h2, h3, h4⟩ := h
  subst h1; subst h2; subst h3; subst h4
  exact Zr_ret (ins := .ireturn) rfl rfl
set_option maxRecDepth 100000 in
theorem V151_468 {sc : List Value} {w w' : List zE} {ov : Option Value} {c s : Nat} {x1 : Int} {a2 : Nat} {a3 : Nat} {a4 : Nat} {x5 : Int} {a6 : Nat} {x7 : Int} {x8 : Int} {x9 : Int} {x10 : Int} {x11 : Int} {x12 : Int} {x13 : Int} {x14 : Int} {v15 : Value} {v16 : Value} {v17 : Value} {v18 : Value} {v19 : Value} (h : ((zrg x12 ∧ zrg 5) ∧ ((5 ≤ x12 → (((0 : Int) ≤ x5 ∧ x5 ≤ (2147483647 : Int) ∧ (0 : Int) < 4 ∧ 4 ≤ (2147483647 : Int)) ∧ ((zrg (x5 % 4) ∧ zrg 3) ∧ (((x5 % 4) = 3 → (∃ fs_5 : List Value, w[a3]? = some (zob 6 fs_5) ∧ (∃ z_8 : Int64, ∃ w_6 : List zE, Zc sc 100 [zp a3] w (some (.long z_8)) w_6 0 0 ∧ (∃ fs_10 : List Value, w_6[a3]? = some (zob 6 fs_10) ∧ (∃ r_13 : Int, ∃ w_11 : List zE, Zc sc 53 [zp a3] w_6 (some (zj r_13)) w_11 0 0 ∧ ((zrg r_13) ∧ ((r_13 ≤ 0 → Zr sc 151 544 [.ref 0, zj x1, zp a2, zp a3, zp a4, zj x5, zp a6, zj x7, zj x8, zj x9, zj x10, zj x11, .long z_8, zmk, zj r_13, v15, v16, v17, v18, v19] [] w_11 ov w' c s) ∧ (¬ (r_13 ≤ 0) → (∃ fs_16 : List Value, w_11[a3]? = some (zob 6 fs_16) ∧ (∃ r_19 : Int, ∃ w_17 : List zE, Zc sc 36 [zp a3, zj r_13] w_11 (some (zj r_19)) w_17 0 0 ∧ ((zrg r_19) ∧ ((r_19 < 0 → Zr sc 151 586 [.ref 0, zj x1, zp a2, zp a3, zp a4, zj x5, zp a6, zj x7, zj x8, zj x9, zj x10, zj x11, .long z_8, zmk, zj r_13, v15, v16, v17, v18, v19] [] w_17 ov w' c s) ∧ (¬ (r_19 < 0) → Zr sc 151 544 [.ref 0, zj x1, zp a2, zp a3, zp a4, zj x5, zp a6, zj x7, zj x8, zj x9, zj x10, zj x11, .long z_8, zmk, zj r_13, v15, v16, v17, v18, v19] [] w_17 ov w' c s))))))))))))) ∧ (¬ ((x5 % 4) = 3) → Zr sc 151 876 [.ref 0, zj x1, zp a2, zp a3, zp a4, zj x5, zp a6, zj x7, zj x8, zj x9, zj x10, zj x11, zj x12, zj x13, zj x14, v15, v16, v17, v18, v19] [] w ov w' c s))))) ∧ (¬ (5 ≤ x12) → (∃ fs_22 : List Value, w[a3]? = some (zob 6 fs_22) ∧ (∃ r_25 : Int, Zc sc 33 [zp a3, zj x12] w (some (zj r_25)) w 0 0 ∧ (∃ l_28 : List Int, w[a4]? = some (za l_28) ∧ (((0 : Int) ≤ x12 ∧ x12 < (l_28.length : Int) ∧ x12 ≤ (2147483647 : Int)) ∧ ((zrg r_25 ∧ zrg (zgi l_28 x12)) ∧ (((zgi l_28 x12) ≤ r_25 → (∃ r_32 : Int, Zc sc 33 [zp a3, zj x12] w (some (zj r_32)) w 0 0 ∧ (((0 : Int) ≤ x12 ∧ x12 < (l_28.length : Int) ∧ x12 ≤ (2147483647 : Int)) ∧ Zr sc 151 468 [.ref 0, zj x1, zp a2, zp a3, zp a4, zj x5, zp a6, zj x7, zj x8, zj x9, zj x10, zj x11, zj (x12 + 1), zj x13, zj x14, v15, v16, v17, v18, v19] [] (w.set a4 (za (zsi l_28 x12 r_32))) ov w' c s))) ∧ (¬ ((zgi l_28 x12) ≤ r_25) → (ov = some (zj 0) ∧ w' = w ∧ c = 0 ∧ s = 0)))))))))))) : Zr sc 151 468 [.ref 0, zj x1, zp a2, zp a3, zp a4, zj x5, zp a6, zj x7, zj x8, zj x9, zj x10, zj x11, zj x12, zj x13, zj x14, v15, v16, v17, v18, v19] [] w ov w' c s := by
  refine Zr_st (q := (470, [.ref 0, zj x1, zp a2, zp a3, zp a4, zj x5, zp a6, zj x7, zj x8, zj x9, zj x10, zj x11, zj x12, zj x13, zj x14, v15, v16, v17, v18, v19], [zj x12])) rfl rfl rfl ?_
  show Zr sc 151 470 [.ref 0, zj x1, zp a2, zp a3, zp a4, zj x5, zp a6, zj x7, zj x8, zj x9, zj x10, zj x11, zj x12, zj x13, zj x14, v15, v16, v17, v18, v19] [zj x12] w ov w' c s
  refine rl_ic rfl ?_
  show Zr sc 151 471 [.ref 0, zj x1, zp a2, zp a3, zp a4, zj x5, zp a6, zj x7, zj x8, zj x9, zj x10, zj x11, zj x12, zj x13, zj x14, v15, v16, v17, v18, v19] [zj 5, zj x12] w ov w' c s
  obtain ⟨hr_1, h⟩ := h
  refine Zr_br (p := 5 ≤ x12) rfl rfl (zcmp_j (cnd := .ge) hr_1.1 hr_1.2) (fun hp => ?_) (fun hp => ?_)
  · replace h := h.1 hp
    show Zr sc 151 507 [.ref 0, zj x1, zp a2, zp a3, zp a4, zj x5, zp a6, zj x7, zj x8, zj x9, zj x10, zj x11, zj x12, zj x13, zj x14, v15, v16, v17, v18, v19] [] w ov w' c s
    refine Zr_st (q := (509, [.ref 0, zj x1, zp a2, zp a3, zp a4, zj x5, zp a6, zj x7, zj x8, zj x9, zj x10, zj x11, zj x12, zj x13, zj x14, v15, v16, v17, v18, v19], [zj x5])) rfl rfl rfl ?_
    show Zr sc 151 509 [.ref 0, zj x1, zp a2, zp a3, zp a4, zj x5, zp a6, zj x7, zj x8, zj x9, zj x10, zj x11, zj x12, zj x13, zj x14, v15, v16, v17, v18, v19] [zj x5] w ov w' c s
    refine rl_ic rfl ?_
    show Zr sc 151 510 [.ref 0, zj x1, zp a2, zp a3, zp a4, zj x5, zp a6, zj x7, zj x8, zj x9, zj x10, zj x11, zj x12, zj x13, zj x14, v15, v16, v17, v18, v19] [zj 4, zj x5] w ov w' c s
    obtain ⟨hd_2, h⟩ := h
    refine rl_rem rfl hd_2.1 hd_2.2.1 hd_2.2.2.1 hd_2.2.2.2 ?_
    show Zr sc 151 511 [.ref 0, zj x1, zp a2, zp a3, zp a4, zj x5, zp a6, zj x7, zj x8, zj x9, zj x10, zj x11, zj x12, zj x13, zj x14, v15, v16, v17, v18, v19] [zj (x5 % 4)] w ov w' c s
    refine rl_ic rfl ?_
    show Zr sc 151 512 [.ref 0, zj x1, zp a2, zp a3, zp a4, zj x5, zp a6, zj x7, zj x8, zj x9, zj x10, zj x11, zj x12, zj x13, zj x14, v15, v16, v17, v18, v19] [zj 3, zj (x5 % 4)] w ov w' c s
    obtain ⟨hr_3, h⟩ := h
    refine Zr_br (p := (x5 % 4) = 3) rfl rfl (zcmp_j (cnd := .eq) hr_3.1 hr_3.2) (fun hp => ?_) (fun hp => ?_)
    · replace h := h.1 hp
      show Zr sc 151 518 [.ref 0, zj x1, zp a2, zp a3, zp a4, zj x5, zp a6, zj x7, zj x8, zj x9, zj x10, zj x11, zj x12, zj x13, zj x14, v15, v16, v17, v18, v19] [] w ov w' c s
      refine Zr_st (q := (519, [.ref 0, zj x1, zp a2, zp a3, zp a4, zj x5, zp a6, zj x7, zj x8, zj x9, zj x10, zj x11, zj x12, zj x13, zj x14, v15, v16, v17, v18, v19], [zp a3])) rfl rfl rfl ?_
      show Zr sc 151 519 [.ref 0, zj x1, zp a2, zp a3, zp a4, zj x5, zp a6, zj x7, zj x8, zj x9, zj x10, zj x11, zj x12, zj x13, zj x14, v15, v16, v17, v18, v19] [zp a3] w ov w' c s
      obtain ⟨fs_5, hl_4, h⟩ := h
      obtain ⟨z_8, w_6, hk_7, h⟩ := h
      refine rn_cal0 (ins := .invokevirtual 90) (rest := []) rfl rfl rfl rfl (zinv_v (fs := _) hl_4 rfl rfl rfl rfl) rfl rfl hk_7 ?_
      show Zr sc 151 522 [.ref 0, zj x1, zp a2, zp a3, zp a4, zj x5, zp a6, zj x7, zj x8, zj x9, zj x10, zj x11, zj x12, zj x13, zj x14, v15, v16, v17, v18, v19] [.long z_8] w_6 ov w' c s
      refine Zr_st (q := (524, [.ref 0, zj x1, zp a2, zp a3, zp a4, zj x5, zp a6, zj x7, zj x8, zj x9, zj x10, zj x11, .long z_8, zmk, zj x14, v15, v16, v17, v18, v19], [])) rfl rfl rfl ?_
      show Zr sc 151 524 [.ref 0, zj x1, zp a2, zp a3, zp a4, zj x5, zp a6, zj x7, zj x8, zj x9, zj x10, zj x11, .long z_8, zmk, zj x14, v15, v16, v17, v18, v19] [] w_6 ov w' c s
      refine Zr_st (q := (525, [.ref 0, zj x1, zp a2, zp a3, zp a4, zj x5, zp a6, zj x7, zj x8, zj x9, zj x10, zj x11, .long z_8, zmk, zj x14, v15, v16, v17, v18, v19], [zp a3])) rfl rfl rfl ?_
      show Zr sc 151 525 [.ref 0, zj x1, zp a2, zp a3, zp a4, zj x5, zp a6, zj x7, zj x8, zj x9, zj x10, zj x11, .long z_8, zmk, zj x14, v15, v16, v17, v18, v19] [zp a3] w_6 ov w' c s
      obtain ⟨fs_10, hl_9, h⟩ := h
      obtain ⟨r_13, w_11, hk_12, h⟩ := h
      refine rn_cal0 (ins := .invokevirtual 94) (rest := []) rfl rfl rfl rfl (zinv_v (fs := _) hl_9 rfl rfl rfl rfl) rfl rfl hk_12 ?_
      show Zr sc 151 528 [.ref 0, zj x1, zp a2, zp a3, zp a4, zj x5, zp a6, zj x7, zj x8, zj x9, zj x10, zj x11, .long z_8, zmk, zj x14, v15, v16, v17, v18, v19] [zj r_13] w_11 ov w' c s
      refine Zr_st (q := (530, [.ref 0, zj x1, zp a2, zp a3, zp a4, zj x5, zp a6, zj x7, zj x8, zj x9, zj x10, zj x11, .long z_8, zmk, zj r_13, v15, v16, v17, v18, v19], [])) rfl rfl rfl ?_
      show Zr sc 151 530 [.ref 0, zj x1, zp a2, zp a3, zp a4, zj x5, zp a6, zj x7, zj x8, zj x9, zj x10, zj x11, .long z_8, zmk, zj r_13, v15, v16, v17, v18, v19] [] w_11 ov w' c s
      refine Zr_st (q := (532, [.ref 0, zj x1, zp a2, zp a3, zp a4, zj x5, zp a6, zj x7, zj x8, zj x9, zj x10, zj x11, .long z_8, zmk, zj r_13, v15, v16, v17, v18, v19], [zj r_13])) rfl rfl rfl ?_
      show Zr sc 151 532 [.ref 0, zj x1, zp a2, zp a3, zp a4, zj x5, zp a6, zj x7, zj x8, zj x9, zj x10, zj x11, .long z_8, zmk, zj r_13, v15, v16, v17, v18, v19] [zj r_13] w_11 ov w' c s
      obtain ⟨hr_14, h⟩ := h
      refine Zr_b0 (p := r_13 ≤ 0) rfl rfl (zcmp_0 (cnd := .le) hr_14) (fun hp => ?_) (fun hp => ?_)
      · replace h := h.1 hp
        show Zr sc 151 544 [.ref 0, zj x1, zp a2, zp a3, zp a4, zj x5, zp a6, zj x7, zj x8, zj x9, zj x10, zj x11, .long z_8, zmk, zj r_13, v15, v16, v17, v18, v19] [] w_11 ov w' c s
        exact h
      · replace h := h.2 hp
        show Zr sc 151 535 [.ref 0, zj x1, zp a2, zp a3, zp a4, zj x5, zp a6, zj x7, zj x8, zj x9, zj x10, zj x11, .long z_8, zmk, zj r_13, v15, v16, v17, v18, v19] [] w_11 ov w' c s
        refine Zr_st (q := (536, [.ref 0, zj x1, zp a2, zp a3, zp a4, zj x5, zp a6, zj x7, zj x8, zj x9, zj x10, zj x11, .long z_8, zmk, zj r_13, v15, v16, v17, v18, v19], [zp a3])) rfl rfl rfl ?_
        show Zr sc 151 536 [.ref 0, zj x1, zp a2, zp a3, zp a4, zj x5, zp a6, zj x7, zj x8, zj x9, zj x10, zj x11, .long z_8, zmk, zj r_13, v15, v16, v17, v18, v19] [zp a3] w_11 ov w' c s
        refine Zr_st (q := (538, [.ref 0, zj x1, zp a2, zp a3, zp a4, zj x5, zp a6, zj x7, zj x8, zj x9, zj x10, zj x11, .long z_8, zmk, zj r_13, v15, v16, v17, v18, v19], [zj r_13, zp a3])) rfl rfl rfl ?_
        show Zr sc 151 538 [.ref 0, zj x1, zp a2, zp a3, zp a4, zj x5, zp a6, zj x7, zj x8, zj x9, zj x10, zj x11, .long z_8, zmk, zj r_13, v15, v16, v17, v18, v19] [zj r_13, zp a3] w_11 ov w' c s
        obtain ⟨fs_16, hl_15, h⟩ := h
        obtain ⟨r_19, w_17, hk_18, h⟩ := h
        refine rn_cal0 (ins := .invokevirtual 97) (rest := []) rfl rfl rfl rfl (zinv_v (fs := _) hl_15 rfl rfl rfl rfl) rfl rfl hk_18 ?_
        show Zr sc 151 541 [.ref 0, zj x1, zp a2, zp a3, zp a4, zj x5, zp a6, zj x7, zj x8, zj x9, zj x10, zj x11, .long z_8, zmk, zj r_13, v15, v16, v17, v18, v19] [zj r_19] w_17 ov w' c s
        obtain ⟨hr_20, h⟩ := h
        refine Zr_b0 (p := r_19 < 0) rfl rfl (zcmp_0 (cnd := .lt) hr_20) (fun hp => ?_) (fun hp => ?_)
        · replace h := h.1 hp
          show Zr sc 151 586 [.ref 0, zj x1, zp a2, zp a3, zp a4, zj x5, zp a6, zj x7, zj x8, zj x9, zj x10, zj x11, .long z_8, zmk, zj r_13, v15, v16, v17, v18, v19] [] w_17 ov w' c s
          exact h
        · replace h := h.2 hp
          show Zr sc 151 544 [.ref 0, zj x1, zp a2, zp a3, zp a4, zj x5, zp a6, zj x7, zj x8, zj x9, zj x10, zj x11, .long z_8, zmk, zj r_13, v15, v16, v17, v18, v19] [] w_17 ov w' c s
          exact h
    · replace h := h.2 hp
      show Zr sc 151 515 [.ref 0, zj x1, zp a2, zp a3, zp a4, zj x5, zp a6, zj x7, zj x8, zj x9, zj x10, zj x11, zj x12, zj x13, zj x14, v15, v16, v17, v18, v19] [] w ov w' c s
      refine Zr_st (q := (876, [.ref 0, zj x1, zp a2, zp a3, zp a4, zj x5, zp a6, zj x7, zj x8, zj x9, zj x10, zj x11, zj x12, zj x13, zj x14, v15, v16, v17, v18, v19], [])) rfl rfl rfl ?_
      show Zr sc 151 876 [.ref 0, zj x1, zp a2, zp a3, zp a4, zj x5, zp a6, zj x7, zj x8, zj x9, zj x10, zj x11, zj x12, zj x13, zj x14, v15, v16, v17, v18, v19] [] w ov w' c s
      exact h
  · replace h := h.2 hp
    show Zr sc 151 474 [.ref 0, zj x1, zp a2, zp a3, zp a4, zj x5, zp a6, zj x7, zj x8, zj x9, zj x10, zj x11, zj x12, zj x13, zj x14, v15, v16, v17, v18, v19] [] w ov w' c s
    refine Zr_st (q := (475, [.ref 0, zj x1, zp a2, zp a3, zp a4, zj x5, zp a6, zj x7, zj x8, zj x9, zj x10, zj x11, zj x12, zj x13, zj x14, v15, v16, v17, v18, v19], [zp a3])) rfl rfl rfl ?_
    show Zr sc 151 475 [.ref 0, zj x1, zp a2, zp a3, zp a4, zj x5, zp a6, zj x7, zj x8, zj x9, zj x10, zj x11, zj x12, zj x13, zj x14, v15, v16, v17, v18, v19] [zp a3] w ov w' c s
    refine Zr_st (q := (477, [.ref 0, zj x1, zp a2, zp a3, zp a4, zj x5, zp a6, zj x7, zj x8, zj x9, zj x10, zj x11, zj x12, zj x13, zj x14, v15, v16, v17, v18, v19], [zj x12, zp a3])) rfl rfl rfl ?_
    show Zr sc 151 477 [.ref 0, zj x1, zp a2, zp a3, zp a4, zj x5, zp a6, zj x7, zj x8, zj x9, zj x10, zj x11, zj x12, zj x13, zj x14, v15, v16, v17, v18, v19] [zj x12, zp a3] w ov w' c s
    obtain ⟨fs_22, hl_21, h⟩ := h
    obtain ⟨r_25, hk_9, h⟩ := h
    refine rn_cal0 (ins := .invokevirtual 87) (rest := []) rfl rfl rfl rfl (zinv_v (fs := _) hl_21 rfl rfl rfl rfl) rfl rfl hk_9 ?_
    show Zr sc 151 480 [.ref 0, zj x1, zp a2, zp a3, zp a4, zj x5, zp a6, zj x7, zj x8, zj x9, zj x10, zj x11, zj x12, zj x13, zj x14, v15, v16, v17, v18, v19] [zj r_25] w ov w' c s
    refine Zr_st (q := (482, [.ref 0, zj x1, zp a2, zp a3, zp a4, zj x5, zp a6, zj x7, zj x8, zj x9, zj x10, zj x11, zj x12, zj x13, zj x14, v15, v16, v17, v18, v19], [zp a4, zj r_25])) rfl rfl rfl ?_
    show Zr sc 151 482 [.ref 0, zj x1, zp a2, zp a3, zp a4, zj x5, zp a6, zj x7, zj x8, zj x9, zj x10, zj x11, zj x12, zj x13, zj x14, v15, v16, v17, v18, v19] [zp a4, zj r_25] w ov w' c s
    refine Zr_st (q := (484, [.ref 0, zj x1, zp a2, zp a3, zp a4, zj x5, zp a6, zj x7, zj x8, zj x9, zj x10, zj x11, zj x12, zj x13, zj x14, v15, v16, v17, v18, v19], [zj x12, zp a4, zj r_25])) rfl rfl rfl ?_
    show Zr sc 151 484 [.ref 0, zj x1, zp a2, zp a3, zp a4, zj x5, zp a6, zj x7, zj x8, zj x9, zj x10, zj x11, zj x12, zj x13, zj x14, v15, v16, v17, v18, v19] [zj x12, zp a4, zj r_25] w ov w' c s
    obtain ⟨l_28, hw_27, h⟩ := h
    obtain ⟨hi_26, h⟩ := h
    refine rl_ia rfl hw_27 hi_26.1 hi_26.2.1 hi_26.2.2 ?_
    show Zr sc 151 485 [.ref 0, zj x1, zp a2, zp a3, zp a4, zj x5, zp a6, zj x7, zj x8, zj x9, zj x10, zj x11, zj x12, zj x13, zj x14, v15, v16, v17, v18, v19] [zj (zgi l_28 x12), zj r_25] w ov w' c s
    obtain ⟨hr_29, h⟩ := h
    refine Zr_br (p := (zgi l_28 x12) ≤ r_25) rfl rfl (zcmp_j (cnd := .ge) hr_29.1 hr_29.2) (fun hp => ?_) (fun hp => ?_)
    · replace h := h.1 hp
      show Zr sc 151 490 [.ref 0, zj x1, zp a2, zp a3, zp a4, zj x5, zp a6, zj x7, zj x8, zj x9, zj x10, zj x11, zj x12, zj x13, zj x14, v15, v16, v17, v18, v19] [] w ov w' c s
      refine Zr_st (q := (492, [.ref 0, zj x1, zp a2, zp a3, zp a4, zj x5, zp a6, zj x7, zj x8, zj x9, zj x10, zj x11, zj x12, zj x13, zj x14, v15, v16, v17, v18, v19], [zp a4])) rfl rfl rfl ?_
      show Zr sc 151 492 [.ref 0, zj x1, zp a2, zp a3, zp a4, zj x5, zp a6, zj x7, zj x8, zj x9, zj x10, zj x11, zj x12, zj x13, zj x14, v15, v16, v17, v18, v19] [zp a4] w ov w' c s
      refine Zr_st (q := (494, [.ref 0, zj x1, zp a2, zp a3, zp a4, zj x5, zp a6, zj x7, zj x8, zj x9, zj x10, zj x11, zj x12, zj x13, zj x14, v15, v16, v17, v18, v19], [zj x12, zp a4])) rfl rfl rfl ?_
      show Zr sc 151 494 [.ref 0, zj x1, zp a2, zp a3, zp a4, zj x5, zp a6, zj x7, zj x8, zj x9, zj x10, zj x11, zj x12, zj x13, zj x14, v15, v16, v17, v18, v19] [zj x12, zp a4] w ov w' c s
      refine Zr_st (q := (495, [.ref 0, zj x1, zp a2, zp a3, zp a4, zj x5, zp a6, zj x7, zj x8, zj x9, zj x10, zj x11, zj x12, zj x13, zj x14, v15, v16, v17, v18, v19], [zp a3, zj x12, zp a4])) rfl rfl rfl ?_
      show Zr sc 151 495 [.ref 0, zj x1, zp a2, zp a3, zp a4, zj x5, zp a6, zj x7, zj x8, zj x9, zj x10, zj x11, zj x12, zj x13, zj x14, v15, v16, v17, v18, v19] [zp a3, zj x12, zp a4] w ov w' c s
      refine Zr_st (q := (497, [.ref 0, zj x1, zp a2, zp a3, zp a4, zj x5, zp a6, zj x7, zj x8, zj x9, zj x10, zj x11, zj x12, zj x13, zj x14, v15, v16, v17, v18, v19], [zj x12, zp a3, zj x12, zp a4])) rfl rfl rfl ?_
      show Zr sc 151 497 [.ref 0, zj x1, zp a2, zp a3, zp a4, zj x5, zp a6, zj x7, zj x8, zj x9, zj x10, zj x11, zj x12, zj x13, zj x14, v15, v16, v17, v18, v19] [zj x12, zp a3, zj x12, zp a4] w ov w' c s
      obtain ⟨r_32, hk_9, h⟩ := h
      refine rn_cal0 (ins := .invokevirtual 87) (rest := [zj x12, zp a4]) rfl rfl rfl rfl (zinv_v (fs := _) hl_21 rfl rfl rfl rfl) rfl rfl hk_9 ?_
      show Zr sc 151 500 [.ref 0, zj x1, zp a2, zp a3, zp a4, zj x5, zp a6, zj x7, zj x8, zj x9, zj x10, zj x11, zj x12, zj x13, zj x14, v15, v16, v17, v18, v19] [zj r_32, zj x12, zp a4] w ov w' c s
      obtain ⟨hi_33, h⟩ := h
      refine rl_is rfl hw_27 hi_33.1 hi_33.2.1 hi_33.2.2 ?_
      show Zr sc 151 501 [.ref 0, zj x1, zp a2, zp a3, zp a4, zj x5, zp a6, zj x7, zj x8, zj x9, zj x10, zj x11, zj x12, zj x13, zj x14, v15, v16, v17, v18, v19] [] (w.set a4 (za (zsi l_28 x12 r_32))) ov w' c s
      refine rl_inc rfl rfl rfl rfl ?_
      show Zr sc 151 504 [.ref 0, zj x1, zp a2, zp a3, zp a4, zj x5, zp a6, zj x7, zj x8, zj x9, zj x10, zj x11, zj (x12 + 1), zj x13, zj x14, v15, v16, v17, v18, v19] [] (w.set a4 (za (zsi l_28 x12 r_32))) ov w' c s
      refine Zr_st (q := (468, [.ref 0, zj x1, zp a2, zp a3, zp a4, zj x5, zp a6, zj x7, zj x8, zj x9, zj x10, zj x11, zj (x12 + 1), zj x13, zj x14, v15, v16, v17, v18, v19], [])) rfl rfl rfl ?_
      show Zr sc 151 468 [.ref 0, zj x1, zp a2, zp a3, zp a4, zj x5, zp a6, zj x7, zj x8, zj x9, zj x10, zj x11, zj (x12 + 1), zj x13, zj x14, v15, v16, v17, v18, v19] [] (w.set a4 (za (zsi l_28 x12 r_32))) ov w' c s
      exact h
    · replace h := h.2 hp
      show Zr sc 151 488 [.ref 0, zj x1, zp a2, zp a3, zp a4, zj x5, zp a6, zj x7, zj x8, zj x9, zj x10, zj x11, zj x12, zj x13, zj x14, v15, v16, v17, v18, v19] [] w ov w' c s
      refine rl_ic rfl ?_
      show Zr sc 151 489 [.ref 0, zj x1, zp a2, zp a3, zp a4, zj x5, zp a6, zj x7, zj x8, zj x9, zj x10, zj x11, zj x12, zj x13, zj x14, v15, v16, v17, v18, v19] [zj 0] w ov w' c s
      obtain ⟨h1, h2, h3, h4⟩ := h
      subst h1; subst h2; subst h3; subst h4
      exact Zr_ret (ins := .ireturn) rfl rfl
set_option maxRecDepth 100000 in
theorem V151_544 {sc : List Value} {w w' : List zE} {ov : Option Value} {c s : Nat} {x1 : Int} {a2 : Nat} {a3 : Nat} {a4 : Nat} {x5 : Int} {a6 : Nat} {x7 : Int} {x8 : Int} {x9 : Int} {x10 : Int} {x11 : Int} {z12 : Int64} {x14 : Int} {v15 : Value} {v16 : Value} {v17 : Value} {v18 : Value} {v19 : Value} (h : ((zrg x14 ∧ zrg 300) ∧ ((300 ≤ x14 → Zr sc 151 563 [.ref 0, zj x1, zp a2, zp a3, zp a4, zj x5, zp a6, zj x7, zj x8, zj x9, zj x10, zj x11, .long z12, zmk, zj x14, v15, v16, v17, v18, v19] [] w ov w' c s) ∧ (¬ (300 ≤ x14) → (∃ fs_3 : List Value, w[a3]? = some (zob 6 fs_3) ∧ (∃ r_6 : Int, ∃ w_4 : List zE, Zc sc 36 [zp a3, zj (x14 + 1)] w (some (zj r_6)) w_4 0 0 ∧ ((zrg r_6) ∧ ((0 ≤ r_6 → Zr sc 151 586 [.ref 0, zj x1, zp a2, zp a3, zp a4, zj x5, zp a6, zj x7, zj x8, zj x9, zj x10, zj x11, .long z12, zmk, zj x14, v15, v16, v17, v18, v19] [] w_4 ov w' c s) ∧ (¬ (0 ≤ r_6) → Zr sc 151 563 [.ref 0, zj x1, zp a2, zp a3, zp a4, zj x5, zp a6, zj x7, zj x8, zj x9, zj x10, zj x11, .long z12, zmk, zj x14, v15, v16, v17, v18, v19] [] w_4 ov w' c s))))))))) : Zr sc 151 544 [.ref 0, zj x1, zp a2, zp a3, zp a4, zj x5, zp a6, zj x7, zj x8, zj x9, zj x10, zj x11, .long z12, zmk, zj x14, v15, v16, v17, v18, v19] [] w ov w' c s := by
  refine Zr_st (q := (546, [.ref 0, zj x1, zp a2, zp a3, zp a4, zj x5, zp a6, zj x7, zj x8, zj x9, zj x10, zj x11, .long z12, zmk, zj x14, v15, v16, v17, v18, v19], [zj x14])) rfl rfl rfl ?_
  show Zr sc 151 546 [.ref 0, zj x1, zp a2, zp a3, zp a4, zj x5, zp a6, zj x7, zj x8, zj x9, zj x10, zj x11, .long z12, zmk, zj x14, v15, v16, v17, v18, v19] [zj x14] w ov w' c s
  refine rl_si rfl (by decide) ?_
  show Zr sc 151 549 [.ref 0, zj x1, zp a2, zp a3, zp a4, zj x5, zp a6, zj x7, zj x8, zj x9, zj x10, zj x11, .long z12, zmk, zj x14, v15, v16, v17, v18, v19] [zj 300, zj x14] w ov w' c s
  obtain ⟨hr_1, h⟩ := h
  refine Zr_br (p := 300 ≤ x14) rfl rfl (zcmp_j (cnd := .ge) hr_1.1 hr_1.2) (fun hp => ?_) (fun hp => ?_)
  · replace h := h.1 hp
    show Zr sc 151 563 [.ref 0, zj x1, zp a2, zp a3, zp a4, zj x5, zp a6, zj x7, zj x8, zj x9, zj x10, zj x11, .long z12, zmk, zj x14, v15, v16, v17, v18, v19] [] w ov w' c s
    exact h
  · replace h := h.2 hp
    show Zr sc 151 552 [.ref 0, zj x1, zp a2, zp a3, zp a4, zj x5, zp a6, zj x7, zj x8, zj x9, zj x10, zj x11, .long z12, zmk, zj x14, v15, v16, v17, v18, v19] [] w ov w' c s
    refine Zr_st (q := (553, [.ref 0, zj x1, zp a2, zp a3, zp a4, zj x5, zp a6, zj x7, zj x8, zj x9, zj x10, zj x11, .long z12, zmk, zj x14, v15, v16, v17, v18, v19], [zp a3])) rfl rfl rfl ?_
    show Zr sc 151 553 [.ref 0, zj x1, zp a2, zp a3, zp a4, zj x5, zp a6, zj x7, zj x8, zj x9, zj x10, zj x11, .long z12, zmk, zj x14, v15, v16, v17, v18, v19] [zp a3] w ov w' c s
    refine Zr_st (q := (555, [.ref 0, zj x1, zp a2, zp a3, zp a4, zj x5, zp a6, zj x7, zj x8, zj x9, zj x10, zj x11, .long z12, zmk, zj x14, v15, v16, v17, v18, v19], [zj x14, zp a3])) rfl rfl rfl ?_
    show Zr sc 151 555 [.ref 0, zj x1, zp a2, zp a3, zp a4, zj x5, zp a6, zj x7, zj x8, zj x9, zj x10, zj x11, .long z12, zmk, zj x14, v15, v16, v17, v18, v19] [zj x14, zp a3] w ov w' c s
    refine rl_ic rfl ?_
    show Zr sc 151 556 [.ref 0, zj x1, zp a2, zp a3, zp a4, zj x5, zp a6, zj x7, zj x8, zj x9, zj x10, zj x11, .long z12, zmk, zj x14, v15, v16, v17, v18, v19] [zj 1, zj x14, zp a3] w ov w' c s
    refine rl_add rfl ?_
    show Zr sc 151 557 [.ref 0, zj x1, zp a2, zp a3, zp a4, zj x5, zp a6, zj x7, zj x8, zj x9, zj x10, zj x11, .long z12, zmk, zj x14, v15, v16, v17, v18, v19] [zj (x14 + 1), zp a3] w ov w' c s
    obtain ⟨fs_3, hl_2, h⟩ := h
    obtain ⟨r_6, w_4, hk_5, h⟩ := h
    refine rn_cal0 (ins := .invokevirtual 97) (rest := []) rfl rfl rfl rfl (zinv_v (fs := _) hl_2 rfl rfl rfl rfl) rfl rfl hk_5 ?_
    show Zr sc 151 560 [.ref 0, zj x1, zp a2, zp a3, zp a4, zj x5, zp a6, zj x7, zj x8, zj x9, zj x10, zj x11, .long z12, zmk, zj x14, v15, v16, v17, v18, v19] [zj r_6] w_4 ov w' c s
    obtain ⟨hr_7, h⟩ := h
    refine Zr_b0 (p := 0 ≤ r_6) rfl rfl (zcmp_0 (cnd := .ge) hr_7) (fun hp => ?_) (fun hp => ?_)
    · replace h := h.1 hp
      show Zr sc 151 586 [.ref 0, zj x1, zp a2, zp a3, zp a4, zj x5, zp a6, zj x7, zj x8, zj x9, zj x10, zj x11, .long z12, zmk, zj x14, v15, v16, v17, v18, v19] [] w_4 ov w' c s
      exact h
    · replace h := h.2 hp
      show Zr sc 151 563 [.ref 0, zj x1, zp a2, zp a3, zp a4, zj x5, zp a6, zj x7, zj x8, zj x9, zj x10, zj x11, .long z12, zmk, zj x14, v15, v16, v17, v18, v19] [] w_4 ov w' c s
      exact h
set_option maxRecDepth 100000 in
theorem V151_563 {sc : List Value} {w w' : List zE} {ov : Option Value} {c s : Nat} {x1 : Int} {a2 : Nat} {a3 : Nat} {a4 : Nat} {x5 : Int} {a6 : Nat} {x7 : Int} {x8 : Int} {x9 : Int} {x10 : Int} {x11 : Int} {z12 : Int64} {x14 : Int} {v15 : Value} {v16 : Value} {v17 : Value} {v18 : Value} {v19 : Value} {dr : Int} {wy : Int} {st : Int} {hd : Int} {nm : Int} {ar : Int} {hn : Int} {pk : Int} {D : Nat} {tl : Int} (L0a2 : w[a2]? = some (zob 7 [zp (a2 + 1), .ref 0, zj dr, zj wy, zj st, zj hd, zp (a2 + 73), zj nm, zp (a2 + 74), zp (a2 + 75), zp (a2 + 76), zj ar, zj hn, zp (a2 + 77), zj pk, zp D, zj tl])) (h : ((zrg 1 ∧ zrg x14) ∧ (∃ r_4 : Int, Zc sc 123 [zp a2, zj (max 1 x14)] w (some (zj r_4)) w 0 0 ∧ (∃ r_7 : Int, Zc sc 123 [zp a2, zj 1] w (some (zj r_7)) w 0 0 ∧ ((zrg x11 ∧ zrg r_7) ∧ ((zrg r_4 ∧ zrg (max x11 r_7)) ∧ ((r_4 ≤ (max x11 r_7) → Zr sc 151 591 [.ref 0, zj x1, zp a2, zp a3, zp a4, zj x5, zp a6, zj x7, zj x8, zj x9, zj x10, zj x11, .long z12, zmk, zj x14, zj 0, v16, v17, v18, v19] [] w ov w' c s) ∧ (¬ (r_4 ≤ (max x11 r_7)) → Zr sc 151 586 [.ref 0, zj x1, zp a2, zp a3, zp a4, zj x5, zp a6, zj x7, zj x8, zj x9, zj x10, zj x11, .long z12, zmk, zj x14, v15, v16, v17, v18, v19] [] w ov w' c s)))))))) : Zr sc 151 563 [.ref 0, zj x1, zp a2, zp a3, zp a4, zj x5, zp a6, zj x7, zj x8, zj x9, zj x10, zj x11, .long z12, zmk, zj x14, v15, v16, v17, v18, v19] [] w ov w' c s := by
  refine Zr_st (q := (564, [.ref 0, zj x1, zp a2, zp a3, zp a4, zj x5, zp a6, zj x7, zj x8, zj x9, zj x10, zj x11, .long z12, zmk, zj x14, v15, v16, v17, v18, v19], [zp a2])) rfl rfl rfl ?_
  show Zr sc 151 564 [.ref 0, zj x1, zp a2, zp a3, zp a4, zj x5, zp a6, zj x7, zj x8, zj x9, zj x10, zj x11, .long z12, zmk, zj x14, v15, v16, v17, v18, v19] [zp a2] w ov w' c s
  refine rl_ic rfl ?_
  show Zr sc 151 565 [.ref 0, zj x1, zp a2, zp a3, zp a4, zj x5, zp a6, zj x7, zj x8, zj x9, zj x10, zj x11, .long z12, zmk, zj x14, v15, v16, v17, v18, v19] [zj 1, zp a2] w ov w' c s
  refine Zr_st (q := (567, [.ref 0, zj x1, zp a2, zp a3, zp a4, zj x5, zp a6, zj x7, zj x8, zj x9, zj x10, zj x11, .long z12, zmk, zj x14, v15, v16, v17, v18, v19], [zj x14, zj 1, zp a2])) rfl rfl rfl ?_
  show Zr sc 151 567 [.ref 0, zj x1, zp a2, zp a3, zp a4, zj x5, zp a6, zj x7, zj x8, zj x9, zj x10, zj x11, .long z12, zmk, zj x14, v15, v16, v17, v18, v19] [zj x14, zj 1, zp a2] w ov w' c s
  obtain ⟨hm_1, h⟩ := h
  refine Zr_mx (b := true) (ins := .invokestatic 66) (rest := [zp a2]) rfl rfl rfl rfl (zinv_t2 (rest := [zp a2]) rfl rfl rfl rfl rfl) rfl (zmx_j hm_1.1 hm_1.2) ?_
  show Zr sc 151 570 [.ref 0, zj x1, zp a2, zp a3, zp a4, zj x5, zp a6, zj x7, zj x8, zj x9, zj x10, zj x11, .long z12, zmk, zj x14, v15, v16, v17, v18, v19] [zj (max 1 x14), zp a2] w ov w' c s
  obtain ⟨r_4, hk_9, h⟩ := h
  refine rn_cal0 (ins := .invokevirtual 44) (rest := []) rfl rfl rfl rfl (zinv_v (fs := _) L0a2 rfl rfl rfl rfl) rfl rfl hk_9 ?_
  show Zr sc 151 573 [.ref 0, zj x1, zp a2, zp a3, zp a4, zj x5, zp a6, zj x7, zj x8, zj x9, zj x10, zj x11, .long z12, zmk, zj x14, v15, v16, v17, v18, v19] [zj r_4] w ov w' c s
  refine Zr_st (q := (575, [.ref 0, zj x1, zp a2, zp a3, zp a4, zj x5, zp a6, zj x7, zj x8, zj x9, zj x10, zj x11, .long z12, zmk, zj x14, v15, v16, v17, v18, v19], [zj x11, zj r_4])) rfl rfl rfl ?_
  show Zr sc 151 575 [.ref 0, zj x1, zp a2, zp a3, zp a4, zj x5, zp a6, zj x7, zj x8, zj x9, zj x10, zj x11, .long z12, zmk, zj x14, v15, v16, v17, v18, v19] [zj x11, zj r_4] w ov w' c s
  refine Zr_st (q := (576, [.ref 0, zj x1, zp a2, zp a3, zp a4, zj x5, zp a6, zj x7, zj x8, zj x9, zj x10, zj x11, .long z12, zmk, zj x14, v15, v16, v17, v18, v19], [zp a2, zj x11, zj r_4])) rfl rfl rfl ?_
  show Zr sc 151 576 [.ref 0, zj x1, zp a2, zp a3, zp a4, zj x5, zp a6, zj x7, zj x8, zj x9, zj x10, zj x11, .long z12, zmk, zj x14, v15, v16, v17, v18, v19] [zp a2, zj x11, zj r_4] w ov w' c s
  refine rl_ic rfl ?_
  show Zr sc 151 577 [.ref 0, zj x1, zp a2, zp a3, zp a4, zj x5, zp a6, zj x7, zj x8, zj x9, zj x10, zj x11, .long z12, zmk, zj x14, v15, v16, v17, v18, v19] [zj 1, zp a2, zj x11, zj r_4] w ov w' c s
  obtain ⟨r_7, hk_9, h⟩ := h
  refine rn_cal0 (ins := .invokevirtual 44) (rest := [zj x11, zj r_4]) rfl rfl rfl rfl (zinv_v (fs := _) L0a2 rfl rfl rfl rfl) rfl rfl hk_9 ?_
  show Zr sc 151 580 [.ref 0, zj x1, zp a2, zp a3, zp a4, zj x5, zp a6, zj x7, zj x8, zj x9, zj x10, zj x11, .long z12, zmk, zj x14, v15, v16, v17, v18, v19] [zj r_7, zj x11, zj r_4] w ov w' c s
  obtain ⟨hm_8, h⟩ := h
  refine Zr_mx (b := true) (ins := .invokestatic 66) (rest := [zj r_4]) rfl rfl rfl rfl (zinv_t2 (rest := [zj r_4]) rfl rfl rfl rfl rfl) rfl (zmx_j hm_8.1 hm_8.2) ?_
  show Zr sc 151 583 [.ref 0, zj x1, zp a2, zp a3, zp a4, zj x5, zp a6, zj x7, zj x8, zj x9, zj x10, zj x11, .long z12, zmk, zj x14, v15, v16, v17, v18, v19] [zj (max x11 r_7), zj r_4] w ov w' c s
  obtain ⟨hr_9, h⟩ := h
  refine Zr_br (p := r_4 ≤ (max x11 r_7)) rfl rfl (zcmp_j (cnd := .le) hr_9.1 hr_9.2) (fun hp => ?_) (fun hp => ?_)
  · replace h := h.1 hp
    show Zr sc 151 588 [.ref 0, zj x1, zp a2, zp a3, zp a4, zj x5, zp a6, zj x7, zj x8, zj x9, zj x10, zj x11, .long z12, zmk, zj x14, v15, v16, v17, v18, v19] [] w ov w' c s
    refine rl_ic rfl ?_
    show Zr sc 151 589 [.ref 0, zj x1, zp a2, zp a3, zp a4, zj x5, zp a6, zj x7, zj x8, zj x9, zj x10, zj x11, .long z12, zmk, zj x14, v15, v16, v17, v18, v19] [zj 0] w ov w' c s
    refine Zr_st (q := (591, [.ref 0, zj x1, zp a2, zp a3, zp a4, zj x5, zp a6, zj x7, zj x8, zj x9, zj x10, zj x11, .long z12, zmk, zj x14, zj 0, v16, v17, v18, v19], [])) rfl rfl rfl ?_
    show Zr sc 151 591 [.ref 0, zj x1, zp a2, zp a3, zp a4, zj x5, zp a6, zj x7, zj x8, zj x9, zj x10, zj x11, .long z12, zmk, zj x14, zj 0, v16, v17, v18, v19] [] w ov w' c s
    exact h
  · replace h := h.2 hp
    show Zr sc 151 586 [.ref 0, zj x1, zp a2, zp a3, zp a4, zj x5, zp a6, zj x7, zj x8, zj x9, zj x10, zj x11, .long z12, zmk, zj x14, v15, v16, v17, v18, v19] [] w ov w' c s
    exact h
set_option maxRecDepth 100000 in
theorem V151_586 {sc : List Value} {w w' : List zE} {ov : Option Value} {c s : Nat} {x1 : Int} {a2 : Nat} {a3 : Nat} {a4 : Nat} {x5 : Int} {a6 : Nat} {x7 : Int} {x8 : Int} {x9 : Int} {x10 : Int} {x11 : Int} {z12 : Int64} {x14 : Int} {v15 : Value} {v16 : Value} {v17 : Value} {v18 : Value} {v19 : Value} (h : (ov = some (zj 0) ∧ w' = w ∧ c = 0 ∧ s = 0)) : Zr sc 151 586 [.ref 0, zj x1, zp a2, zp a3, zp a4, zj x5, zp a6, zj x7, zj x8, zj x9, zj x10, zj x11, .long z12, zmk, zj x14, v15, v16, v17, v18, v19] [] w ov w' c s := by
  refine rl_ic rfl ?_
  show Zr sc 151 587 [.ref 0, zj x1, zp a2, zp a3, zp a4, zj x5, zp a6, zj x7, zj x8, zj x9, zj x10, zj x11, .long z12, zmk, zj x14, v15, v16, v17, v18, v19] [zj 0] w ov w' c s
  obtain ⟨h1, h2, h3, h4⟩ := h
  subst h1; subst h2; subst h3; subst h4
  exact Zr_ret (ins := .ireturn) rfl rfl
set_option maxRecDepth 100000 in
theorem V151_591 {sc : List Value} {w w' : List zE} {ov : Option Value} {c s : Nat} {x1 : Int} {a2 : Nat} {a3 : Nat} {a4 : Nat} {x5 : Int} {a6 : Nat} {x7 : Int} {x8 : Int} {x9 : Int} {x10 : Int} {x11 : Int} {z12 : Int64} {x14 : Int} {x15 : Int} {v16 : Value} {v17 : Value} {v18 : Value} {v19 : Value} {dr : Int} {wy : Int} {st : Int} {hd : Int} {nm : Int} {ar : Int} {hn : Int} {pk : Int} {D : Nat} {tl : Int} (L0a2 : w[a2]? = some (zob 7 [zp (a2 + 1), .ref 0, zj dr, zj wy, zj st, zj hd, zp (a2 + 73), zj nm, zp (a2 + 74), zp (a2 + 75), zp (a2 + 76), zj ar, zj hn, zp (a2 + 77), zj pk, zp D, zj tl])) (h : ((zrg x15 ∧ zrg 5) ∧ ((5 ≤ x15 → (∃ fs_3 : List Value, w[a3]? = some (zob 6 fs_3) ∧ (∃ r_6 : Int, ∃ w_4 : List zE, Zc sc 55 [zp a3, zj wy, zj 5] w (some (zj r_6)) w_4 0 0 ∧ (∃ fs_8 : List Value, w_4[a3]? = some (zob 6 fs_8) ∧ (∃ r_11 : Int, Zc sc 35 [zp a3] w_4 (some (zj r_11)) w_4 0 0 ∧ ((zrg r_6 ∧ zrg r_11) ∧ ((r_6 ≠ r_11 → Zr sc 151 671 [.ref 0, zj x1, zp a2, zp a3, zp a4, zj x5, zp a6, zj x7, zj x8, zj x9, zj x10, zj x11, .long z12, zmk, zj x14, zj x15, v16, v17, v18, v19] [] w_4 ov w' c s) ∧ (¬ (r_6 ≠ r_11) → (∃ dr_14 : Int, ∃ wy_15 : Int, ∃ st_16 : Int, ∃ hd_17 : Int, ∃ nm_18 : Int, ∃ ar_19 : Int, ∃ hn_20 : Int, ∃ pk_21 : Int, ∃ D_22 : Nat, ∃ tl_23 : Int, w_4[a2]? = some (zob 7 [zp (a2 + 1), .ref 0, zj dr_14, zj wy_15, zj st_16, zj hd_17, zp (a2 + 73), zj nm_18, zp (a2 + 74), zp (a2 + 75), zp (a2 + 76), zj ar_19, zj hn_20, zp (a2 + 77), zj pk_21, zp D_22, zj tl_23]) ∧ (∃ r_26 : Int, ∃ w_24 : List zE, Zc sc 55 [zp a3, zj wy_15, zj 6] w_4 (some (zj r_26)) w_24 0 0 ∧ (∃ fs_28 : List Value, w_24[a3]? = some (zob 6 fs_28) ∧ (∃ r_31 : Int, Zc sc 19 [zp a3] w_24 (some (zj r_31)) w_24 0 0 ∧ ((zrg r_26 ∧ zrg r_31) ∧ ((r_26 ≠ r_31 → Zr sc 151 671 [.ref 0, zj x1, zp a2, zp a3, zp a4, zj x5, zp a6, zj x7, zj x8, zj x9, zj x10, zj x11, .long z12, zmk, zj x14, zj x15, v16, v17, v18, v19] [] w_24 ov w' c s) ∧ (¬ (r_26 ≠ r_31) → (∃ dr_34 : Int, ∃ wy_35 : Int, ∃ st_36 : Int, ∃ hd_37 : Int, ∃ nm_38 : Int, ∃ ar_39 : Int, ∃ hn_40 : Int, ∃ pk_41 : Int, ∃ D_42 : Nat, ∃ tl_43 : Int, w_24[a2]? = some (zob 7 [zp (a2 + 1), .ref 0, zj dr_34, zj wy_35, zj st_36, zj hd_37, zp (a2 + 73), zj nm_38, zp (a2 + 74), zp (a2 + 75), zp (a2 + 76), zj ar_39, zj hn_40, zp (a2 + 77), zj pk_41, zp D_42, zj tl_43]) ∧ (∃ r_46 : Int, ∃ w_44 : List zE, Zc sc 55 [zp a3, zj wy_35, zj 7] w_24 (some (zj r_46)) w_44 0 0 ∧ ((zrg r_46 ∧ zrg x11) ∧ ((r_46 = x11 → (∃ fs_49 : List Value, w_44[a3]? = some (zob 6 fs_49) ∧ (∃ r_52 : Int, ∃ w_50 : List zE, Zc sc 98 [zp a3] w_44 (some (zj r_52)) w_50 0 0 ∧ Zr sc 151 682 [.ref 0, zj x1, zp a2, zp a3, zp a4, zj x5, zp a6, zj x7, zj x8, zj x9, zj x10, zj x11, .long z12, zmk, zj x14, zj r_52, zj 0, v17, v18, v19] [] w_50 ov w' c s))) ∧ (¬ (r_46 = x11) → Zr sc 151 671 [.ref 0, zj x1, zp a2, zp a3, zp a4, zj x5, zp a6, zj x7, zj x8, zj x9, zj x10, zj x11, .long z12, zmk, zj x14, zj x15, v16, v17, v18, v19] [] w_44 ov w' c s)))))))))))))))))))) ∧ (¬ (5 ≤ x15) → (∃ fs_54 : List Value, w[a3]? = some (zob 6 fs_54) ∧ (∃ r_57 : Int, ∃ w_55 : List zE, Zc sc 55 [zp a3, zj wy, zj x15] w (some (zj r_57)) w_55 0 0 ∧ (∃ l_60 : List Int, w_55[a4]? = some (za l_60) ∧ (((0 : Int) ≤ x15 ∧ x15 < (l_60.length : Int) ∧ x15 ≤ (2147483647 : Int)) ∧ ((zrg r_57 ∧ zrg (zgi l_60 x15)) ∧ ((r_57 = (zgi l_60 x15) → Zr sc 151 591 [.ref 0, zj x1, zp a2, zp a3, zp a4, zj x5, zp a6, zj x7, zj x8, zj x9, zj x10, zj x11, .long z12, zmk, zj x14, zj (x15 + 1), v16, v17, v18, v19] [] w_55 ov w' c s) ∧ (¬ (r_57 = (zgi l_60 x15)) → (ov = some (zj 0) ∧ w' = w_55 ∧ c = 0 ∧ s = 0)))))))))))) : Zr sc 151 591 [.ref 0, zj x1, zp a2, zp a3, zp a4, zj x5, zp a6, zj x7, zj x8, zj x9, zj x10, zj x11, .long z12, zmk, zj x14, zj x15, v16, v17, v18, v19] [] w ov w' c s := by
  refine Zr_st (q := (593, [.ref 0, zj x1, zp a2, zp a3, zp a4, zj x5, zp a6, zj x7, zj x8, zj x9, zj x10, zj x11, .long z12, zmk, zj x14, zj x15, v16, v17, v18, v19], [zj x15])) rfl rfl rfl ?_
  show Zr sc 151 593 [.ref 0, zj x1, zp a2, zp a3, zp a4, zj x5, zp a6, zj x7, zj x8, zj x9, zj x10, zj x11, .long z12, zmk, zj x14, zj x15, v16, v17, v18, v19] [zj x15] w ov w' c s
  refine rl_ic rfl ?_
  show Zr sc 151 594 [.ref 0, zj x1, zp a2, zp a3, zp a4, zj x5, zp a6, zj x7, zj x8, zj x9, zj x10, zj x11, .long z12, zmk, zj x14, zj x15, v16, v17, v18, v19] [zj 5, zj x15] w ov w' c s
  obtain ⟨hr_1, h⟩ := h
  refine Zr_br (p := 5 ≤ x15) rfl rfl (zcmp_j (cnd := .ge) hr_1.1 hr_1.2) (fun hp => ?_) (fun hp => ?_)
  · replace h := h.1 hp
    show Zr sc 151 623 [.ref 0, zj x1, zp a2, zp a3, zp a4, zj x5, zp a6, zj x7, zj x8, zj x9, zj x10, zj x11, .long z12, zmk, zj x14, zj x15, v16, v17, v18, v19] [] w ov w' c s
    refine Zr_st (q := (624, [.ref 0, zj x1, zp a2, zp a3, zp a4, zj x5, zp a6, zj x7, zj x8, zj x9, zj x10, zj x11, .long z12, zmk, zj x14, zj x15, v16, v17, v18, v19], [zp a3])) rfl rfl rfl ?_
    show Zr sc 151 624 [.ref 0, zj x1, zp a2, zp a3, zp a4, zj x5, zp a6, zj x7, zj x8, zj x9, zj x10, zj x11, .long z12, zmk, zj x14, zj x15, v16, v17, v18, v19] [zp a3] w ov w' c s
    refine Zr_st (q := (625, [.ref 0, zj x1, zp a2, zp a3, zp a4, zj x5, zp a6, zj x7, zj x8, zj x9, zj x10, zj x11, .long z12, zmk, zj x14, zj x15, v16, v17, v18, v19], [zp a2, zp a3])) rfl rfl rfl ?_
    show Zr sc 151 625 [.ref 0, zj x1, zp a2, zp a3, zp a4, zj x5, zp a6, zj x7, zj x8, zj x9, zj x10, zj x11, .long z12, zmk, zj x14, zj x15, v16, v17, v18, v19] [zp a2, zp a3] w ov w' c s
    refine rl_gf rfl L0a2 rfl rfl ?_
    show Zr sc 151 628 [.ref 0, zj x1, zp a2, zp a3, zp a4, zj x5, zp a6, zj x7, zj x8, zj x9, zj x10, zj x11, .long z12, zmk, zj x14, zj x15, v16, v17, v18, v19] [zj wy, zp a3] w ov w' c s
    refine rl_ic rfl ?_
    show Zr sc 151 629 [.ref 0, zj x1, zp a2, zp a3, zp a4, zj x5, zp a6, zj x7, zj x8, zj x9, zj x10, zj x11, .long z12, zmk, zj x14, zj x15, v16, v17, v18, v19] [zj 5, zj wy, zp a3] w ov w' c s
    obtain ⟨fs_3, hl_2, h⟩ := h
    obtain ⟨r_6, w_4, hk_5, h⟩ := h
    refine rn_cal0 (ins := .invokevirtual 100) (rest := []) rfl rfl rfl rfl (zinv_v (fs := _) hl_2 rfl rfl rfl rfl) rfl rfl hk_5 ?_
    show Zr sc 151 632 [.ref 0, zj x1, zp a2, zp a3, zp a4, zj x5, zp a6, zj x7, zj x8, zj x9, zj x10, zj x11, .long z12, zmk, zj x14, zj x15, v16, v17, v18, v19] [zj r_6] w_4 ov w' c s
    refine Zr_st (q := (633, [.ref 0, zj x1, zp a2, zp a3, zp a4, zj x5, zp a6, zj x7, zj x8, zj x9, zj x10, zj x11, .long z12, zmk, zj x14, zj x15, v16, v17, v18, v19], [zp a3, zj r_6])) rfl rfl rfl ?_
    show Zr sc 151 633 [.ref 0, zj x1, zp a2, zp a3, zp a4, zj x5, zp a6, zj x7, zj x8, zj x9, zj x10, zj x11, .long z12, zmk, zj x14, zj x15, v16, v17, v18, v19] [zp a3, zj r_6] w_4 ov w' c s
    obtain ⟨fs_8, hl_7, h⟩ := h
    obtain ⟨r_11, hk_9, h⟩ := h
    refine rn_cal0 (ins := .invokevirtual 84) (rest := [zj r_6]) rfl rfl rfl rfl (zinv_v (fs := _) hl_7 rfl rfl rfl rfl) rfl rfl hk_9 ?_
    show Zr sc 151 636 [.ref 0, zj x1, zp a2, zp a3, zp a4, zj x5, zp a6, zj x7, zj x8, zj x9, zj x10, zj x11, .long z12, zmk, zj x14, zj x15, v16, v17, v18, v19] [zj r_11, zj r_6] w_4 ov w' c s
    obtain ⟨hr_12, h⟩ := h
    refine Zr_br (p := r_6 ≠ r_11) rfl rfl (zcmp_j (cnd := .ne) hr_12.1 hr_12.2) (fun hp => ?_) (fun hp => ?_)
    · replace h := h.1 hp
      show Zr sc 151 671 [.ref 0, zj x1, zp a2, zp a3, zp a4, zj x5, zp a6, zj x7, zj x8, zj x9, zj x10, zj x11, .long z12, zmk, zj x14, zj x15, v16, v17, v18, v19] [] w_4 ov w' c s
      exact h
    · replace h := h.2 hp
      show Zr sc 151 639 [.ref 0, zj x1, zp a2, zp a3, zp a4, zj x5, zp a6, zj x7, zj x8, zj x9, zj x10, zj x11, .long z12, zmk, zj x14, zj x15, v16, v17, v18, v19] [] w_4 ov w' c s
      refine Zr_st (q := (640, [.ref 0, zj x1, zp a2, zp a3, zp a4, zj x5, zp a6, zj x7, zj x8, zj x9, zj x10, zj x11, .long z12, zmk, zj x14, zj x15, v16, v17, v18, v19], [zp a3])) rfl rfl rfl ?_
      show Zr sc 151 640 [.ref 0, zj x1, zp a2, zp a3, zp a4, zj x5, zp a6, zj x7, zj x8, zj x9, zj x10, zj x11, .long z12, zmk, zj x14, zj x15, v16, v17, v18, v19] [zp a3] w_4 ov w' c s
      refine Zr_st (q := (641, [.ref 0, zj x1, zp a2, zp a3, zp a4, zj x5, zp a6, zj x7, zj x8, zj x9, zj x10, zj x11, .long z12, zmk, zj x14, zj x15, v16, v17, v18, v19], [zp a2, zp a3])) rfl rfl rfl ?_
      show Zr sc 151 641 [.ref 0, zj x1, zp a2, zp a3, zp a4, zj x5, zp a6, zj x7, zj x8, zj x9, zj x10, zj x11, .long z12, zmk, zj x14, zj x15, v16, v17, v18, v19] [zp a2, zp a3] w_4 ov w' c s
      obtain ⟨dr_14, wy_15, st_16, hd_17, nm_18, ar_19, hn_20, pk_21, D_22, tl_23, hw_13, h⟩ := h
      refine rl_gf rfl hw_13 rfl rfl ?_
      show Zr sc 151 644 [.ref 0, zj x1, zp a2, zp a3, zp a4, zj x5, zp a6, zj x7, zj x8, zj x9, zj x10, zj x11, .long z12, zmk, zj x14, zj x15, v16, v17, v18, v19] [zj wy_15, zp a3] w_4 ov w' c s
      refine rl_bi rfl (by decide) ?_
      show Zr sc 151 646 [.ref 0, zj x1, zp a2, zp a3, zp a4, zj x5, zp a6, zj x7, zj x8, zj x9, zj x10, zj x11, .long z12, zmk, zj x14, zj x15, v16, v17, v18, v19] [zj 6, zj wy_15, zp a3] w_4 ov w' c s
      obtain ⟨r_26, w_24, hk_25, h⟩ := h
      refine rn_cal0 (ins := .invokevirtual 100) (rest := []) rfl rfl rfl rfl (zinv_v (fs := _) hl_7 rfl rfl rfl rfl) rfl rfl hk_25 ?_
      show Zr sc 151 649 [.ref 0, zj x1, zp a2, zp a3, zp a4, zj x5, zp a6, zj x7, zj x8, zj x9, zj x10, zj x11, .long z12, zmk, zj x14, zj x15, v16, v17, v18, v19] [zj r_26] w_24 ov w' c s
      refine Zr_st (q := (650, [.ref 0, zj x1, zp a2, zp a3, zp a4, zj x5, zp a6, zj x7, zj x8, zj x9, zj x10, zj x11, .long z12, zmk, zj x14, zj x15, v16, v17, v18, v19], [zp a3, zj r_26])) rfl rfl rfl ?_
      show Zr sc 151 650 [.ref 0, zj x1, zp a2, zp a3, zp a4, zj x5, zp a6, zj x7, zj x8, zj x9, zj x10, zj x11, .long z12, zmk, zj x14, zj x15, v16, v17, v18, v19] [zp a3, zj r_26] w_24 ov w' c s
      obtain ⟨fs_28, hl_27, h⟩ := h
      obtain ⟨r_31, hk_9, h⟩ := h
      refine rn_cal0 (ins := .invokevirtual 53) (rest := [zj r_26]) rfl rfl rfl rfl (zinv_v (fs := _) hl_27 rfl rfl rfl rfl) rfl rfl hk_9 ?_
      show Zr sc 151 653 [.ref 0, zj x1, zp a2, zp a3, zp a4, zj x5, zp a6, zj x7, zj x8, zj x9, zj x10, zj x11, .long z12, zmk, zj x14, zj x15, v16, v17, v18, v19] [zj r_31, zj r_26] w_24 ov w' c s
      obtain ⟨hr_32, h⟩ := h
      refine Zr_br (p := r_26 ≠ r_31) rfl rfl (zcmp_j (cnd := .ne) hr_32.1 hr_32.2) (fun hp => ?_) (fun hp => ?_)
      · replace h := h.1 hp
        show Zr sc 151 671 [.ref 0, zj x1, zp a2, zp a3, zp a4, zj x5, zp a6, zj x7, zj x8, zj x9, zj x10, zj x11, .long z12, zmk, zj x14, zj x15, v16, v17, v18, v19] [] w_24 ov w' c s
        exact h
      · replace h := h.2 hp
        show Zr sc 151 656 [.ref 0, zj x1, zp a2, zp a3, zp a4, zj x5, zp a6, zj x7, zj x8, zj x9, zj x10, zj x11, .long z12, zmk, zj x14, zj x15, v16, v17, v18, v19] [] w_24 ov w' c s
        refine Zr_st (q := (657, [.ref 0, zj x1, zp a2, zp a3, zp a4, zj x5, zp a6, zj x7, zj x8, zj x9, zj x10, zj x11, .long z12, zmk, zj x14, zj x15, v16, v17, v18, v19], [zp a3])) rfl rfl rfl ?_
        show Zr sc 151 657 [.ref 0, zj x1, zp a2, zp a3, zp a4, zj x5, zp a6, zj x7, zj x8, zj x9, zj x10, zj x11, .long z12, zmk, zj x14, zj x15, v16, v17, v18, v19] [zp a3] w_24 ov w' c s
        refine Zr_st (q := (658, [.ref 0, zj x1, zp a2, zp a3, zp a4, zj x5, zp a6, zj x7, zj x8, zj x9, zj x10, zj x11, .long z12, zmk, zj x14, zj x15, v16, v17, v18, v19], [zp a2, zp a3])) rfl rfl rfl ?_
        show Zr sc 151 658 [.ref 0, zj x1, zp a2, zp a3, zp a4, zj x5, zp a6, zj x7, zj x8, zj x9, zj x10, zj x11, .long z12, zmk, zj x14, zj x15, v16, v17, v18, v19] [zp a2, zp a3] w_24 ov w' c s
        obtain ⟨dr_34, wy_35, st_36, hd_37, nm_38, ar_39, hn_40, pk_41, D_42, tl_43, hw_33, h⟩ := h
        refine rl_gf rfl hw_33 rfl rfl ?_
        show Zr sc 151 661 [.ref 0, zj x1, zp a2, zp a3, zp a4, zj x5, zp a6, zj x7, zj x8, zj x9, zj x10, zj x11, .long z12, zmk, zj x14, zj x15, v16, v17, v18, v19] [zj wy_35, zp a3] w_24 ov w' c s
        refine rl_bi rfl (by decide) ?_
        show Zr sc 151 663 [.ref 0, zj x1, zp a2, zp a3, zp a4, zj x5, zp a6, zj x7, zj x8, zj x9, zj x10, zj x11, .long z12, zmk, zj x14, zj x15, v16, v17, v18, v19] [zj 7, zj wy_35, zp a3] w_24 ov w' c s
        obtain ⟨r_46, w_44, hk_45, h⟩ := h
        refine rn_cal0 (ins := .invokevirtual 100) (rest := []) rfl rfl rfl rfl (zinv_v (fs := _) hl_27 rfl rfl rfl rfl) rfl rfl hk_45 ?_
        show Zr sc 151 666 [.ref 0, zj x1, zp a2, zp a3, zp a4, zj x5, zp a6, zj x7, zj x8, zj x9, zj x10, zj x11, .long z12, zmk, zj x14, zj x15, v16, v17, v18, v19] [zj r_46] w_44 ov w' c s
        refine Zr_st (q := (668, [.ref 0, zj x1, zp a2, zp a3, zp a4, zj x5, zp a6, zj x7, zj x8, zj x9, zj x10, zj x11, .long z12, zmk, zj x14, zj x15, v16, v17, v18, v19], [zj x11, zj r_46])) rfl rfl rfl ?_
        show Zr sc 151 668 [.ref 0, zj x1, zp a2, zp a3, zp a4, zj x5, zp a6, zj x7, zj x8, zj x9, zj x10, zj x11, .long z12, zmk, zj x14, zj x15, v16, v17, v18, v19] [zj x11, zj r_46] w_44 ov w' c s
        obtain ⟨hr_47, h⟩ := h
        refine Zr_br (p := r_46 = x11) rfl rfl (zcmp_j (cnd := .eq) hr_47.1 hr_47.2) (fun hp => ?_) (fun hp => ?_)
        · replace h := h.1 hp
          show Zr sc 151 673 [.ref 0, zj x1, zp a2, zp a3, zp a4, zj x5, zp a6, zj x7, zj x8, zj x9, zj x10, zj x11, .long z12, zmk, zj x14, zj x15, v16, v17, v18, v19] [] w_44 ov w' c s
          refine Zr_st (q := (674, [.ref 0, zj x1, zp a2, zp a3, zp a4, zj x5, zp a6, zj x7, zj x8, zj x9, zj x10, zj x11, .long z12, zmk, zj x14, zj x15, v16, v17, v18, v19], [zp a3])) rfl rfl rfl ?_
          show Zr sc 151 674 [.ref 0, zj x1, zp a2, zp a3, zp a4, zj x5, zp a6, zj x7, zj x8, zj x9, zj x10, zj x11, .long z12, zmk, zj x14, zj x15, v16, v17, v18, v19] [zp a3] w_44 ov w' c s
          obtain ⟨fs_49, hl_48, h⟩ := h
          obtain ⟨r_52, w_50, hk_51, h⟩ := h
          refine rn_cal0 (ins := .invokevirtual 103) (rest := []) rfl rfl rfl rfl (zinv_v (fs := _) hl_48 rfl rfl rfl rfl) rfl rfl hk_51 ?_
          show Zr sc 151 677 [.ref 0, zj x1, zp a2, zp a3, zp a4, zj x5, zp a6, zj x7, zj x8, zj x9, zj x10, zj x11, .long z12, zmk, zj x14, zj x15, v16, v17, v18, v19] [zj r_52] w_50 ov w' c s
          refine Zr_st (q := (679, [.ref 0, zj x1, zp a2, zp a3, zp a4, zj x5, zp a6, zj x7, zj x8, zj x9, zj x10, zj x11, .long z12, zmk, zj x14, zj r_52, v16, v17, v18, v19], [])) rfl rfl rfl ?_
          show Zr sc 151 679 [.ref 0, zj x1, zp a2, zp a3, zp a4, zj x5, zp a6, zj x7, zj x8, zj x9, zj x10, zj x11, .long z12, zmk, zj x14, zj r_52, v16, v17, v18, v19] [] w_50 ov w' c s
          refine rl_ic rfl ?_
          show Zr sc 151 680 [.ref 0, zj x1, zp a2, zp a3, zp a4, zj x5, zp a6, zj x7, zj x8, zj x9, zj x10, zj x11, .long z12, zmk, zj x14, zj r_52, v16, v17, v18, v19] [zj 0] w_50 ov w' c s
          refine Zr_st (q := (682, [.ref 0, zj x1, zp a2, zp a3, zp a4, zj x5, zp a6, zj x7, zj x8, zj x9, zj x10, zj x11, .long z12, zmk, zj x14, zj r_52, zj 0, v17, v18, v19], [])) rfl rfl rfl ?_
          show Zr sc 151 682 [.ref 0, zj x1, zp a2, zp a3, zp a4, zj x5, zp a6, zj x7, zj x8, zj x9, zj x10, zj x11, .long z12, zmk, zj x14, zj r_52, zj 0, v17, v18, v19] [] w_50 ov w' c s
          exact h
        · replace h := h.2 hp
          show Zr sc 151 671 [.ref 0, zj x1, zp a2, zp a3, zp a4, zj x5, zp a6, zj x7, zj x8, zj x9, zj x10, zj x11, .long z12, zmk, zj x14, zj x15, v16, v17, v18, v19] [] w_44 ov w' c s
          exact h
  · replace h := h.2 hp
    show Zr sc 151 597 [.ref 0, zj x1, zp a2, zp a3, zp a4, zj x5, zp a6, zj x7, zj x8, zj x9, zj x10, zj x11, .long z12, zmk, zj x14, zj x15, v16, v17, v18, v19] [] w ov w' c s
    refine Zr_st (q := (598, [.ref 0, zj x1, zp a2, zp a3, zp a4, zj x5, zp a6, zj x7, zj x8, zj x9, zj x10, zj x11, .long z12, zmk, zj x14, zj x15, v16, v17, v18, v19], [zp a3])) rfl rfl rfl ?_
    show Zr sc 151 598 [.ref 0, zj x1, zp a2, zp a3, zp a4, zj x5, zp a6, zj x7, zj x8, zj x9, zj x10, zj x11, .long z12, zmk, zj x14, zj x15, v16, v17, v18, v19] [zp a3] w ov w' c s
    refine Zr_st (q := (599, [.ref 0, zj x1, zp a2, zp a3, zp a4, zj x5, zp a6, zj x7, zj x8, zj x9, zj x10, zj x11, .long z12, zmk, zj x14, zj x15, v16, v17, v18, v19], [zp a2, zp a3])) rfl rfl rfl ?_
    show Zr sc 151 599 [.ref 0, zj x1, zp a2, zp a3, zp a4, zj x5, zp a6, zj x7, zj x8, zj x9, zj x10, zj x11, .long z12, zmk, zj x14, zj x15, v16, v17, v18, v19] [zp a2, zp a3] w ov w' c s
    refine rl_gf rfl L0a2 rfl rfl ?_
    show Zr sc 151 602 [.ref 0, zj x1, zp a2, zp a3, zp a4, zj x5, zp a6, zj x7, zj x8, zj x9, zj x10, zj x11, .long z12, zmk, zj x14, zj x15, v16, v17, v18, v19] [zj wy, zp a3] w ov w' c s
    refine Zr_st (q := (604, [.ref 0, zj x1, zp a2, zp a3, zp a4, zj x5, zp a6, zj x7, zj x8, zj x9, zj x10, zj x11, .long z12, zmk, zj x14, zj x15, v16, v17, v18, v19], [zj x15, zj wy, zp a3])) rfl rfl rfl ?_
    show Zr sc 151 604 [.ref 0, zj x1, zp a2, zp a3, zp a4, zj x5, zp a6, zj x7, zj x8, zj x9, zj x10, zj x11, .long z12, zmk, zj x14, zj x15, v16, v17, v18, v19] [zj x15, zj wy, zp a3] w ov w' c s
    obtain ⟨fs_54, hl_53, h⟩ := h
    obtain ⟨r_57, w_55, hk_56, h⟩ := h
    refine rn_cal0 (ins := .invokevirtual 100) (rest := []) rfl rfl rfl rfl (zinv_v (fs := _) hl_53 rfl rfl rfl rfl) rfl rfl hk_56 ?_
    show Zr sc 151 607 [.ref 0, zj x1, zp a2, zp a3, zp a4, zj x5, zp a6, zj x7, zj x8, zj x9, zj x10, zj x11, .long z12, zmk, zj x14, zj x15, v16, v17, v18, v19] [zj r_57] w_55 ov w' c s
    refine Zr_st (q := (609, [.ref 0, zj x1, zp a2, zp a3, zp a4, zj x5, zp a6, zj x7, zj x8, zj x9, zj x10, zj x11, .long z12, zmk, zj x14, zj x15, v16, v17, v18, v19], [zp a4, zj r_57])) rfl rfl rfl ?_
    show Zr sc 151 609 [.ref 0, zj x1, zp a2, zp a3, zp a4, zj x5, zp a6, zj x7, zj x8, zj x9, zj x10, zj x11, .long z12, zmk, zj x14, zj x15, v16, v17, v18, v19] [zp a4, zj r_57] w_55 ov w' c s
    refine Zr_st (q := (611, [.ref 0, zj x1, zp a2, zp a3, zp a4, zj x5, zp a6, zj x7, zj x8, zj x9, zj x10, zj x11, .long z12, zmk, zj x14, zj x15, v16, v17, v18, v19], [zj x15, zp a4, zj r_57])) rfl rfl rfl ?_
    show Zr sc 151 611 [.ref 0, zj x1, zp a2, zp a3, zp a4, zj x5, zp a6, zj x7, zj x8, zj x9, zj x10, zj x11, .long z12, zmk, zj x14, zj x15, v16, v17, v18, v19] [zj x15, zp a4, zj r_57] w_55 ov w' c s
    obtain ⟨l_60, hw_59, h⟩ := h
    obtain ⟨hi_58, h⟩ := h
    refine rl_ia rfl hw_59 hi_58.1 hi_58.2.1 hi_58.2.2 ?_
    show Zr sc 151 612 [.ref 0, zj x1, zp a2, zp a3, zp a4, zj x5, zp a6, zj x7, zj x8, zj x9, zj x10, zj x11, .long z12, zmk, zj x14, zj x15, v16, v17, v18, v19] [zj (zgi l_60 x15), zj r_57] w_55 ov w' c s
    obtain ⟨hr_61, h⟩ := h
    refine Zr_br (p := r_57 = (zgi l_60 x15)) rfl rfl (zcmp_j (cnd := .eq) hr_61.1 hr_61.2) (fun hp => ?_) (fun hp => ?_)
    · replace h := h.1 hp
      show Zr sc 151 617 [.ref 0, zj x1, zp a2, zp a3, zp a4, zj x5, zp a6, zj x7, zj x8, zj x9, zj x10, zj x11, .long z12, zmk, zj x14, zj x15, v16, v17, v18, v19] [] w_55 ov w' c s
      refine rl_inc rfl rfl rfl rfl ?_
      show Zr sc 151 620 [.ref 0, zj x1, zp a2, zp a3, zp a4, zj x5, zp a6, zj x7, zj x8, zj x9, zj x10, zj x11, .long z12, zmk, zj x14, zj (x15 + 1), v16, v17, v18, v19] [] w_55 ov w' c s
      refine Zr_st (q := (591, [.ref 0, zj x1, zp a2, zp a3, zp a4, zj x5, zp a6, zj x7, zj x8, zj x9, zj x10, zj x11, .long z12, zmk, zj x14, zj (x15 + 1), v16, v17, v18, v19], [])) rfl rfl rfl ?_
      show Zr sc 151 591 [.ref 0, zj x1, zp a2, zp a3, zp a4, zj x5, zp a6, zj x7, zj x8, zj x9, zj x10, zj x11, .long z12, zmk, zj x14, zj (x15 + 1), v16, v17, v18, v19] [] w_55 ov w' c s
      exact h
    · replace h := h.2 hp
      show Zr sc 151 615 [.ref 0, zj x1, zp a2, zp a3, zp a4, zj x5, zp a6, zj x7, zj x8, zj x9, zj x10, zj x11, .long z12, zmk, zj x14, zj x15, v16, v17, v18, v19] [] w_55 ov w' c s
      refine rl_ic rfl ?_
      show Zr sc 151 616 [.ref 0, zj x1, zp a2, zp a3, zp a4, zj x5, zp a6, zj x7, zj x8, zj x9, zj x10, zj x11, .long z12, zmk, zj x14, zj x15, v16, v17, v18, v19] [zj 0] w_55 ov w' c s
      obtain ⟨h1, h2, h3, h4⟩ := h
      subst h1; subst h2; subst h3; subst h4
      exact Zr_ret (ins := .ireturn) rfl rfl
set_option maxRecDepth 100000 in
theorem V151_671 {sc : List Value} {w w' : List zE} {ov : Option Value} {c s : Nat} {x1 : Int} {a2 : Nat} {a3 : Nat} {a4 : Nat} {x5 : Int} {a6 : Nat} {x7 : Int} {x8 : Int} {x9 : Int} {x10 : Int} {x11 : Int} {z12 : Int64} {x14 : Int} {x15 : Int} {v16 : Value} {v17 : Value} {v18 : Value} {v19 : Value} (h : (ov = some (zj 0) ∧ w' = w ∧ c = 0 ∧ s = 0)) : Zr sc 151 671 [.ref 0, zj x1, zp a2, zp a3, zp a4, zj x5, zp a6, zj x7, zj x8, zj x9, zj x10, zj x11, .long z12, zmk, zj x14, zj x15, v16, v17, v18, v19] [] w ov w' c s := by
  refine rl_ic rfl ?_
  show Zr sc 151 672 [.ref 0, zj x1, zp a2, zp a3, zp a4, zj x5, zp a6, zj x7, zj x8, zj x9, zj x10, zj x11, .long z12, zmk, zj x14, zj x15, v16, v17, v18, v19] [zj 0] w ov w' c s
  obtain ⟨h1, h2, h3, h4⟩ := h
  subst h1; subst h2; subst h3; subst h4
  exact Zr_ret (ins := .ireturn) rfl rfl
set_option maxRecDepth 100000 in
theorem V151_682 {sc : List Value} {w w' : List zE} {ov : Option Value} {c s : Nat} {x1 : Int} {a2 : Nat} {a3 : Nat} {a4 : Nat} {x5 : Int} {a6 : Nat} {x7 : Int} {x8 : Int} {x9 : Int} {x10 : Int} {x11 : Int} {z12 : Int64} {x14 : Int} {x15 : Int} {x16 : Int} {v17 : Value} {v18 : Value} {v19 : Value} (h : ((zrg x16 ∧ zrg 6) ∧ ((6 ≤ x16 → (∃ fs_3 : List Value, w[a3]? = some (zob 6 fs_3) ∧ (∃ z_6 : Int64, ∃ w_4 : List zE, Zc sc 100 [zp a3] w (some (.long z_6)) w_4 0 0 ∧ ((z12 = z_6) ∧ ((zrg 0) ∧ (∃ fs_10 : List Value, w_4[a2]? = some (zob 7 fs_10) ∧ (∃ r_13 : Int, ∃ w_11 : List zE, Zc sc 115 [zp a2, zj 200] w_4 (some (zj r_13)) w_11 0 0 ∧ (∃ fs_15 : List Value, w_11[a3]? = some (zob 6 fs_15) ∧ (∃ r_18 : Int, ∃ w_16 : List zE, Zc sc 36 [zp a3, zj (1 + r_13)] w_11 (some (zj r_18)) w_16 0 0 ∧ (∃ fs_20 : List Value, w_16[a3]? = some (zob 6 fs_20) ∧ (∃ r_23 : Int, Zc sc 0 [zp a3] w_16 (some (zj r_23)) w_16 0 0 ∧ ((zrg r_23 ∧ zrg 40) ∧ ((40 ≤ r_23 → Zr sc 151 850 [.ref 0, zj x1, zp a2, zp a3, zp a4, zj x5, zp a6, zj x7, zj x8, zj x9, zj x10, zj x11, .long z12, zmk, zj x14, zj x15, zj (1 + r_13), zj r_18, zj r_23, v19] [] w_16 ov w' c s) ∧ (¬ (40 ≤ r_23) → (∃ fs_26 : List Value, w_16[a2]? = some (zob 7 fs_26) ∧ (∃ r_29 : Int, ∃ w_27 : List zE, ∃ c_30 s_31 c_32 s_33 : Nat, Zc sc 124 [zp a2, zj (1 + r_13)] w_16 (some (zj r_29)) w_27 c_30 s_31 ∧ (c = c_30 + c_32 ∧ s = s_31 + s_33) ∧ ((zrg r_29) ∧ ((r_29 = 0 → Zr sc 151 848 [.ref 0, zj x1, zp a2, zp a3, zp a4, zj x5, zp a6, zj x7, zj x8, zj x9, zj x10, zj x11, .long z12, zmk, zj x14, zj x15, zj (1 + r_13), zj r_18, zj r_23, v19] [] w_27 ov w' c_32 s_33) ∧ (¬ (r_29 = 0) → (∃ fs_37 : List Value, w_27[a3]? = some (zob 6 fs_37) ∧ (∃ r_40 : Int, Zc sc 8 [zp a3, zj r_23] w_27 (some (zj r_40)) w_27 0 0 ∧ ((zrg r_40 ∧ zrg r_18) ∧ ((r_40 ≠ r_18 → Zr sc 151 848 [.ref 0, zj x1, zp a2, zp a3, zp a4, zj x5, zp a6, zj x7, zj x8, zj x9, zj x10, zj x11, .long z12, zmk, zj x14, zj x15, zj (1 + r_13), zj r_18, zj r_23, v19] [] w_27 ov w' c_32 s_33) ∧ (¬ (r_40 ≠ r_18) → (∃ r_44 : Int, Zc sc 4 [zp a3, zj r_23] w_27 (some (zj r_44)) w_27 0 0 ∧ ((zrg r_18) ∧ ((r_18 < 0 → ((zrg r_44 ∧ zrg 0) ∧ ((r_44 = 0 → Zr sc 151 850 [.ref 0, zj x1, zp a2, zp a3, zp a4, zj x5, zp a6, zj x7, zj x8, zj x9, zj x10, zj x11, .long z12, zmk, zj x14, zj x15, zj (1 + r_13), zj r_18, zj r_23, v19] [] w_27 ov w' c_32 s_33) ∧ (¬ (r_44 = 0) → Zr sc 151 848 [.ref 0, zj x1, zp a2, zp a3, zp a4, zj x5, zp a6, zj x7, zj x8, zj x9, zj x10, zj x11, .long z12, zmk, zj x14, zj x15, zj (1 + r_13), zj r_18, zj r_23, v19] [] w_27 ov w' c_32 s_33)))) ∧ (¬ (r_18 < 0) → ((zrg r_44 ∧ zrg 1) ∧ ((r_44 = 1 → Zr sc 151 850 [.ref 0, zj x1, zp a2, zp a3, zp a4, zj x5, zp a6, zj x7, zj x8, zj x9, zj x10, zj x11, .long z12, zmk, zj x14, zj x15, zj (1 + r_13), zj r_18, zj r_23, v19] [] w_27 ov w' c_32 s_33) ∧ (¬ (r_44 = 1) → Zr sc 151 848 [.ref 0, zj x1, zp a2, zp a3, zp a4, zj x5, zp a6, zj x7, zj x8, zj x9, zj x10, zj x11, .long z12, zmk, zj x14, zj x15, zj (1 + r_13), zj r_18, zj r_23, v19] [] w_27 ov w' c_32 s_33))))))))))))))))))))))))))))))) ∧ (¬ (6 ≤ x16) → (∃ fs_49 : List Value, w[a3]? = some (zob 6 fs_49) ∧ (∃ r_52 : Int, ∃ w_50 : List zE, Zc sc 55 [zp a3, zj x16, zj 4] w (some (zj r_52)) w_50 0 0 ∧ (∃ fs_54 : List Value, w_50[a3]? = some (zob 6 fs_54) ∧ (∃ r_57 : Int, ∃ w_55 : List zE, Zc sc 55 [zp a3, zj x15, zj 4] w_50 (some (zj r_57)) w_55 0 0 ∧ ((zrg (r_52 - r_57)) ∧ (((r_52 - r_57) < 0 → Zr sc 151 757 [.ref 0, zj x1, zp a2, zp a3, zp a4, zj x5, zp a6, zj x7, zj x8, zj x9, zj x10, zj x11, .long z12, zmk, zj x14, zj x15, zj x16, zj (r_52 - r_57), v18, v19] [] w_55 ov w' c s) ∧ (¬ ((r_52 - r_57) < 0) → ((zrg (r_52 - r_57)) ∧ (((r_52 - r_57) ≠ 0 → Zr sc 151 682 [.ref 0, zj x1, zp a2, zp a3, zp a4, zj x5, zp a6, zj x7, zj x8, zj x9, zj x10, zj x11, .long z12, zmk, zj x14, zj x15, zj (x16 + 1), zj (r_52 - r_57), v18, v19] [] w_55 ov w' c s) ∧ (¬ ((r_52 - r_57) ≠ 0) → (∃ fs_61 : List Value, w_55[a3]? = some (zob 6 fs_61) ∧ (∃ r_64 : Int, ∃ w_62 : List zE, Zc sc 55 [zp a3, zj x16, zj 5] w_55 (some (zj r_64)) w_62 0 0 ∧ (∃ fs_66 : List Value, w_62[a3]? = some (zob 6 fs_66) ∧ (∃ r_69 : Int, ∃ w_67 : List zE, Zc sc 55 [zp a3, zj x15, zj 5] w_62 (some (zj r_69)) w_67 0 0 ∧ ((zrg r_64 ∧ zrg r_69) ∧ ((r_64 < r_69 → Zr sc 151 757 [.ref 0, zj x1, zp a2, zp a3, zp a4, zj x5, zp a6, zj x7, zj x8, zj x9, zj x10, zj x11, .long z12, zmk, zj x14, zj x15, zj x16, zj (r_52 - r_57), v18, v19] [] w_67 ov w' c s) ∧ (¬ (r_64 < r_69) → (∃ fs_72 : List Value, w_67[a3]? = some (zob 6 fs_72) ∧ (∃ r_75 : Int, ∃ w_73 : List zE, Zc sc 55 [zp a3, zj x16, zj 5] w_67 (some (zj r_75)) w_73 0 0 ∧ (∃ fs_77 : List Value, w_73[a3]? = some (zob 6 fs_77) ∧ (∃ r_80 : Int, ∃ w_78 : List zE, Zc sc 55 [zp a3, zj x15, zj 5] w_73 (some (zj r_80)) w_78 0 0 ∧ ((zrg r_75 ∧ zrg r_80) ∧ ((r_75 ≠ r_80 → Zr sc 151 682 [.ref 0, zj x1, zp a2, zp a3, zp a4, zj x5, zp a6, zj x7, zj x8, zj x9, zj x10, zj x11, .long z12, zmk, zj x14, zj x15, zj (x16 + 1), zj (r_52 - r_57), v18, v19] [] w_78 ov w' c s) ∧ (¬ (r_75 ≠ r_80) → ((zrg x16 ∧ zrg x15) ∧ ((x15 ≤ x16 → Zr sc 151 682 [.ref 0, zj x1, zp a2, zp a3, zp a4, zj x5, zp a6, zj x7, zj x8, zj x9, zj x10, zj x11, .long z12, zmk, zj x14, zj x15, zj (x16 + 1), zj (r_52 - r_57), v18, v19] [] w_78 ov w' c s) ∧ (¬ (x15 ≤ x16) → Zr sc 151 757 [.ref 0, zj x1, zp a2, zp a3, zp a4, zj x5, zp a6, zj x7, zj x8, zj x9, zj x10, zj x11, .long z12, zmk, zj x14, zj x15, zj x16, zj (r_52 - r_57), v18, v19] [] w_78 ov w' c s))))))))))))))))))))))))))))))) : Zr sc 151 682 [.ref 0, zj x1, zp a2, zp a3, zp a4, zj x5, zp a6, zj x7, zj x8, zj x9, zj x10, zj x11, .long z12, zmk, zj x14, zj x15, zj x16, v17, v18, v19] [] w ov w' c s := by
  refine Zr_st (q := (684, [.ref 0, zj x1, zp a2, zp a3, zp a4, zj x5, zp a6, zj x7, zj x8, zj x9, zj x10, zj x11, .long z12, zmk, zj x14, zj x15, zj x16, v17, v18, v19], [zj x16])) rfl rfl rfl ?_
  show Zr sc 151 684 [.ref 0, zj x1, zp a2, zp a3, zp a4, zj x5, zp a6, zj x7, zj x8, zj x9, zj x10, zj x11, .long z12, zmk, zj x14, zj x15, zj x16, v17, v18, v19] [zj x16] w ov w' c s
  refine rl_bi rfl (by decide) ?_
  show Zr sc 151 686 [.ref 0, zj x1, zp a2, zp a3, zp a4, zj x5, zp a6, zj x7, zj x8, zj x9, zj x10, zj x11, .long z12, zmk, zj x14, zj x15, zj x16, v17, v18, v19] [zj 6, zj x16] w ov w' c s
  obtain ⟨hr_1, h⟩ := h
  refine Zr_br (p := 6 ≤ x16) rfl rfl (zcmp_j (cnd := .ge) hr_1.1 hr_1.2) (fun hp => ?_) (fun hp => ?_)
  · replace h := h.1 hp
    show Zr sc 151 765 [.ref 0, zj x1, zp a2, zp a3, zp a4, zj x5, zp a6, zj x7, zj x8, zj x9, zj x10, zj x11, .long z12, zmk, zj x14, zj x15, zj x16, v17, v18, v19] [] w ov w' c s
    refine Zr_st (q := (766, [.ref 0, zj x1, zp a2, zp a3, zp a4, zj x5, zp a6, zj x7, zj x8, zj x9, zj x10, zj x11, .long z12, zmk, zj x14, zj x15, zj x16, v17, v18, v19], [zp a3])) rfl rfl rfl ?_
    show Zr sc 151 766 [.ref 0, zj x1, zp a2, zp a3, zp a4, zj x5, zp a6, zj x7, zj x8, zj x9, zj x10, zj x11, .long z12, zmk, zj x14, zj x15, zj x16, v17, v18, v19] [zp a3] w ov w' c s
    obtain ⟨fs_3, hl_2, h⟩ := h
    obtain ⟨z_6, w_4, hk_5, h⟩ := h
    refine rn_cal0 (ins := .invokevirtual 90) (rest := []) rfl rfl rfl rfl (zinv_v (fs := _) hl_2 rfl rfl rfl rfl) rfl rfl hk_5 ?_
    show Zr sc 151 769 [.ref 0, zj x1, zp a2, zp a3, zp a4, zj x5, zp a6, zj x7, zj x8, zj x9, zj x10, zj x11, .long z12, zmk, zj x14, zj x15, zj x16, v17, v18, v19] [.long z_6] w_4 ov w' c s
    refine Zr_st (q := (771, [.ref 0, zj x1, zp a2, zp a3, zp a4, zj x5, zp a6, zj x7, zj x8, zj x9, zj x10, zj x11, .long z12, zmk, zj x14, zj x15, zj x16, v17, v18, v19], [.long z12, .long z_6])) rfl rfl rfl ?_
    show Zr sc 151 771 [.ref 0, zj x1, zp a2, zp a3, zp a4, zj x5, zp a6, zj x7, zj x8, zj x9, zj x10, zj x11, .long z12, zmk, zj x14, zj x15, zj x16, v17, v18, v19] [.long z12, .long z_6] w_4 ov w' c s
    obtain ⟨he_7, h⟩ := h
    refine rl_lcmp1 he_7 rfl ?_
    show Zr sc 151 772 [.ref 0, zj x1, zp a2, zp a3, zp a4, zj x5, zp a6, zj x7, zj x8, zj x9, zj x10, zj x11, .long z12, zmk, zj x14, zj x15, zj x16, v17, v18, v19] [zj 0] w_4 ov w' c s
    obtain ⟨hr_8, h⟩ := h
    refine Zr_b0 (p := 0 = 0) rfl rfl (zcmp_0 (cnd := .eq) hr_8) (fun hp => ?_) (fun hp => absurd (by decide) hp)
    show Zr sc 151 777 [.ref 0, zj x1, zp a2, zp a3, zp a4, zj x5, zp a6, zj x7, zj x8, zj x9, zj x10, zj x11, .long z12, zmk, zj x14, zj x15, zj x16, v17, v18, v19] [] w_4 ov w' c s
    refine rl_ic rfl ?_
    show Zr sc 151 778 [.ref 0, zj x1, zp a2, zp a3, zp a4, zj x5, zp a6, zj x7, zj x8, zj x9, zj x10, zj x11, .long z12, zmk, zj x14, zj x15, zj x16, v17, v18, v19] [zj 1] w_4 ov w' c s
    refine Zr_st (q := (779, [.ref 0, zj x1, zp a2, zp a3, zp a4, zj x5, zp a6, zj x7, zj x8, zj x9, zj x10, zj x11, .long z12, zmk, zj x14, zj x15, zj x16, v17, v18, v19], [zp a2, zj 1])) rfl rfl rfl ?_
    show Zr sc 151 779 [.ref 0, zj x1, zp a2, zp a3, zp a4, zj x5, zp a6, zj x7, zj x8, zj x9, zj x10, zj x11, .long z12, zmk, zj x14, zj x15, zj x16, v17, v18, v19] [zp a2, zj 1] w_4 ov w' c s
    refine rl_si rfl (by decide) ?_
    show Zr sc 151 782 [.ref 0, zj x1, zp a2, zp a3, zp a4, zj x5, zp a6, zj x7, zj x8, zj x9, zj x10, zj x11, .long z12, zmk, zj x14, zj x15, zj x16, v17, v18, v19] [zj 200, zp a2, zj 1] w_4 ov w' c s
    obtain ⟨fs_10, hl_9, h⟩ := h
    obtain ⟨r_13, w_11, hk_12, h⟩ := h
    refine rn_cal0 (ins := .invokevirtual 18) (rest := [zj 1]) rfl rfl rfl rfl (zinv_v (fs := _) hl_9 rfl rfl rfl rfl) rfl rfl hk_12 ?_
    show Zr sc 151 785 [.ref 0, zj x1, zp a2, zp a3, zp a4, zj x5, zp a6, zj x7, zj x8, zj x9, zj x10, zj x11, .long z12, zmk, zj x14, zj x15, zj x16, v17, v18, v19] [zj r_13, zj 1] w_11 ov w' c s
    refine rl_add rfl ?_
    show Zr sc 151 786 [.ref 0, zj x1, zp a2, zp a3, zp a4, zj x5, zp a6, zj x7, zj x8, zj x9, zj x10, zj x11, .long z12, zmk, zj x14, zj x15, zj x16, v17, v18, v19] [zj (1 + r_13)] w_11 ov w' c s
    refine Zr_st (q := (788, [.ref 0, zj x1, zp a2, zp a3, zp a4, zj x5, zp a6, zj x7, zj x8, zj x9, zj x10, zj x11, .long z12, zmk, zj x14, zj x15, zj (1 + r_13), v17, v18, v19], [])) rfl rfl rfl ?_
    show Zr sc 151 788 [.ref 0, zj x1, zp a2, zp a3, zp a4, zj x5, zp a6, zj x7, zj x8, zj x9, zj x10, zj x11, .long z12, zmk, zj x14, zj x15, zj (1 + r_13), v17, v18, v19] [] w_11 ov w' c s
    refine Zr_st (q := (789, [.ref 0, zj x1, zp a2, zp a3, zp a4, zj x5, zp a6, zj x7, zj x8, zj x9, zj x10, zj x11, .long z12, zmk, zj x14, zj x15, zj (1 + r_13), v17, v18, v19], [zp a3])) rfl rfl rfl ?_
    show Zr sc 151 789 [.ref 0, zj x1, zp a2, zp a3, zp a4, zj x5, zp a6, zj x7, zj x8, zj x9, zj x10, zj x11, .long z12, zmk, zj x14, zj x15, zj (1 + r_13), v17, v18, v19] [zp a3] w_11 ov w' c s
    refine Zr_st (q := (791, [.ref 0, zj x1, zp a2, zp a3, zp a4, zj x5, zp a6, zj x7, zj x8, zj x9, zj x10, zj x11, .long z12, zmk, zj x14, zj x15, zj (1 + r_13), v17, v18, v19], [zj (1 + r_13), zp a3])) rfl rfl rfl ?_
    show Zr sc 151 791 [.ref 0, zj x1, zp a2, zp a3, zp a4, zj x5, zp a6, zj x7, zj x8, zj x9, zj x10, zj x11, .long z12, zmk, zj x14, zj x15, zj (1 + r_13), v17, v18, v19] [zj (1 + r_13), zp a3] w_11 ov w' c s
    obtain ⟨fs_15, hl_14, h⟩ := h
    obtain ⟨r_18, w_16, hk_17, h⟩ := h
    refine rn_cal0 (ins := .invokevirtual 97) (rest := []) rfl rfl rfl rfl (zinv_v (fs := _) hl_14 rfl rfl rfl rfl) rfl rfl hk_17 ?_
    show Zr sc 151 794 [.ref 0, zj x1, zp a2, zp a3, zp a4, zj x5, zp a6, zj x7, zj x8, zj x9, zj x10, zj x11, .long z12, zmk, zj x14, zj x15, zj (1 + r_13), v17, v18, v19] [zj r_18] w_16 ov w' c s
    refine Zr_st (q := (796, [.ref 0, zj x1, zp a2, zp a3, zp a4, zj x5, zp a6, zj x7, zj x8, zj x9, zj x10, zj x11, .long z12, zmk, zj x14, zj x15, zj (1 + r_13), zj r_18, v18, v19], [])) rfl rfl rfl ?_
    show Zr sc 151 796 [.ref 0, zj x1, zp a2, zp a3, zp a4, zj x5, zp a6, zj x7, zj x8, zj x9, zj x10, zj x11, .long z12, zmk, zj x14, zj x15, zj (1 + r_13), zj r_18, v18, v19] [] w_16 ov w' c s
    refine Zr_st (q := (797, [.ref 0, zj x1, zp a2, zp a3, zp a4, zj x5, zp a6, zj x7, zj x8, zj x9, zj x10, zj x11, .long z12, zmk, zj x14, zj x15, zj (1 + r_13), zj r_18, v18, v19], [zp a3])) rfl rfl rfl ?_
    show Zr sc 151 797 [.ref 0, zj x1, zp a2, zp a3, zp a4, zj x5, zp a6, zj x7, zj x8, zj x9, zj x10, zj x11, .long z12, zmk, zj x14, zj x15, zj (1 + r_13), zj r_18, v18, v19] [zp a3] w_16 ov w' c s
    obtain ⟨fs_20, hl_19, h⟩ := h
    obtain ⟨r_23, hk_9, h⟩ := h
    refine rn_cal0 (ins := .invokevirtual 29) (rest := []) rfl rfl rfl rfl (zinv_v (fs := _) hl_19 rfl rfl rfl rfl) rfl rfl hk_9 ?_
    show Zr sc 151 800 [.ref 0, zj x1, zp a2, zp a3, zp a4, zj x5, zp a6, zj x7, zj x8, zj x9, zj x10, zj x11, .long z12, zmk, zj x14, zj x15, zj (1 + r_13), zj r_18, v18, v19] [zj r_23] w_16 ov w' c s
    refine Zr_st (q := (802, [.ref 0, zj x1, zp a2, zp a3, zp a4, zj x5, zp a6, zj x7, zj x8, zj x9, zj x10, zj x11, .long z12, zmk, zj x14, zj x15, zj (1 + r_13), zj r_18, zj r_23, v19], [])) rfl rfl rfl ?_
    show Zr sc 151 802 [.ref 0, zj x1, zp a2, zp a3, zp a4, zj x5, zp a6, zj x7, zj x8, zj x9, zj x10, zj x11, .long z12, zmk, zj x14, zj x15, zj (1 + r_13), zj r_18, zj r_23, v19] [] w_16 ov w' c s
    refine Zr_st (q := (804, [.ref 0, zj x1, zp a2, zp a3, zp a4, zj x5, zp a6, zj x7, zj x8, zj x9, zj x10, zj x11, .long z12, zmk, zj x14, zj x15, zj (1 + r_13), zj r_18, zj r_23, v19], [zj r_23])) rfl rfl rfl ?_
    show Zr sc 151 804 [.ref 0, zj x1, zp a2, zp a3, zp a4, zj x5, zp a6, zj x7, zj x8, zj x9, zj x10, zj x11, .long z12, zmk, zj x14, zj x15, zj (1 + r_13), zj r_18, zj r_23, v19] [zj r_23] w_16 ov w' c s
    refine rl_bi rfl (by decide) ?_
    show Zr sc 151 806 [.ref 0, zj x1, zp a2, zp a3, zp a4, zj x5, zp a6, zj x7, zj x8, zj x9, zj x10, zj x11, .long z12, zmk, zj x14, zj x15, zj (1 + r_13), zj r_18, zj r_23, v19] [zj 40, zj r_23] w_16 ov w' c s
    obtain ⟨hr_24, h⟩ := h
    refine Zr_br (p := 40 ≤ r_23) rfl rfl (zcmp_j (cnd := .ge) hr_24.1 hr_24.2) (fun hp => ?_) (fun hp => ?_)
    · replace h := h.1 hp
      show Zr sc 151 850 [.ref 0, zj x1, zp a2, zp a3, zp a4, zj x5, zp a6, zj x7, zj x8, zj x9, zj x10, zj x11, .long z12, zmk, zj x14, zj x15, zj (1 + r_13), zj r_18, zj r_23, v19] [] w_16 ov w' c s
      exact h
    · replace h := h.2 hp
      show Zr sc 151 809 [.ref 0, zj x1, zp a2, zp a3, zp a4, zj x5, zp a6, zj x7, zj x8, zj x9, zj x10, zj x11, .long z12, zmk, zj x14, zj x15, zj (1 + r_13), zj r_18, zj r_23, v19] [] w_16 ov w' c s
      refine Zr_st (q := (810, [.ref 0, zj x1, zp a2, zp a3, zp a4, zj x5, zp a6, zj x7, zj x8, zj x9, zj x10, zj x11, .long z12, zmk, zj x14, zj x15, zj (1 + r_13), zj r_18, zj r_23, v19], [zp a2])) rfl rfl rfl ?_
      show Zr sc 151 810 [.ref 0, zj x1, zp a2, zp a3, zp a4, zj x5, zp a6, zj x7, zj x8, zj x9, zj x10, zj x11, .long z12, zmk, zj x14, zj x15, zj (1 + r_13), zj r_18, zj r_23, v19] [zp a2] w_16 ov w' c s
      refine Zr_st (q := (812, [.ref 0, zj x1, zp a2, zp a3, zp a4, zj x5, zp a6, zj x7, zj x8, zj x9, zj x10, zj x11, .long z12, zmk, zj x14, zj x15, zj (1 + r_13), zj r_18, zj r_23, v19], [zj (1 + r_13), zp a2])) rfl rfl rfl ?_
      show Zr sc 151 812 [.ref 0, zj x1, zp a2, zp a3, zp a4, zj x5, zp a6, zj x7, zj x8, zj x9, zj x10, zj x11, .long z12, zmk, zj x14, zj x15, zj (1 + r_13), zj r_18, zj r_23, v19] [zj (1 + r_13), zp a2] w_16 ov w' c s
      obtain ⟨fs_26, hl_25, h⟩ := h
      obtain ⟨r_29, w_27, c_30, s_31, c_32, s_33, hk_28, hc_34, h⟩ := h
      refine rl_cal (ins := .invokevirtual 106) (rest := []) rfl rfl rfl rfl (zinv_v (fs := _) hl_25 rfl rfl rfl rfl) rfl rfl hk_28 ?_ hc_34.1 hc_34.2
      show Zr sc 151 815 [.ref 0, zj x1, zp a2, zp a3, zp a4, zj x5, zp a6, zj x7, zj x8, zj x9, zj x10, zj x11, .long z12, zmk, zj x14, zj x15, zj (1 + r_13), zj r_18, zj r_23, v19] [zj r_29] w_27 ov w' c_32 s_33
      obtain ⟨hr_35, h⟩ := h
      refine Zr_b0 (p := r_29 = 0) rfl rfl (zcmp_0 (cnd := .eq) hr_35) (fun hp => ?_) (fun hp => ?_)
      · replace h := h.1 hp
        show Zr sc 151 848 [.ref 0, zj x1, zp a2, zp a3, zp a4, zj x5, zp a6, zj x7, zj x8, zj x9, zj x10, zj x11, .long z12, zmk, zj x14, zj x15, zj (1 + r_13), zj r_18, zj r_23, v19] [] w_27 ov w' c_32 s_33
        exact h
      · replace h := h.2 hp
        show Zr sc 151 818 [.ref 0, zj x1, zp a2, zp a3, zp a4, zj x5, zp a6, zj x7, zj x8, zj x9, zj x10, zj x11, .long z12, zmk, zj x14, zj x15, zj (1 + r_13), zj r_18, zj r_23, v19] [] w_27 ov w' c_32 s_33
        refine Zr_st (q := (819, [.ref 0, zj x1, zp a2, zp a3, zp a4, zj x5, zp a6, zj x7, zj x8, zj x9, zj x10, zj x11, .long z12, zmk, zj x14, zj x15, zj (1 + r_13), zj r_18, zj r_23, v19], [zp a3])) rfl rfl rfl ?_
        show Zr sc 151 819 [.ref 0, zj x1, zp a2, zp a3, zp a4, zj x5, zp a6, zj x7, zj x8, zj x9, zj x10, zj x11, .long z12, zmk, zj x14, zj x15, zj (1 + r_13), zj r_18, zj r_23, v19] [zp a3] w_27 ov w' c_32 s_33
        refine Zr_st (q := (821, [.ref 0, zj x1, zp a2, zp a3, zp a4, zj x5, zp a6, zj x7, zj x8, zj x9, zj x10, zj x11, .long z12, zmk, zj x14, zj x15, zj (1 + r_13), zj r_18, zj r_23, v19], [zj r_23, zp a3])) rfl rfl rfl ?_
        show Zr sc 151 821 [.ref 0, zj x1, zp a2, zp a3, zp a4, zj x5, zp a6, zj x7, zj x8, zj x9, zj x10, zj x11, .long z12, zmk, zj x14, zj x15, zj (1 + r_13), zj r_18, zj r_23, v19] [zj r_23, zp a3] w_27 ov w' c_32 s_33
        obtain ⟨fs_37, hl_36, h⟩ := h
        obtain ⟨r_40, hk_9, h⟩ := h
        refine rn_cal0 (ins := .invokevirtual 47) (rest := []) rfl rfl rfl rfl (zinv_v (fs := _) hl_36 rfl rfl rfl rfl) rfl rfl hk_9 ?_
        show Zr sc 151 824 [.ref 0, zj x1, zp a2, zp a3, zp a4, zj x5, zp a6, zj x7, zj x8, zj x9, zj x10, zj x11, .long z12, zmk, zj x14, zj x15, zj (1 + r_13), zj r_18, zj r_23, v19] [zj r_40] w_27 ov w' c_32 s_33
        refine Zr_st (q := (826, [.ref 0, zj x1, zp a2, zp a3, zp a4, zj x5, zp a6, zj x7, zj x8, zj x9, zj x10, zj x11, .long z12, zmk, zj x14, zj x15, zj (1 + r_13), zj r_18, zj r_23, v19], [zj r_18, zj r_40])) rfl rfl rfl ?_
        show Zr sc 151 826 [.ref 0, zj x1, zp a2, zp a3, zp a4, zj x5, zp a6, zj x7, zj x8, zj x9, zj x10, zj x11, .long z12, zmk, zj x14, zj x15, zj (1 + r_13), zj r_18, zj r_23, v19] [zj r_18, zj r_40] w_27 ov w' c_32 s_33
        obtain ⟨hr_41, h⟩ := h
        refine Zr_br (p := r_40 ≠ r_18) rfl rfl (zcmp_j (cnd := .ne) hr_41.1 hr_41.2) (fun hp => ?_) (fun hp => ?_)
        · replace h := h.1 hp
          show Zr sc 151 848 [.ref 0, zj x1, zp a2, zp a3, zp a4, zj x5, zp a6, zj x7, zj x8, zj x9, zj x10, zj x11, .long z12, zmk, zj x14, zj x15, zj (1 + r_13), zj r_18, zj r_23, v19] [] w_27 ov w' c_32 s_33
          exact h
        · replace h := h.2 hp
          show Zr sc 151 829 [.ref 0, zj x1, zp a2, zp a3, zp a4, zj x5, zp a6, zj x7, zj x8, zj x9, zj x10, zj x11, .long z12, zmk, zj x14, zj x15, zj (1 + r_13), zj r_18, zj r_23, v19] [] w_27 ov w' c_32 s_33
          refine Zr_st (q := (830, [.ref 0, zj x1, zp a2, zp a3, zp a4, zj x5, zp a6, zj x7, zj x8, zj x9, zj x10, zj x11, .long z12, zmk, zj x14, zj x15, zj (1 + r_13), zj r_18, zj r_23, v19], [zp a3])) rfl rfl rfl ?_
          show Zr sc 151 830 [.ref 0, zj x1, zp a2, zp a3, zp a4, zj x5, zp a6, zj x7, zj x8, zj x9, zj x10, zj x11, .long z12, zmk, zj x14, zj x15, zj (1 + r_13), zj r_18, zj r_23, v19] [zp a3] w_27 ov w' c_32 s_33
          refine Zr_st (q := (832, [.ref 0, zj x1, zp a2, zp a3, zp a4, zj x5, zp a6, zj x7, zj x8, zj x9, zj x10, zj x11, .long z12, zmk, zj x14, zj x15, zj (1 + r_13), zj r_18, zj r_23, v19], [zj r_23, zp a3])) rfl rfl rfl ?_
          show Zr sc 151 832 [.ref 0, zj x1, zp a2, zp a3, zp a4, zj x5, zp a6, zj x7, zj x8, zj x9, zj x10, zj x11, .long z12, zmk, zj x14, zj x15, zj (1 + r_13), zj r_18, zj r_23, v19] [zj r_23, zp a3] w_27 ov w' c_32 s_33
          obtain ⟨r_44, hk_9, h⟩ := h
          refine rn_cal0 (ins := .invokevirtual 35) (rest := []) rfl rfl rfl rfl (zinv_v (fs := _) hl_36 rfl rfl rfl rfl) rfl rfl hk_9 ?_
          show Zr sc 151 835 [.ref 0, zj x1, zp a2, zp a3, zp a4, zj x5, zp a6, zj x7, zj x8, zj x9, zj x10, zj x11, .long z12, zmk, zj x14, zj x15, zj (1 + r_13), zj r_18, zj r_23, v19] [zj r_44] w_27 ov w' c_32 s_33
          refine Zr_st (q := (837, [.ref 0, zj x1, zp a2, zp a3, zp a4, zj x5, zp a6, zj x7, zj x8, zj x9, zj x10, zj x11, .long z12, zmk, zj x14, zj x15, zj (1 + r_13), zj r_18, zj r_23, v19], [zj r_18, zj r_44])) rfl rfl rfl ?_
          show Zr sc 151 837 [.ref 0, zj x1, zp a2, zp a3, zp a4, zj x5, zp a6, zj x7, zj x8, zj x9, zj x10, zj x11, .long z12, zmk, zj x14, zj x15, zj (1 + r_13), zj r_18, zj r_23, v19] [zj r_18, zj r_44] w_27 ov w' c_32 s_33
          obtain ⟨hr_45, h⟩ := h
          refine Zr_b0 (p := r_18 < 0) rfl rfl (zcmp_0 (cnd := .lt) hr_45) (fun hp => ?_) (fun hp => ?_)
          · replace h := h.1 hp
            show Zr sc 151 844 [.ref 0, zj x1, zp a2, zp a3, zp a4, zj x5, zp a6, zj x7, zj x8, zj x9, zj x10, zj x11, .long z12, zmk, zj x14, zj x15, zj (1 + r_13), zj r_18, zj r_23, v19] [zj r_44] w_27 ov w' c_32 s_33
            refine rl_ic rfl ?_
            show Zr sc 151 845 [.ref 0, zj x1, zp a2, zp a3, zp a4, zj x5, zp a6, zj x7, zj x8, zj x9, zj x10, zj x11, .long z12, zmk, zj x14, zj x15, zj (1 + r_13), zj r_18, zj r_23, v19] [zj 0, zj r_44] w_27 ov w' c_32 s_33
            obtain ⟨hr_46, h⟩ := h
            refine Zr_br (p := r_44 = 0) rfl rfl (zcmp_j (cnd := .eq) hr_46.1 hr_46.2) (fun hp => ?_) (fun hp => ?_)
            · replace h := h.1 hp
              show Zr sc 151 850 [.ref 0, zj x1, zp a2, zp a3, zp a4, zj x5, zp a6, zj x7, zj x8, zj x9, zj x10, zj x11, .long z12, zmk, zj x14, zj x15, zj (1 + r_13), zj r_18, zj r_23, v19] [] w_27 ov w' c_32 s_33
              exact h
            · replace h := h.2 hp
              show Zr sc 151 848 [.ref 0, zj x1, zp a2, zp a3, zp a4, zj x5, zp a6, zj x7, zj x8, zj x9, zj x10, zj x11, .long z12, zmk, zj x14, zj x15, zj (1 + r_13), zj r_18, zj r_23, v19] [] w_27 ov w' c_32 s_33
              exact h
          · replace h := h.2 hp
            show Zr sc 151 840 [.ref 0, zj x1, zp a2, zp a3, zp a4, zj x5, zp a6, zj x7, zj x8, zj x9, zj x10, zj x11, .long z12, zmk, zj x14, zj x15, zj (1 + r_13), zj r_18, zj r_23, v19] [zj r_44] w_27 ov w' c_32 s_33
            refine rl_ic rfl ?_
            show Zr sc 151 841 [.ref 0, zj x1, zp a2, zp a3, zp a4, zj x5, zp a6, zj x7, zj x8, zj x9, zj x10, zj x11, .long z12, zmk, zj x14, zj x15, zj (1 + r_13), zj r_18, zj r_23, v19] [zj 1, zj r_44] w_27 ov w' c_32 s_33
            refine Zr_st (q := (845, [.ref 0, zj x1, zp a2, zp a3, zp a4, zj x5, zp a6, zj x7, zj x8, zj x9, zj x10, zj x11, .long z12, zmk, zj x14, zj x15, zj (1 + r_13), zj r_18, zj r_23, v19], [zj 1, zj r_44])) rfl rfl rfl ?_
            show Zr sc 151 845 [.ref 0, zj x1, zp a2, zp a3, zp a4, zj x5, zp a6, zj x7, zj x8, zj x9, zj x10, zj x11, .long z12, zmk, zj x14, zj x15, zj (1 + r_13), zj r_18, zj r_23, v19] [zj 1, zj r_44] w_27 ov w' c_32 s_33
            obtain ⟨hr_47, h⟩ := h
            refine Zr_br (p := r_44 = 1) rfl rfl (zcmp_j (cnd := .eq) hr_47.1 hr_47.2) (fun hp => ?_) (fun hp => ?_)
            · replace h := h.1 hp
              show Zr sc 151 850 [.ref 0, zj x1, zp a2, zp a3, zp a4, zj x5, zp a6, zj x7, zj x8, zj x9, zj x10, zj x11, .long z12, zmk, zj x14, zj x15, zj (1 + r_13), zj r_18, zj r_23, v19] [] w_27 ov w' c_32 s_33
              exact h
            · replace h := h.2 hp
              show Zr sc 151 848 [.ref 0, zj x1, zp a2, zp a3, zp a4, zj x5, zp a6, zj x7, zj x8, zj x9, zj x10, zj x11, .long z12, zmk, zj x14, zj x15, zj (1 + r_13), zj r_18, zj r_23, v19] [] w_27 ov w' c_32 s_33
              exact h
  · replace h := h.2 hp
    show Zr sc 151 689 [.ref 0, zj x1, zp a2, zp a3, zp a4, zj x5, zp a6, zj x7, zj x8, zj x9, zj x10, zj x11, .long z12, zmk, zj x14, zj x15, zj x16, v17, v18, v19] [] w ov w' c s
    refine Zr_st (q := (690, [.ref 0, zj x1, zp a2, zp a3, zp a4, zj x5, zp a6, zj x7, zj x8, zj x9, zj x10, zj x11, .long z12, zmk, zj x14, zj x15, zj x16, v17, v18, v19], [zp a3])) rfl rfl rfl ?_
    show Zr sc 151 690 [.ref 0, zj x1, zp a2, zp a3, zp a4, zj x5, zp a6, zj x7, zj x8, zj x9, zj x10, zj x11, .long z12, zmk, zj x14, zj x15, zj x16, v17, v18, v19] [zp a3] w ov w' c s
    refine Zr_st (q := (692, [.ref 0, zj x1, zp a2, zp a3, zp a4, zj x5, zp a6, zj x7, zj x8, zj x9, zj x10, zj x11, .long z12, zmk, zj x14, zj x15, zj x16, v17, v18, v19], [zj x16, zp a3])) rfl rfl rfl ?_
    show Zr sc 151 692 [.ref 0, zj x1, zp a2, zp a3, zp a4, zj x5, zp a6, zj x7, zj x8, zj x9, zj x10, zj x11, .long z12, zmk, zj x14, zj x15, zj x16, v17, v18, v19] [zj x16, zp a3] w ov w' c s
    refine rl_ic rfl ?_
    show Zr sc 151 693 [.ref 0, zj x1, zp a2, zp a3, zp a4, zj x5, zp a6, zj x7, zj x8, zj x9, zj x10, zj x11, .long z12, zmk, zj x14, zj x15, zj x16, v17, v18, v19] [zj 4, zj x16, zp a3] w ov w' c s
    obtain ⟨fs_49, hl_48, h⟩ := h
    obtain ⟨r_52, w_50, hk_51, h⟩ := h
    refine rn_cal0 (ins := .invokevirtual 100) (rest := []) rfl rfl rfl rfl (zinv_v (fs := _) hl_48 rfl rfl rfl rfl) rfl rfl hk_51 ?_
    show Zr sc 151 696 [.ref 0, zj x1, zp a2, zp a3, zp a4, zj x5, zp a6, zj x7, zj x8, zj x9, zj x10, zj x11, .long z12, zmk, zj x14, zj x15, zj x16, v17, v18, v19] [zj r_52] w_50 ov w' c s
    refine Zr_st (q := (697, [.ref 0, zj x1, zp a2, zp a3, zp a4, zj x5, zp a6, zj x7, zj x8, zj x9, zj x10, zj x11, .long z12, zmk, zj x14, zj x15, zj x16, v17, v18, v19], [zp a3, zj r_52])) rfl rfl rfl ?_
    show Zr sc 151 697 [.ref 0, zj x1, zp a2, zp a3, zp a4, zj x5, zp a6, zj x7, zj x8, zj x9, zj x10, zj x11, .long z12, zmk, zj x14, zj x15, zj x16, v17, v18, v19] [zp a3, zj r_52] w_50 ov w' c s
    refine Zr_st (q := (699, [.ref 0, zj x1, zp a2, zp a3, zp a4, zj x5, zp a6, zj x7, zj x8, zj x9, zj x10, zj x11, .long z12, zmk, zj x14, zj x15, zj x16, v17, v18, v19], [zj x15, zp a3, zj r_52])) rfl rfl rfl ?_
    show Zr sc 151 699 [.ref 0, zj x1, zp a2, zp a3, zp a4, zj x5, zp a6, zj x7, zj x8, zj x9, zj x10, zj x11, .long z12, zmk, zj x14, zj x15, zj x16, v17, v18, v19] [zj x15, zp a3, zj r_52] w_50 ov w' c s
    refine rl_ic rfl ?_
    show Zr sc 151 700 [.ref 0, zj x1, zp a2, zp a3, zp a4, zj x5, zp a6, zj x7, zj x8, zj x9, zj x10, zj x11, .long z12, zmk, zj x14, zj x15, zj x16, v17, v18, v19] [zj 4, zj x15, zp a3, zj r_52] w_50 ov w' c s
    obtain ⟨fs_54, hl_53, h⟩ := h
    obtain ⟨r_57, w_55, hk_56, h⟩ := h
    refine rn_cal0 (ins := .invokevirtual 100) (rest := [zj r_52]) rfl rfl rfl rfl (zinv_v (fs := _) hl_53 rfl rfl rfl rfl) rfl rfl hk_56 ?_
    show Zr sc 151 703 [.ref 0, zj x1, zp a2, zp a3, zp a4, zj x5, zp a6, zj x7, zj x8, zj x9, zj x10, zj x11, .long z12, zmk, zj x14, zj x15, zj x16, v17, v18, v19] [zj r_57, zj r_52] w_55 ov w' c s
    refine rl_sub rfl ?_
    show Zr sc 151 704 [.ref 0, zj x1, zp a2, zp a3, zp a4, zj x5, zp a6, zj x7, zj x8, zj x9, zj x10, zj x11, .long z12, zmk, zj x14, zj x15, zj x16, v17, v18, v19] [zj (r_52 - r_57)] w_55 ov w' c s
    refine Zr_st (q := (706, [.ref 0, zj x1, zp a2, zp a3, zp a4, zj x5, zp a6, zj x7, zj x8, zj x9, zj x10, zj x11, .long z12, zmk, zj x14, zj x15, zj x16, zj (r_52 - r_57), v18, v19], [])) rfl rfl rfl ?_
    show Zr sc 151 706 [.ref 0, zj x1, zp a2, zp a3, zp a4, zj x5, zp a6, zj x7, zj x8, zj x9, zj x10, zj x11, .long z12, zmk, zj x14, zj x15, zj x16, zj (r_52 - r_57), v18, v19] [] w_55 ov w' c s
    refine Zr_st (q := (708, [.ref 0, zj x1, zp a2, zp a3, zp a4, zj x5, zp a6, zj x7, zj x8, zj x9, zj x10, zj x11, .long z12, zmk, zj x14, zj x15, zj x16, zj (r_52 - r_57), v18, v19], [zj (r_52 - r_57)])) rfl rfl rfl ?_
    show Zr sc 151 708 [.ref 0, zj x1, zp a2, zp a3, zp a4, zj x5, zp a6, zj x7, zj x8, zj x9, zj x10, zj x11, .long z12, zmk, zj x14, zj x15, zj x16, zj (r_52 - r_57), v18, v19] [zj (r_52 - r_57)] w_55 ov w' c s
    obtain ⟨hr_58, h⟩ := h
    refine Zr_b0 (p := (r_52 - r_57) < 0) rfl rfl (zcmp_0 (cnd := .lt) hr_58) (fun hp => ?_) (fun hp => ?_)
    · replace h := h.1 hp
      show Zr sc 151 757 [.ref 0, zj x1, zp a2, zp a3, zp a4, zj x5, zp a6, zj x7, zj x8, zj x9, zj x10, zj x11, .long z12, zmk, zj x14, zj x15, zj x16, zj (r_52 - r_57), v18, v19] [] w_55 ov w' c s
      exact h
    · replace h := h.2 hp
      show Zr sc 151 711 [.ref 0, zj x1, zp a2, zp a3, zp a4, zj x5, zp a6, zj x7, zj x8, zj x9, zj x10, zj x11, .long z12, zmk, zj x14, zj x15, zj x16, zj (r_52 - r_57), v18, v19] [] w_55 ov w' c s
      refine Zr_st (q := (713, [.ref 0, zj x1, zp a2, zp a3, zp a4, zj x5, zp a6, zj x7, zj x8, zj x9, zj x10, zj x11, .long z12, zmk, zj x14, zj x15, zj x16, zj (r_52 - r_57), v18, v19], [zj (r_52 - r_57)])) rfl rfl rfl ?_
      show Zr sc 151 713 [.ref 0, zj x1, zp a2, zp a3, zp a4, zj x5, zp a6, zj x7, zj x8, zj x9, zj x10, zj x11, .long z12, zmk, zj x14, zj x15, zj x16, zj (r_52 - r_57), v18, v19] [zj (r_52 - r_57)] w_55 ov w' c s
      obtain ⟨hr_59, h⟩ := h
      refine Zr_b0 (p := (r_52 - r_57) ≠ 0) rfl rfl (zcmp_0 (cnd := .ne) hr_59) (fun hp => ?_) (fun hp => ?_)
      · replace h := h.1 hp
        show Zr sc 151 759 [.ref 0, zj x1, zp a2, zp a3, zp a4, zj x5, zp a6, zj x7, zj x8, zj x9, zj x10, zj x11, .long z12, zmk, zj x14, zj x15, zj x16, zj (r_52 - r_57), v18, v19] [] w_55 ov w' c s
        refine rl_inc rfl rfl rfl rfl ?_
        show Zr sc 151 762 [.ref 0, zj x1, zp a2, zp a3, zp a4, zj x5, zp a6, zj x7, zj x8, zj x9, zj x10, zj x11, .long z12, zmk, zj x14, zj x15, zj (x16 + 1), zj (r_52 - r_57), v18, v19] [] w_55 ov w' c s
        refine Zr_st (q := (682, [.ref 0, zj x1, zp a2, zp a3, zp a4, zj x5, zp a6, zj x7, zj x8, zj x9, zj x10, zj x11, .long z12, zmk, zj x14, zj x15, zj (x16 + 1), zj (r_52 - r_57), v18, v19], [])) rfl rfl rfl ?_
        show Zr sc 151 682 [.ref 0, zj x1, zp a2, zp a3, zp a4, zj x5, zp a6, zj x7, zj x8, zj x9, zj x10, zj x11, .long z12, zmk, zj x14, zj x15, zj (x16 + 1), zj (r_52 - r_57), v18, v19] [] w_55 ov w' c s
        exact h
      · replace h := h.2 hp
        show Zr sc 151 716 [.ref 0, zj x1, zp a2, zp a3, zp a4, zj x5, zp a6, zj x7, zj x8, zj x9, zj x10, zj x11, .long z12, zmk, zj x14, zj x15, zj x16, zj (r_52 - r_57), v18, v19] [] w_55 ov w' c s
        refine Zr_st (q := (717, [.ref 0, zj x1, zp a2, zp a3, zp a4, zj x5, zp a6, zj x7, zj x8, zj x9, zj x10, zj x11, .long z12, zmk, zj x14, zj x15, zj x16, zj (r_52 - r_57), v18, v19], [zp a3])) rfl rfl rfl ?_
        show Zr sc 151 717 [.ref 0, zj x1, zp a2, zp a3, zp a4, zj x5, zp a6, zj x7, zj x8, zj x9, zj x10, zj x11, .long z12, zmk, zj x14, zj x15, zj x16, zj (r_52 - r_57), v18, v19] [zp a3] w_55 ov w' c s
        refine Zr_st (q := (719, [.ref 0, zj x1, zp a2, zp a3, zp a4, zj x5, zp a6, zj x7, zj x8, zj x9, zj x10, zj x11, .long z12, zmk, zj x14, zj x15, zj x16, zj (r_52 - r_57), v18, v19], [zj x16, zp a3])) rfl rfl rfl ?_
        show Zr sc 151 719 [.ref 0, zj x1, zp a2, zp a3, zp a4, zj x5, zp a6, zj x7, zj x8, zj x9, zj x10, zj x11, .long z12, zmk, zj x14, zj x15, zj x16, zj (r_52 - r_57), v18, v19] [zj x16, zp a3] w_55 ov w' c s
        refine rl_ic rfl ?_
        show Zr sc 151 720 [.ref 0, zj x1, zp a2, zp a3, zp a4, zj x5, zp a6, zj x7, zj x8, zj x9, zj x10, zj x11, .long z12, zmk, zj x14, zj x15, zj x16, zj (r_52 - r_57), v18, v19] [zj 5, zj x16, zp a3] w_55 ov w' c s
        obtain ⟨fs_61, hl_60, h⟩ := h
        obtain ⟨r_64, w_62, hk_63, h⟩ := h
        refine rn_cal0 (ins := .invokevirtual 100) (rest := []) rfl rfl rfl rfl (zinv_v (fs := _) hl_60 rfl rfl rfl rfl) rfl rfl hk_63 ?_
        show Zr sc 151 723 [.ref 0, zj x1, zp a2, zp a3, zp a4, zj x5, zp a6, zj x7, zj x8, zj x9, zj x10, zj x11, .long z12, zmk, zj x14, zj x15, zj x16, zj (r_52 - r_57), v18, v19] [zj r_64] w_62 ov w' c s
        refine Zr_st (q := (724, [.ref 0, zj x1, zp a2, zp a3, zp a4, zj x5, zp a6, zj x7, zj x8, zj x9, zj x10, zj x11, .long z12, zmk, zj x14, zj x15, zj x16, zj (r_52 - r_57), v18, v19], [zp a3, zj r_64])) rfl rfl rfl ?_
        show Zr sc 151 724 [.ref 0, zj x1, zp a2, zp a3, zp a4, zj x5, zp a6, zj x7, zj x8, zj x9, zj x10, zj x11, .long z12, zmk, zj x14, zj x15, zj x16, zj (r_52 - r_57), v18, v19] [zp a3, zj r_64] w_62 ov w' c s
        refine Zr_st (q := (726, [.ref 0, zj x1, zp a2, zp a3, zp a4, zj x5, zp a6, zj x7, zj x8, zj x9, zj x10, zj x11, .long z12, zmk, zj x14, zj x15, zj x16, zj (r_52 - r_57), v18, v19], [zj x15, zp a3, zj r_64])) rfl rfl rfl ?_
        show Zr sc 151 726 [.ref 0, zj x1, zp a2, zp a3, zp a4, zj x5, zp a6, zj x7, zj x8, zj x9, zj x10, zj x11, .long z12, zmk, zj x14, zj x15, zj x16, zj (r_52 - r_57), v18, v19] [zj x15, zp a3, zj r_64] w_62 ov w' c s
        refine rl_ic rfl ?_
        show Zr sc 151 727 [.ref 0, zj x1, zp a2, zp a3, zp a4, zj x5, zp a6, zj x7, zj x8, zj x9, zj x10, zj x11, .long z12, zmk, zj x14, zj x15, zj x16, zj (r_52 - r_57), v18, v19] [zj 5, zj x15, zp a3, zj r_64] w_62 ov w' c s
        obtain ⟨fs_66, hl_65, h⟩ := h
        obtain ⟨r_69, w_67, hk_68, h⟩ := h
        refine rn_cal0 (ins := .invokevirtual 100) (rest := [zj r_64]) rfl rfl rfl rfl (zinv_v (fs := _) hl_65 rfl rfl rfl rfl) rfl rfl hk_68 ?_
        show Zr sc 151 730 [.ref 0, zj x1, zp a2, zp a3, zp a4, zj x5, zp a6, zj x7, zj x8, zj x9, zj x10, zj x11, .long z12, zmk, zj x14, zj x15, zj x16, zj (r_52 - r_57), v18, v19] [zj r_69, zj r_64] w_67 ov w' c s
        obtain ⟨hr_70, h⟩ := h
        refine Zr_br (p := r_64 < r_69) rfl rfl (zcmp_j (cnd := .lt) hr_70.1 hr_70.2) (fun hp => ?_) (fun hp => ?_)
        · replace h := h.1 hp
          show Zr sc 151 757 [.ref 0, zj x1, zp a2, zp a3, zp a4, zj x5, zp a6, zj x7, zj x8, zj x9, zj x10, zj x11, .long z12, zmk, zj x14, zj x15, zj x16, zj (r_52 - r_57), v18, v19] [] w_67 ov w' c s
          exact h
        · replace h := h.2 hp
          show Zr sc 151 733 [.ref 0, zj x1, zp a2, zp a3, zp a4, zj x5, zp a6, zj x7, zj x8, zj x9, zj x10, zj x11, .long z12, zmk, zj x14, zj x15, zj x16, zj (r_52 - r_57), v18, v19] [] w_67 ov w' c s
          refine Zr_st (q := (734, [.ref 0, zj x1, zp a2, zp a3, zp a4, zj x5, zp a6, zj x7, zj x8, zj x9, zj x10, zj x11, .long z12, zmk, zj x14, zj x15, zj x16, zj (r_52 - r_57), v18, v19], [zp a3])) rfl rfl rfl ?_
          show Zr sc 151 734 [.ref 0, zj x1, zp a2, zp a3, zp a4, zj x5, zp a6, zj x7, zj x8, zj x9, zj x10, zj x11, .long z12, zmk, zj x14, zj x15, zj x16, zj (r_52 - r_57), v18, v19] [zp a3] w_67 ov w' c s
          refine Zr_st (q := (736, [.ref 0, zj x1, zp a2, zp a3, zp a4, zj x5, zp a6, zj x7, zj x8, zj x9, zj x10, zj x11, .long z12, zmk, zj x14, zj x15, zj x16, zj (r_52 - r_57), v18, v19], [zj x16, zp a3])) rfl rfl rfl ?_
          show Zr sc 151 736 [.ref 0, zj x1, zp a2, zp a3, zp a4, zj x5, zp a6, zj x7, zj x8, zj x9, zj x10, zj x11, .long z12, zmk, zj x14, zj x15, zj x16, zj (r_52 - r_57), v18, v19] [zj x16, zp a3] w_67 ov w' c s
          refine rl_ic rfl ?_
          show Zr sc 151 737 [.ref 0, zj x1, zp a2, zp a3, zp a4, zj x5, zp a6, zj x7, zj x8, zj x9, zj x10, zj x11, .long z12, zmk, zj x14, zj x15, zj x16, zj (r_52 - r_57), v18, v19] [zj 5, zj x16, zp a3] w_67 ov w' c s
          obtain ⟨fs_72, hl_71, h⟩ := h
          obtain ⟨r_75, w_73, hk_74, h⟩ := h
          refine rn_cal0 (ins := .invokevirtual 100) (rest := []) rfl rfl rfl rfl (zinv_v (fs := _) hl_71 rfl rfl rfl rfl) rfl rfl hk_74 ?_
          show Zr sc 151 740 [.ref 0, zj x1, zp a2, zp a3, zp a4, zj x5, zp a6, zj x7, zj x8, zj x9, zj x10, zj x11, .long z12, zmk, zj x14, zj x15, zj x16, zj (r_52 - r_57), v18, v19] [zj r_75] w_73 ov w' c s
          refine Zr_st (q := (741, [.ref 0, zj x1, zp a2, zp a3, zp a4, zj x5, zp a6, zj x7, zj x8, zj x9, zj x10, zj x11, .long z12, zmk, zj x14, zj x15, zj x16, zj (r_52 - r_57), v18, v19], [zp a3, zj r_75])) rfl rfl rfl ?_
          show Zr sc 151 741 [.ref 0, zj x1, zp a2, zp a3, zp a4, zj x5, zp a6, zj x7, zj x8, zj x9, zj x10, zj x11, .long z12, zmk, zj x14, zj x15, zj x16, zj (r_52 - r_57), v18, v19] [zp a3, zj r_75] w_73 ov w' c s
          refine Zr_st (q := (743, [.ref 0, zj x1, zp a2, zp a3, zp a4, zj x5, zp a6, zj x7, zj x8, zj x9, zj x10, zj x11, .long z12, zmk, zj x14, zj x15, zj x16, zj (r_52 - r_57), v18, v19], [zj x15, zp a3, zj r_75])) rfl rfl rfl ?_
          show Zr sc 151 743 [.ref 0, zj x1, zp a2, zp a3, zp a4, zj x5, zp a6, zj x7, zj x8, zj x9, zj x10, zj x11, .long z12, zmk, zj x14, zj x15, zj x16, zj (r_52 - r_57), v18, v19] [zj x15, zp a3, zj r_75] w_73 ov w' c s
          refine rl_ic rfl ?_
          show Zr sc 151 744 [.ref 0, zj x1, zp a2, zp a3, zp a4, zj x5, zp a6, zj x7, zj x8, zj x9, zj x10, zj x11, .long z12, zmk, zj x14, zj x15, zj x16, zj (r_52 - r_57), v18, v19] [zj 5, zj x15, zp a3, zj r_75] w_73 ov w' c s
          obtain ⟨fs_77, hl_76, h⟩ := h
          obtain ⟨r_80, w_78, hk_79, h⟩ := h
          refine rn_cal0 (ins := .invokevirtual 100) (rest := [zj r_75]) rfl rfl rfl rfl (zinv_v (fs := _) hl_76 rfl rfl rfl rfl) rfl rfl hk_79 ?_
          show Zr sc 151 747 [.ref 0, zj x1, zp a2, zp a3, zp a4, zj x5, zp a6, zj x7, zj x8, zj x9, zj x10, zj x11, .long z12, zmk, zj x14, zj x15, zj x16, zj (r_52 - r_57), v18, v19] [zj r_80, zj r_75] w_78 ov w' c s
          obtain ⟨hr_81, h⟩ := h
          refine Zr_br (p := r_75 ≠ r_80) rfl rfl (zcmp_j (cnd := .ne) hr_81.1 hr_81.2) (fun hp => ?_) (fun hp => ?_)
          · replace h := h.1 hp
            show Zr sc 151 759 [.ref 0, zj x1, zp a2, zp a3, zp a4, zj x5, zp a6, zj x7, zj x8, zj x9, zj x10, zj x11, .long z12, zmk, zj x14, zj x15, zj x16, zj (r_52 - r_57), v18, v19] [] w_78 ov w' c s
            refine rl_inc rfl rfl rfl rfl ?_
            show Zr sc 151 762 [.ref 0, zj x1, zp a2, zp a3, zp a4, zj x5, zp a6, zj x7, zj x8, zj x9, zj x10, zj x11, .long z12, zmk, zj x14, zj x15, zj (x16 + 1), zj (r_52 - r_57), v18, v19] [] w_78 ov w' c s
            refine Zr_st (q := (682, [.ref 0, zj x1, zp a2, zp a3, zp a4, zj x5, zp a6, zj x7, zj x8, zj x9, zj x10, zj x11, .long z12, zmk, zj x14, zj x15, zj (x16 + 1), zj (r_52 - r_57), v18, v19], [])) rfl rfl rfl ?_
            show Zr sc 151 682 [.ref 0, zj x1, zp a2, zp a3, zp a4, zj x5, zp a6, zj x7, zj x8, zj x9, zj x10, zj x11, .long z12, zmk, zj x14, zj x15, zj (x16 + 1), zj (r_52 - r_57), v18, v19] [] w_78 ov w' c s
            exact h
          · replace h := h.2 hp
            show Zr sc 151 750 [.ref 0, zj x1, zp a2, zp a3, zp a4, zj x5, zp a6, zj x7, zj x8, zj x9, zj x10, zj x11, .long z12, zmk, zj x14, zj x15, zj x16, zj (r_52 - r_57), v18, v19] [] w_78 ov w' c s
            refine Zr_st (q := (752, [.ref 0, zj x1, zp a2, zp a3, zp a4, zj x5, zp a6, zj x7, zj x8, zj x9, zj x10, zj x11, .long z12, zmk, zj x14, zj x15, zj x16, zj (r_52 - r_57), v18, v19], [zj x16])) rfl rfl rfl ?_
            show Zr sc 151 752 [.ref 0, zj x1, zp a2, zp a3, zp a4, zj x5, zp a6, zj x7, zj x8, zj x9, zj x10, zj x11, .long z12, zmk, zj x14, zj x15, zj x16, zj (r_52 - r_57), v18, v19] [zj x16] w_78 ov w' c s
            refine Zr_st (q := (754, [.ref 0, zj x1, zp a2, zp a3, zp a4, zj x5, zp a6, zj x7, zj x8, zj x9, zj x10, zj x11, .long z12, zmk, zj x14, zj x15, zj x16, zj (r_52 - r_57), v18, v19], [zj x15, zj x16])) rfl rfl rfl ?_
            show Zr sc 151 754 [.ref 0, zj x1, zp a2, zp a3, zp a4, zj x5, zp a6, zj x7, zj x8, zj x9, zj x10, zj x11, .long z12, zmk, zj x14, zj x15, zj x16, zj (r_52 - r_57), v18, v19] [zj x15, zj x16] w_78 ov w' c s
            obtain ⟨hr_82, h⟩ := h
            refine Zr_br (p := x15 ≤ x16) rfl rfl (zcmp_j (cnd := .ge) hr_82.1 hr_82.2) (fun hp => ?_) (fun hp => ?_)
            · replace h := h.1 hp
              show Zr sc 151 759 [.ref 0, zj x1, zp a2, zp a3, zp a4, zj x5, zp a6, zj x7, zj x8, zj x9, zj x10, zj x11, .long z12, zmk, zj x14, zj x15, zj x16, zj (r_52 - r_57), v18, v19] [] w_78 ov w' c s
              refine rl_inc rfl rfl rfl rfl ?_
              show Zr sc 151 762 [.ref 0, zj x1, zp a2, zp a3, zp a4, zj x5, zp a6, zj x7, zj x8, zj x9, zj x10, zj x11, .long z12, zmk, zj x14, zj x15, zj (x16 + 1), zj (r_52 - r_57), v18, v19] [] w_78 ov w' c s
              refine Zr_st (q := (682, [.ref 0, zj x1, zp a2, zp a3, zp a4, zj x5, zp a6, zj x7, zj x8, zj x9, zj x10, zj x11, .long z12, zmk, zj x14, zj x15, zj (x16 + 1), zj (r_52 - r_57), v18, v19], [])) rfl rfl rfl ?_
              show Zr sc 151 682 [.ref 0, zj x1, zp a2, zp a3, zp a4, zj x5, zp a6, zj x7, zj x8, zj x9, zj x10, zj x11, .long z12, zmk, zj x14, zj x15, zj (x16 + 1), zj (r_52 - r_57), v18, v19] [] w_78 ov w' c s
              exact h
            · replace h := h.2 hp
              show Zr sc 151 757 [.ref 0, zj x1, zp a2, zp a3, zp a4, zj x5, zp a6, zj x7, zj x8, zj x9, zj x10, zj x11, .long z12, zmk, zj x14, zj x15, zj x16, zj (r_52 - r_57), v18, v19] [] w_78 ov w' c s
              exact h
set_option maxRecDepth 100000 in
theorem V151_757 {sc : List Value} {w w' : List zE} {ov : Option Value} {c s : Nat} {x1 : Int} {a2 : Nat} {a3 : Nat} {a4 : Nat} {x5 : Int} {a6 : Nat} {x7 : Int} {x8 : Int} {x9 : Int} {x10 : Int} {x11 : Int} {z12 : Int64} {x14 : Int} {x15 : Int} {x16 : Int} {x17 : Int} {v18 : Value} {v19 : Value} (h : (ov = some (zj 0) ∧ w' = w ∧ c = 0 ∧ s = 0)) : Zr sc 151 757 [.ref 0, zj x1, zp a2, zp a3, zp a4, zj x5, zp a6, zj x7, zj x8, zj x9, zj x10, zj x11, .long z12, zmk, zj x14, zj x15, zj x16, zj x17, v18, v19] [] w ov w' c s := by
  refine rl_ic rfl ?_
  show Zr sc 151 758 [.ref 0, zj x1, zp a2, zp a3, zp a4, zj x5, zp a6, zj x7, zj x8, zj x9, zj x10, zj x11, .long z12, zmk, zj x14, zj x15, zj x16, zj x17, v18, v19] [zj 0] w ov w' c s
  obtain ⟨h1, h2, h3, h4⟩ := h
  subst h1; subst h2; subst h3; subst h4
  exact Zr_ret (ins := .ireturn) rfl rfl
set_option maxRecDepth 100000 in
theorem V151_848 {sc : List Value} {w w' : List zE} {ov : Option Value} {c s : Nat} {x1 : Int} {a2 : Nat} {a3 : Nat} {a4 : Nat} {x5 : Int} {a6 : Nat} {x7 : Int} {x8 : Int} {x9 : Int} {x10 : Int} {x11 : Int} {z12 : Int64} {x14 : Int} {x15 : Int} {x16 : Int} {x17 : Int} {x18 : Int} {v19 : Value} (h : (ov = some (zj 0) ∧ w' = w ∧ c = 0 ∧ s = 0)) : Zr sc 151 848 [.ref 0, zj x1, zp a2, zp a3, zp a4, zj x5, zp a6, zj x7, zj x8, zj x9, zj x10, zj x11, .long z12, zmk, zj x14, zj x15, zj x16, zj x17, zj x18, v19] [] w ov w' c s := by
  refine rl_ic rfl ?_
  show Zr sc 151 849 [.ref 0, zj x1, zp a2, zp a3, zp a4, zj x5, zp a6, zj x7, zj x8, zj x9, zj x10, zj x11, .long z12, zmk, zj x14, zj x15, zj x16, zj x17, zj x18, v19] [zj 0] w ov w' c s
  obtain ⟨h1, h2, h3, h4⟩ := h
  subst h1; subst h2; subst h3; subst h4
  exact Zr_ret (ins := .ireturn) rfl rfl
set_option maxRecDepth 100000 in
theorem V151_850 {sc : List Value} {w w' : List zE} {ov : Option Value} {c s : Nat} {x1 : Int} {a2 : Nat} {a3 : Nat} {a4 : Nat} {x5 : Int} {a6 : Nat} {x7 : Int} {x8 : Int} {x9 : Int} {x10 : Int} {x11 : Int} {z12 : Int64} {x14 : Int} {x15 : Int} {x16 : Int} {x17 : Int} {x18 : Int} {v19 : Value} (h : Zr sc 151 853 [.ref 0, zj x1, zp a2, zp a3, zp a4, zj x5, zp a6, zj x7, zj x8, zj x9, zj x10, zj x11, .long z12, zmk, zj x14, zj x15, zj x16, zj x17, zj x18, zj 0] [] w ov w' c s) : Zr sc 151 850 [.ref 0, zj x1, zp a2, zp a3, zp a4, zj x5, zp a6, zj x7, zj x8, zj x9, zj x10, zj x11, .long z12, zmk, zj x14, zj x15, zj x16, zj x17, zj x18, v19] [] w ov w' c s := by
  refine rl_ic rfl ?_
  show Zr sc 151 851 [.ref 0, zj x1, zp a2, zp a3, zp a4, zj x5, zp a6, zj x7, zj x8, zj x9, zj x10, zj x11, .long z12, zmk, zj x14, zj x15, zj x16, zj x17, zj x18, v19] [zj 0] w ov w' c s
  refine Zr_st (q := (853, [.ref 0, zj x1, zp a2, zp a3, zp a4, zj x5, zp a6, zj x7, zj x8, zj x9, zj x10, zj x11, .long z12, zmk, zj x14, zj x15, zj x16, zj x17, zj x18, zj 0], [])) rfl rfl rfl ?_
  show Zr sc 151 853 [.ref 0, zj x1, zp a2, zp a3, zp a4, zj x5, zp a6, zj x7, zj x8, zj x9, zj x10, zj x11, .long z12, zmk, zj x14, zj x15, zj x16, zj x17, zj x18, zj 0] [] w ov w' c s
  exact h
set_option maxRecDepth 100000 in
theorem V151_853 {sc : List Value} {w w' : List zE} {ov : Option Value} {c s : Nat} {x1 : Int} {a2 : Nat} {a3 : Nat} {a4 : Nat} {x5 : Int} {a6 : Nat} {x7 : Int} {x8 : Int} {x9 : Int} {x10 : Int} {x11 : Int} {z12 : Int64} {x14 : Int} {x15 : Int} {x16 : Int} {x17 : Int} {x18 : Int} {x19 : Int} (h : ((zrg x19 ∧ zrg 5) ∧ ((5 ≤ x19 → Zr sc 151 876 [.ref 0, zj x1, zp a2, zp a3, zp a4, zj x5, zp a6, zj x7, zj x8, zj x9, zj x10, zj x11, .long z12, zmk, zj x14, zj x15, zj x16, zj x17, zj x18, zj x19] [] w ov w' c s) ∧ (¬ (5 ≤ x19) → (∃ fs_3 : List Value, w[a3]? = some (zob 6 fs_3) ∧ (∃ r_6 : Int, Zc sc 33 [zp a3, zj x19] w (some (zj r_6)) w 0 0 ∧ (∃ l_9 : List Int, w[a4]? = some (za l_9) ∧ (((0 : Int) ≤ x19 ∧ x19 < (l_9.length : Int) ∧ x19 ≤ (2147483647 : Int)) ∧ Zr sc 151 853 [.ref 0, zj x1, zp a2, zp a3, zp a4, zj x5, zp a6, zj x7, zj x8, zj x9, zj x10, zj x11, .long z12, zmk, zj x14, zj x15, zj x16, zj x17, zj x18, zj (x19 + 1)] [] (w.set a4 (za (zsi l_9 x19 r_6))) ov w' c s)))))))) : Zr sc 151 853 [.ref 0, zj x1, zp a2, zp a3, zp a4, zj x5, zp a6, zj x7, zj x8, zj x9, zj x10, zj x11, .long z12, zmk, zj x14, zj x15, zj x16, zj x17, zj x18, zj x19] [] w ov w' c s := by
  refine Zr_st (q := (855, [.ref 0, zj x1, zp a2, zp a3, zp a4, zj x5, zp a6, zj x7, zj x8, zj x9, zj x10, zj x11, .long z12, zmk, zj x14, zj x15, zj x16, zj x17, zj x18, zj x19], [zj x19])) rfl rfl rfl ?_
  show Zr sc 151 855 [.ref 0, zj x1, zp a2, zp a3, zp a4, zj x5, zp a6, zj x7, zj x8, zj x9, zj x10, zj x11, .long z12, zmk, zj x14, zj x15, zj x16, zj x17, zj x18, zj x19] [zj x19] w ov w' c s
  refine rl_ic rfl ?_
  show Zr sc 151 856 [.ref 0, zj x1, zp a2, zp a3, zp a4, zj x5, zp a6, zj x7, zj x8, zj x9, zj x10, zj x11, .long z12, zmk, zj x14, zj x15, zj x16, zj x17, zj x18, zj x19] [zj 5, zj x19] w ov w' c s
  obtain ⟨hr_1, h⟩ := h
  refine Zr_br (p := 5 ≤ x19) rfl rfl (zcmp_j (cnd := .ge) hr_1.1 hr_1.2) (fun hp => ?_) (fun hp => ?_)
  · replace h := h.1 hp
    show Zr sc 151 876 [.ref 0, zj x1, zp a2, zp a3, zp a4, zj x5, zp a6, zj x7, zj x8, zj x9, zj x10, zj x11, .long z12, zmk, zj x14, zj x15, zj x16, zj x17, zj x18, zj x19] [] w ov w' c s
    exact h
  · replace h := h.2 hp
    show Zr sc 151 859 [.ref 0, zj x1, zp a2, zp a3, zp a4, zj x5, zp a6, zj x7, zj x8, zj x9, zj x10, zj x11, .long z12, zmk, zj x14, zj x15, zj x16, zj x17, zj x18, zj x19] [] w ov w' c s
    refine Zr_st (q := (861, [.ref 0, zj x1, zp a2, zp a3, zp a4, zj x5, zp a6, zj x7, zj x8, zj x9, zj x10, zj x11, .long z12, zmk, zj x14, zj x15, zj x16, zj x17, zj x18, zj x19], [zp a4])) rfl rfl rfl ?_
    show Zr sc 151 861 [.ref 0, zj x1, zp a2, zp a3, zp a4, zj x5, zp a6, zj x7, zj x8, zj x9, zj x10, zj x11, .long z12, zmk, zj x14, zj x15, zj x16, zj x17, zj x18, zj x19] [zp a4] w ov w' c s
    refine Zr_st (q := (863, [.ref 0, zj x1, zp a2, zp a3, zp a4, zj x5, zp a6, zj x7, zj x8, zj x9, zj x10, zj x11, .long z12, zmk, zj x14, zj x15, zj x16, zj x17, zj x18, zj x19], [zj x19, zp a4])) rfl rfl rfl ?_
    show Zr sc 151 863 [.ref 0, zj x1, zp a2, zp a3, zp a4, zj x5, zp a6, zj x7, zj x8, zj x9, zj x10, zj x11, .long z12, zmk, zj x14, zj x15, zj x16, zj x17, zj x18, zj x19] [zj x19, zp a4] w ov w' c s
    refine Zr_st (q := (864, [.ref 0, zj x1, zp a2, zp a3, zp a4, zj x5, zp a6, zj x7, zj x8, zj x9, zj x10, zj x11, .long z12, zmk, zj x14, zj x15, zj x16, zj x17, zj x18, zj x19], [zp a3, zj x19, zp a4])) rfl rfl rfl ?_
    show Zr sc 151 864 [.ref 0, zj x1, zp a2, zp a3, zp a4, zj x5, zp a6, zj x7, zj x8, zj x9, zj x10, zj x11, .long z12, zmk, zj x14, zj x15, zj x16, zj x17, zj x18, zj x19] [zp a3, zj x19, zp a4] w ov w' c s
    refine Zr_st (q := (866, [.ref 0, zj x1, zp a2, zp a3, zp a4, zj x5, zp a6, zj x7, zj x8, zj x9, zj x10, zj x11, .long z12, zmk, zj x14, zj x15, zj x16, zj x17, zj x18, zj x19], [zj x19, zp a3, zj x19, zp a4])) rfl rfl rfl ?_
    show Zr sc 151 866 [.ref 0, zj x1, zp a2, zp a3, zp a4, zj x5, zp a6, zj x7, zj x8, zj x9, zj x10, zj x11, .long z12, zmk, zj x14, zj x15, zj x16, zj x17, zj x18, zj x19] [zj x19, zp a3, zj x19, zp a4] w ov w' c s
    obtain ⟨fs_3, hl_2, h⟩ := h
    obtain ⟨r_6, hk_9, h⟩ := h
    refine rn_cal0 (ins := .invokevirtual 87) (rest := [zj x19, zp a4]) rfl rfl rfl rfl (zinv_v (fs := _) hl_2 rfl rfl rfl rfl) rfl rfl hk_9 ?_
    show Zr sc 151 869 [.ref 0, zj x1, zp a2, zp a3, zp a4, zj x5, zp a6, zj x7, zj x8, zj x9, zj x10, zj x11, .long z12, zmk, zj x14, zj x15, zj x16, zj x17, zj x18, zj x19] [zj r_6, zj x19, zp a4] w ov w' c s
    obtain ⟨l_9, hw_8, h⟩ := h
    obtain ⟨hi_7, h⟩ := h
    refine rl_is rfl hw_8 hi_7.1 hi_7.2.1 hi_7.2.2 ?_
    show Zr sc 151 870 [.ref 0, zj x1, zp a2, zp a3, zp a4, zj x5, zp a6, zj x7, zj x8, zj x9, zj x10, zj x11, .long z12, zmk, zj x14, zj x15, zj x16, zj x17, zj x18, zj x19] [] (w.set a4 (za (zsi l_9 x19 r_6))) ov w' c s
    refine rl_inc rfl rfl rfl rfl ?_
    show Zr sc 151 873 [.ref 0, zj x1, zp a2, zp a3, zp a4, zj x5, zp a6, zj x7, zj x8, zj x9, zj x10, zj x11, .long z12, zmk, zj x14, zj x15, zj x16, zj x17, zj x18, zj (x19 + 1)] [] (w.set a4 (za (zsi l_9 x19 r_6))) ov w' c s
    refine Zr_st (q := (853, [.ref 0, zj x1, zp a2, zp a3, zp a4, zj x5, zp a6, zj x7, zj x8, zj x9, zj x10, zj x11, .long z12, zmk, zj x14, zj x15, zj x16, zj x17, zj x18, zj (x19 + 1)], [])) rfl rfl rfl ?_
    show Zr sc 151 853 [.ref 0, zj x1, zp a2, zp a3, zp a4, zj x5, zp a6, zj x7, zj x8, zj x9, zj x10, zj x11, .long z12, zmk, zj x14, zj x15, zj x16, zj x17, zj x18, zj (x19 + 1)] [] (w.set a4 (za (zsi l_9 x19 r_6))) ov w' c s
    exact h
set_option maxRecDepth 100000 in
theorem V151_876 {sc : List Value} {w w' : List zE} {ov : Option Value} {c s : Nat} {x1 : Int} {a2 : Nat} {a3 : Nat} {a4 : Nat} {x5 : Int} {a6 : Nat} {x7 : Int} {x8 : Int} {x9 : Int} {x10 : Int} {x11 : Int} {v12 : Value} {v13 : Value} {x14 : Int} {v15 : Value} {v16 : Value} {v17 : Value} {v18 : Value} {v19 : Value} (h : Zr sc 151 51 [.ref 0, zj x1, zp a2, zp a3, zp a4, zj (x5 + 1), zp a6, zj x7, zj x8, zj x9, zj x10, zj x11, v12, v13, zj x14, v15, v16, v17, v18, v19] [] w ov w' c s) : Zr sc 151 876 [.ref 0, zj x1, zp a2, zp a3, zp a4, zj x5, zp a6, zj x7, zj x8, zj x9, zj x10, zj x11, v12, v13, zj x14, v15, v16, v17, v18, v19] [] w ov w' c s := by
  refine rl_inc rfl rfl rfl rfl ?_
  show Zr sc 151 879 [.ref 0, zj x1, zp a2, zp a3, zp a4, zj (x5 + 1), zp a6, zj x7, zj x8, zj x9, zj x10, zj x11, v12, v13, zj x14, v15, v16, v17, v18, v19] [] w ov w' c s
  refine Zr_st (q := (51, [.ref 0, zj x1, zp a2, zp a3, zp a4, zj (x5 + 1), zp a6, zj x7, zj x8, zj x9, zj x10, zj x11, v12, v13, zj x14, v15, v16, v17, v18, v19], [])) rfl rfl rfl ?_
  show Zr sc 151 51 [.ref 0, zj x1, zp a2, zp a3, zp a4, zj (x5 + 1), zp a6, zj x7, zj x8, zj x9, zj x10, zj x11, v12, v13, zj x14, v15, v16, v17, v18, v19] [] w ov w' c s
  exact h

