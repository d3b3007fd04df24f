/-! ===== the law: a turn, fourteen turns, three times; the claim ===== -/
section LWT
variable {sc : List Value} {w w' w2 : List zE} {q a4 a6 : Nat} {S : List Int} {wy : Nat} {st hd : Int}
/-- from the counts on to the next turn -/
theorem lw_last {x : ps_T} {ow sz rm am cn de : List Int} {D : List dd_T} {K : Nat → mk_T} {HN : Nat → Int} {CN : Nat → List Int} {BB : Nat → List bk_T} {A : List Int} (ha : q + 78 ≤ a4) (h : LK w q wy st hd D K HN CN BB x ow sz rm am cn de) (hAw : w[a4]? = some (za A)) (hl : A.length = 5) (hA : ∀ j : Int, 0 ≤ j → j ≤ 4 → zgi A j = zgi (CN wy) j)
    (hS : sc = S.map zj) (hSl : S.length ≤ 260) (hd0 : 0 ≤ x.1 ∧ x.1 ≤ 900000) (hD : D.length < 150) (hn40 : (K wy).2.2.2.1 < 40) {x1 x5 x7 x8 x9 x10 : Int} (h5 : 0 ≤ x5 ∧ x5 ≤ 14) {v15 v16 v17 v18 v19 : Value} :
    ∃ (w' : List zE) (c s : Nat) (v12 v13 v15' v16' v17' v18' v19' : Value) (x14 : Int), c ≤ 3 ∧ s ≤ 4700 ∧ lwI w' q a4 wy st hd (D.length + 1) ((K wy).2.2.2.1 + 1) (x.1 + 1) ∧
      ∀ {ov w2 c2 s2}, Zr sc 151 51 [.ref 0, zj x1, zp q, zp (q + 1), zp a4, zj (x5 + 1), zp a6, zj x7, zj x8, zj x9, zj x10, zj (maxH (holF (clsL wy) (BB wy))), v12, v13, zj x14, v15', v16', v17', v18', v19'] [] w' ov w2 c2 s2 →
      Zr sc 151 468 [.ref 0, zj x1, zp q, zp (q + 1), zp a4, zj x5, zp a6, zj x7, zj x8, zj x9, zj x10, zj (maxH (holF (clsL wy) (BB wy))), zj 5, zj 1024, zj 1024, v15, v16, v17, v18, v19] [] w ov w2 (c + c2) (s + s2) := by
  by_cases c3 : x5 % 4 = 3
  · obtain ⟨d, w1, K1, HN1, CN1, BB1, p1, p2, p3, g, h1, ⟨e1, e2, e3, e4⟩, f1, hu, hp, ed, go⟩ := lw_digest (sc := sc) (a4 := a4) (a6 := a6) h (x1 := x1) (x5 := x5) (x7 := x7) (x8 := x8) (x9 := x9) (x10 := x10) (x13 := 1024) (x14 := 1024) h5 c3 (v15 := v15) (v16 := v16) (v17 := v17) (v18 := v18) (v19 := v19)
    have hA1 := zFm_get f1 hAw (by omega)
    obtain ⟨w2', b, h2, f2, hb, hx, go2⟩ := lw_again (sc := sc) (a6 := a6) ha hu hl (fun j j0 j4 => by rw [e3]; exact hA j j0 j4) (x1 := x1) (x5 := x5) (x7 := x7) (x8 := x8) (x9 := x9) (x10 := x10) (x14 := g) (z12 := d) (v16 := v16) (v17 := v17) (v18 := v18) (v19 := v19) 5 0 w1 (by omega) (Int.le_refl _) h1 hA1
    obtain ⟨w3, v17', h3, f3, go3⟩ := lw_best (sc := sc) (a4 := a4) (a6 := a6) hu hb hx (x1 := x1) (x5 := x5) (x7 := x7) (x8 := x8) (x9 := x9) (x10 := x10) (x11 := maxH (holF (clsL wy) (BB1 wy))) (x14 := g) (z12 := d) (v18 := v18) (v19 := v19) 6 0 w2' v17 (by omega) h2
    have hA3 := zFm_get f3 (zFm_get f2 hA1 (by omega)) (by omega)
    obtain ⟨w4, c, s, x16, x17, x18, c1, c2, c4, go4⟩ := lw_end (sc := sc) (a6 := a6) ha h3 hu hA3 hl hS hSl hd0 hD (by rw [e1]; exact hn40) (by rw [e1, e2, e4]; exact hp) ed (x1 := x1) (x5 := x5) (x7 := x7) (x8 := x8) (x9 := x9) (x10 := x10) (x11 := maxH (holF (clsL wy) (BB1 wy))) (x14 := g) (x15 := b) h5 (v17 := v17') (v18 := v18) (v19 := v19)
    rw [e1] at c4
    rw [e4] at go2 go3 go4
    exact ⟨w4, c, s, _, _, _, _, _, _, _, g, c1, c2, c4, fun hz => go (go2 (go3 (go4 hz)))⟩
  · refine ⟨w, 0, 0, zj 5, zj 1024, v15, v16, v17, v18, v19, 1024, by omega, by omega, ⟨D, K, HN, CN, BB, x, ow, sz, rm, am, cn, de, A, h, hAw, hl, hA, by omega, by omega, by omega, by omega⟩, fun {ov w2 c2 s2} hz => ?_⟩
    rw [Nat.zero_add, Nat.zero_add]
    exact V151_468 ⟨by omega, fun _ => ⟨by omega, by omega, fun q => absurd q c3, fun _ => V151_876 hz⟩, fun q => absurd (Int.le_refl _) q⟩
theorem lw_turn (ha : q + 78 ≤ a4) {nD : Nat} {nN lim : Int} (h : lwI w q a4 wy st hd nD nN lim) (hS : sc = S.map zj) (hSl : S.length ≤ 260) (hlim : lim ≤ 800000) (hD : nD < 140) (hn40 : nN < 38) {x1 x5 : Int} (h5 : 0 ≤ x5 ∧ x5 < 14) {v6 v7 v8 v9 v10 v11 v12 v13 v14 v15 v16 v17 v18 v19 : Value} :
    ∃ (w' : List zE) (c s : Nat) (u6 u7 u8 u9 u10 u11 u12 u13 u14 u15 u16 u17 u18 u19 : Value), c ≤ 7 ∧ s ≤ 10424 ∧ lwI w' q a4 wy st hd (nD + 2) (nN + 2) (lim + 5) ∧
      ∀ {ov w2 c2 s2}, Zr sc 151 51 [.ref 0, zj x1, zp q, zp (q + 1), zp a4, zj (x5 + 1), u6, u7, u8, u9, u10, u11, u12, u13, u14, u15, u16, u17, u18, u19] [] w' ov w2 c2 s2 →
      Zr sc 151 51 [.ref 0, zj x1, zp q, zp (q + 1), zp a4, zj x5, v6, v7, v8, v9, v10, v11, v12, v13, v14, v15, v16, v17, v18, v19] [] w ov w2 (c + c2) (s + s2) := by
  obtain ⟨D, K, HN, CN, BB, x, ow, sz, rm, am, cn, de, A, hk, hAw, hl, hA, hD1, hN1, hx0, hx1⟩ := h
  have main : ∀ z : Int, 1 ≤ z ∧ z ≤ 300 → ∃ (w1 w' : List zE) (c1 s1 c s : Nat) (u7 u8 u9 u10 u11 u12 u13 u14 u15 u16 u17 u18 u19 : Value), Zc sc 137 [zp q, zj z] w (some (zj 1)) w1 c1 s1 ∧ c1 ≤ 3 ∧ s1 ≤ 4700 ∧ c ≤ 3 ∧ s ≤ 4700 ∧ lwI w' q a4 wy st hd (nD + 2) (nN + 2) (lim + 5) ∧
      ∀ {ov w2 c2 s2}, Zr sc 151 51 [.ref 0, zj x1, zp q, zp (q + 1), zp a4, zj (x5 + 1), zp w1.length, u7, u8, u9, u10, u11, u12, u13, u14, u15, u16, u17, u18, u19] [] w' ov w2 c2 s2 →
      Zr sc 151 101 [.ref 0, zj x1, zp q, zp (q + 1), zp a4, zj x5, zp w1.length, zj 0, zj 0, zj 0, zj 0, v11, v12, v13, v14, v15, v16, v17, v18, v19] [] (w1 ++ [za (List.replicate 1024 0)]) ov w2 (c + c2) (s + s2) := fun z hz => by
    obtain ⟨w1, c1, s1, D', K', HN', CN', BB', x', ow', sz', rm', am', cn', de', a1, a2, a3, a4', a5, a6', a7, a8, a9, a10⟩ := zp_act (sc := sc) hk hS hSl (by omega) (by omega) (by omega) hz
    have hlen := LK_len a5
    have hA1 := zFm_get a4' hAw (by omega)
    have hltA := (List.getElem?_eq_some_iff.mp hA1).1
    have own : (w1 ++ [za (List.replicate 1024 0)])[w1.length]? = some (za (List.replicate 1024 0)) := zw_n rfl
    have h2 := LK_app (E := za (List.replicate 1024 0)) a5
    have hA2 : (w1 ++ [za (List.replicate 1024 0)])[a4]? = some (za A) := zw_a hA1
    obtain ⟨w3, x10', v15', h3, f3, go3⟩ := lw_check (sc := sc) (a4 := a4) hlen (LK_ne h2 own (by rw [List.length_replicate]; omega)) (x1 := x1) (x5 := x5) (v11 := v11) (v12 := v12) (v13 := v13) (v14 := v14) (v15 := v15) (v16 := v16) (v17 := v17) (v18 := v18) (v19 := v19) h2 own
    have hA3 := zFm_get f3 hA2 (by omega)
    obtain ⟨w4, A', h4, hA4, hl4, f4, eq4, go4⟩ := lw_grow (sc := sc) (a6 := w1.length) ha (x1 := x1) (x5 := x5) (x7 := sumR (BB' wy)) (x8 := sumR (BB' wy) - sumS (BB' wy)) (x9 := (BB' wy).length) (x10 := x10') (x11 := maxH (holF (clsL wy) (BB' wy))) (x13 := 1024) (x14 := 1024) (v15 := v15') (v16 := v16) (v17 := v17) (v18 := v18) (v19 := v19) 5 0 w3 A (by omega) (Int.le_refl _) h3 hA3 hl (fun j j0 j4 => by
      have := (sL_more hk.1).2.2.2 j j0 j4
      have := hA j j0 j4
      have := a8.2 j j0 j4
      omega) (fun j j0 j4 => by omega)
    obtain ⟨w5, c, s, u12, u13, u15, u16, u17, u18, u19, u14, b1, b2, b3, go5⟩ := lw_last (sc := sc) (a6 := w1.length) ha h4 hA4 hl4 eq4 hS hSl (by omega) (by omega) (by omega) (x1 := x1) (x5 := x5) (x7 := sumR (BB' wy)) (x8 := sumR (BB' wy) - sumS (BB' wy)) (x9 := (BB' wy).length) (x10 := x10') (by omega) (v15 := v15') (v16 := v16) (v17 := v17) (v18 := v18) (v19 := v19)
    obtain ⟨D5, K5, HN5, CN5, BB5, x5', ow5, sz5, rm5, am5, cn5, de5, A5, j1, j2, j3, j4, j5, j6, j7, j8⟩ := b3
    exact ⟨w1, w5, c1, s1, c, s, _, _, _, _, _, u12, u13, _, u15, u16, u17, u18, u19, a1, a2, a3, b1, b2, ⟨D5, K5, HN5, CN5, BB5, x5', ow5, sz5, rm5, am5, cn5, de5, A5, j1, j2, j3, j4, by omega, by omega, j7, by omega⟩, fun hz => go3 (go4 (go5 hz))⟩
  by_cases c3 : x5 % 3 ≠ 0
  · obtain ⟨w1, w', c1, s1, c, s, u7, u8, u9, u10, u11, u12, u13, u14, u15, u16, u17, u18, u19, b1, b2, b3, b4, b5, b6, b7⟩ := main 100 (by omega)
    exact ⟨w', c1 + (1 + c), s1 + (1024 + s), _, u7, u8, u9, u10, u11, u12, u13, u14, u15, u16, u17, u18, u19, by omega, by omega, b6, fun {ov w2 c2 s2} hz => V151_51 hk.2.1.1.1 ⟨by omega, fun q => by omega, fun _ => ⟨by omega, by omega, fun _ => ⟨1, w1, c1, s1, 1 + (c + c2), 1024 + (s + s2), b1, ⟨by omega, by omega⟩, by omega, fun _ => ⟨by omega, w1.length, rfl, c + c2, s + s2, ⟨rfl, rfl⟩, b7 hz⟩, fun q => by omega⟩, fun q => absurd c3 q⟩⟩⟩
  · obtain ⟨w1, w', c1, s1, c, s, u7, u8, u9, u10, u11, u12, u13, u14, u15, u16, u17, u18, u19, b1, b2, b3, b4, b5, b6, b7⟩ := main 300 (by omega)
    exact ⟨w', c1 + (1 + c), s1 + (1024 + s), _, u7, u8, u9, u10, u11, u12, u13, u14, u15, u16, u17, u18, u19, by omega, by omega, b6, fun {ov w2 c2 s2} hz => V151_51 hk.2.1.1.1 ⟨by omega, fun q => by omega, fun _ => ⟨by omega, by omega, fun q => absurd q c3, fun _ => ⟨1, w1, c1, s1, 1 + (c + c2), 1024 + (s + s2), b1, ⟨by omega, by omega⟩, by omega, fun _ => ⟨by omega, w1.length, rfl, c + c2, s + s2, ⟨rfl, rfl⟩, b7 hz⟩, fun q => by omega⟩⟩⟩⟩
theorem lw_turns (ha : q + 78 ≤ a4) (hS : sc = S.map zj) (hSl : S.length ≤ 260) {x1 : Int} : ∀ (m : Nat) (x5 : Int) (w : List zE) (v6 v7 v8 v9 v10 v11 v12 v13 v14 v15 v16 v17 v18 v19 : Value), x5 + m = 14 → 0 ≤ x5 → (lwI w q a4 wy st hd (2 * x5.toNat) (2 * x5) (600000 + 5 * x5)) →
    ∃ (w' : List zE) (c s : Nat) (u6 u7 u8 u9 u10 u11 u12 u13 u14 u15 u16 u17 u18 u19 : Value), c ≤ 7 * m ∧ s ≤ 10424 * m ∧
      ∀ {ov w2 c2 s2}, Zr sc 151 2 [.ref 0, zj (x1 + 1), zp q, zp (q + 1), zp a4, zj 14, u6, u7, u8, u9, u10, u11, u12, u13, u14, u15, u16, u17, u18, u19] [] w' ov w2 c2 s2 →
      Zr sc 151 51 [.ref 0, zj x1, zp q, zp (q + 1), zp a4, zj x5, v6, v7, v8, v9, v10, v11, v12, v13, v14, v15, v16, v17, v18, v19] [] w ov w2 (c + c2) (s + s2) := by
  intro m
  induction m with
  | zero =>
    intro x5 w v6 v7 v8 v9 v10 v11 v12 v13 v14 v15 v16 v17 v18 v19 hm h0 h
    have e : x5 = 14 := by omega
    subst e
    obtain ⟨D, K, HN, CN, BB, x, ow, sz, rm, am, cn, de, A, hk, -⟩ := h
    refine ⟨w, 0, 0, v6, v7, v8, v9, v10, v11, v12, v13, v14, v15, v16, v17, v18, v19, by omega, by omega, fun {ov w2 c2 s2} hz => ?_⟩
    rw [Nat.zero_add, Nat.zero_add]
    exact V151_51 hk.2.1.1.1 ⟨by omega, fun _ => hz, fun q => absurd (Int.le_refl _) q⟩
  | succ m ih =>
    intro x5 w v6 v7 v8 v9 v10 v11 v12 v13 v14 v15 v16 v17 v18 v19 hm h0 h
    obtain ⟨w1, c1, s1, u6, u7, u8, u9, u10, u11, u12, u13, u14, u15, u16, u17, u18, u19, b1, b2, b3, b4⟩ := lw_turn (sc := sc) ha h hS hSl (by omega) (by omega) (by omega) (x1 := x1) (x5 := x5) (by omega) (v6 := v6) (v7 := v7) (v8 := v8) (v9 := v9) (v10 := v10) (v11 := v11) (v12 := v12) (v13 := v13) (v14 := v14) (v15 := v15) (v16 := v16) (v17 := v17) (v18 := v18) (v19 := v19)
    have e1 : 2 * x5.toNat + 2 = 2 * (x5 + 1).toNat := by omega
    have e2 : 2 * x5 + 2 = 2 * (x5 + 1) := by omega
    have e3 : 600000 + 5 * x5 + 5 = 600000 + 5 * (x5 + 1) := by omega
    rw [e1, e2, e3] at b3
    obtain ⟨w', c, s, t6, t7, t8, t9, t10, t11, t12, t13, t14, t15, t16, t17, t18, t19, d1, d2, d3⟩ := ih (x5 + 1) w1 u6 u7 u8 u9 u10 u11 u12 u13 u14 u15 u16 u17 u18 u19 (by omega) (by omega) b3
    refine ⟨w', c1 + c, s1 + s, t6, t7, t8, t9, t10, t11, t12, t13, t14, t15, t16, t17, t18, t19, by omega, by omega, fun {ov w2 c2 s2} hz => ?_⟩
    rw [Nat.add_assoc, Nat.add_assoc]
    exact b4 (d3 hz)
theorem lw_times (hS : sc = S.map zj) (hSl : S.length ≤ 260) : ∀ (m : Nat) (x1 : Int) (w : List zE) (v2 v3 v4 v5 v6 v7 v8 v9 v10 v11 v12 v13 v14 v15 v16 v17 v18 v19 : Value), x1 + m = 3 → 0 ≤ x1 →
    ∃ (w' : List zE) (c s : Nat), c ≤ 200 * m ∧ s ≤ 160000 * m ∧ Zr sc 151 2 [.ref 0, zj x1, v2, v3, v4, v5, v6, v7, v8, v9, v10, v11, v12, v13, v14, v15, v16, v17, v18, v19] [] w (some (zj 1)) w' c s := by
  intro m
  induction m with
  | zero =>
    intro x1 w v2 v3 v4 v5 v6 v7 v8 v9 v10 v11 v12 v13 v14 v15 v16 v17 v18 v19 hm h0
    exact ⟨w, 0, 0, by omega, by omega, V151_2 ⟨by omega, fun _ => ⟨rfl, rfl, rfl, rfl⟩, fun q => by omega⟩⟩
  | succ m ih =>
    intro x1 w v2 v3 v4 v5 v6 v7 v8 v9 v10 v11 v12 v13 v14 v15 v16 v17 v18 v19 hm h0
    obtain ⟨w1, c1, s1, ow, a1, a2, a3, a4, a5, a6, a7, a8⟩ := zp_new (sc := sc) (q := w.length) (w := w ++ [zob 7 [.null, .null, zj 0, zj 0, zj 0, zj 0, .null, zj 0, .null, .null, .null, zj 0, zj 0, .null, zj 0, .null, zj 0]]) (v := 31 * x1 + 7) (by rw [List.length_append]; rfl) (zw_n rfl)
    obtain ⟨r, w2, b1, b2, b3, b4⟩ := zp_draw (sc := sc) a7 hS hSl (by show 0 ≤ 31 * x1 + 7 ∧ 31 * x1 + 7 ≤ 1000000; omega) (n := 6) (by omega)
    have hL2 := sL_fm b3 (Or.inr (by omega)) a6
    obtain ⟨w3, y1, y2, d1, d2, d3, d4, d5⟩ := zp_reset (sc := sc) hL2 b4 hS hSl (by show 0 ≤ 31 * x1 + 7 + 1 ∧ 31 * x1 + 7 + 1 ≤ 900000; omega) rfl ⟨rfl, rfl, rfl⟩ ⟨Int.le_refl _, by show (0 : Int) ≤ 1024; omega⟩ (fun i hi => by rw [zgi_rep]; omega) a8 (i := r.toNat) (by omega)
    have er : ((r.toNat : Nat) : Int) = r := by omega
    rw [er] at d1
    have hlen := LK_len d5
    have h4 := LK_app (E := za (List.replicate 5 0)) d5
    have own : (w3 ++ [za (List.replicate 5 0)])[w3.length]? = some (za (List.replicate 5 0)) := zw_n rfl
    have hI : lwI (w3 ++ [za (List.replicate 5 0)]) w.length w3.length r.toNat y1 y2 (2 * (0 : Int).toNat) (2 * 0) (600000 + 5 * 0) := ⟨_, _, _, _, _, _, _, _, _, _, _, _, _, h4, own, by rw [List.length_replicate], fun j j0 j4 => rfl, Nat.zero_le _, by show (0 : Int) ≤ 0; omega, by show 0 ≤ 31 * x1 + 7 + 1 + 2; omega, by show 31 * x1 + 7 + 1 + 2 ≤ 600000; omega⟩
    obtain ⟨w5, c5, s5, u6, u7, u8, u9, u10, u11, u12, u13, u14, u15, u16, u17, u18, u19, e1, e2, e3⟩ := lw_turns (sc := sc) hlen hS hSl (x1 := x1) 14 0 _ v6 v7 v8 v9 v10 v11 v12 v13 v14 v15 v16 v17 v18 v19 (by omega) (Int.le_refl _) hI
    obtain ⟨w6, c6, s6, f1, f2, f3⟩ := ih (x1 + 1) w5 _ _ _ _ u6 u7 u8 u9 u10 u11 u12 u13 u14 u15 u16 u17 u18 u19 (by omega) (by omega)
    exact ⟨w6, 1 + (c1 + (1 + (c5 + c6))), 17 + (s1 + (5 + (s5 + s6))), by omega, by omega, V151_2 ⟨by omega, fun q => by omega, fun _ => ⟨w.length, rfl, c1 + (1 + (c5 + c6)), s1 + (5 + (s5 + s6)), ⟨rfl, rfl⟩, w1, c1, s1, 1 + (c5 + c6), 5 + (s5 + s6), a1, ⟨rfl, rfl⟩, _, _, _, _, _, _, _, _, _, _, _, _, _, _, _, _, a7.1, r, w2, b1, _, b4.1, 1, w3, d1, by omega, fun _ => ⟨by omega, w3.length, rfl, c5 + c6, s5 + s6, ⟨rfl, rfl⟩, e3 f3⟩, fun q => absurd (show (1 : Int) ≠ 0 by omega) q⟩⟩⟩
end LWT
theorem whole_start {p : Program} {e : Env} {s : State} {m : MethodId} {below : List Frame} {meth : Method} {c : Code} (l : Launch) (hflags : l.flags = flags0) {b L : Nat} {xs : Nat → Int32} (hL : L ≤ 260) (C0 : lw_At p s m meth c b L xs) :
    W p l e room_1 s m #[Value.ref b] below meth c s.heap [] 0 0 (lw_Z below #[Value.ref b] s) (entryFrame m ([Value.ref b] : List Value).toArray 20) := by
  have hS : (List.range L).map (fun j => Value.int (xs j)) = ((List.range L).map (fun j => (xs j).toInt)).map zj := by
    rw [List.map_map]
    apply List.map_congr_left
    intro j _
    exact (zj_of (xs j)).symm
  obtain ⟨w', c', s', h1, h2, h3⟩ := lw_times hS (by rw [List.length_map, List.length_range]; exact hL) 3 0 [] zmk zmk zmk zmk zmk zmk zmk zmk zmk zmk zmk zmk zmk zmk zmk zmk zmk zmk (by omega) (Int.le_refl _)
  obtain ⟨N, hN⟩ := V151_0 h3
  have hrun := hN N (Nat.le_refl _) N (Nat.le_refl _) N (Nat.le_refl _) 0 0
  rw [Nat.zero_add, Nat.zero_add] at hrun
  exact zlaw_run l hflags C0 (fun _ => 0) _ zN0 N N (by rw [List.length_map, List.length_range]) (fun j v hj => by
    rw [List.getElem?_map] at hj
    by_cases hlt : j < L
    · rw [List.getElem?_range hlt] at hj
      injection hj with hj
      rw [← hj]
      rfl
    · rw [List.getElem?_eq_none (by rw [List.length_range]; omega)] at hj
      cases hj) (fun z => ⟨fun u q hu => by simp [zN0] at hu, fun f hf => by simp [zN0] at hf⟩) hrun rfl (by show c' ≤ 600130; omega) (by show s' ≤ 7301080; omega)
