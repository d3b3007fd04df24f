/-! ===== the pool takes a place: the search ===== -/
section TAL
variable {sc : List Value} {w w' : List zE} {q : Nat} {x x' : ps_T} {ow ow' sz rm am cn de : List Int} {B X Y : List bk_T} {S : List Int} {wy : Nat}
theorem tk_loop (hwy : x.2.1 = wy) (hw5 : wy < 5) (hok : okB B) (hg : gcB (clsL wy) B) {room : Int} (hr1 : 1 ≤ room ∧ room ≤ 1024) {a2 : Nat} {row : List Int} (hrow : rowP row (holF (clsL wy) B)) (hlen : row.length ≤ 2048) (ha2 : q + 78 ≤ a2) (hhn : 0 ≤ x.2.2.2.2.2.2.1 ∧ x.2.2.2.2.2.2.1 ≤ 1023) : ∀ (w1 : List zE) (c1 : List Int), sC w1 q x ow sz rm am c1 de → w1[a2]? = some (za row) → takeR sc w1 q x ow sz rm am de B wy room 21 [zp q, zj room, zp a2, zj 0, zmk, zmk, zmk, zmk] := by
  have hcc := clsL_c wy
  have hrl := hrow.1
  have hH : ∀ y ∈ holF (clsL wy) B, 0 ≤ y.1 ∧ 1 ≤ y.2 ∧ y.1 + y.2 ≤ 1024 := fun y hy => by
    have := hol_dis hcc hok hg hy
    omega
  have fin := fun {r : Int} (hs : selF (clsL wy) wy (x.2.2.2.2.2.2.1) (holF (clsL wy) B) room r) (w1 : List zE) (c1 : List Int) (x3 x5 : Int) (v6 v7 : Value) h hp => tk_180 (sc := sc) (ow := ow) (sz := sz) (rm := rm) (am := am) (de := de) hwy hw5 hok hg hr1 hrow hlen ha2 hs w1 c1 x3 x5 v6 v7 h hp
  -- the first that is large enough, from a place on
  have first : ∀ (s : Nat), (s < (holF (clsL wy) B).length ∨ s = 0) → (∀ r, isC s room (holF (clsL wy) B) r → selF (clsL wy) wy (x.2.2.2.2.2.2.1) (holF (clsL wy) B) room r) → wy ≤ 1 → ∀ (b : Int), (b = 2 * (s : Int) ∨ (s = 0 ∧ b = 2 * ((holF (clsL wy) B).length : Int))) → ∀ (n i : Nat), i + n = (holF (clsL wy) B).length → (∀ j, j < i → ∀ y, (holF (clsL wy) B)[rot s j (holF (clsL wy) B).length]? = some y → y.2 < room) → ∀ (w1 : List zE) (c1 : List Int) (v6 v7 : Value), sC w1 q x ow sz rm am c1 de → w1[a2]? = some (za row) → takeR sc w1 q x ow sz rm am de B wy room 63 [zp q, zj room, zp a2, zj b, zj (-1), zj (2 * (i : Int)), v6, v7] := by
    intro s hs hsel hw1 b hb n
    induction n with
    | zero =>
      intro i hi hq w1 c1 v6 v7 h hp
      have hCf : isC s room (holF (clsL wy) B) (-1) := Or.inl ⟨rfl, fun y hy => by
        obtain ⟨t, ht⟩ := List.getElem?_of_mem hy
        have htl := (List.getElem?_eq_some_iff.mp ht).1
        by_cases hts : s ≤ t
        · refine hq (t - s) (by omega) y ?_
          unfold rot
          rw [if_pos (by omega), show s + (t - s) = t by omega]
          exact ht
        · refine hq (t + (holF (clsL wy) B).length - s) (by omega) y ?_
          unfold rot
          rw [if_neg (by omega), show s + (t + (holF (clsL wy) B).length - s) - (holF (clsL wy) B).length = t by omega]
          exact ht⟩
      obtain ⟨pl, w', cn', z1, z2⟩ := fin (hsel _ hCf) w1 c1 b (2 * (i : Int)) v6 v7 h hp
      rw [if_pos rfl] at z1
      obtain ⟨g0, g1, g2, g3, g4, g5, g6, g7, ⟨l1, l2, l3, l4, l5⟩, g9⟩ := id h
      exact ⟨pl, w', cn', V125_63 g0 ⟨row, hp, by omega, fun _ => z1, fun q => by omega⟩, z2⟩
    | succ n ih =>
      intro i hi hq w1 c1 v6 v7 h hp
      have hrl2 : rot s i (holF (clsL wy) B).length < (holF (clsL wy) B).length := by unfold rot; split <;> omega
      obtain ⟨y, hy⟩ : ∃ y, (holF (clsL wy) B)[rot s i (holF (clsL wy) B).length]? = some y := ⟨_, List.getElem?_eq_getElem hrl2⟩
      have gy := hH y (List.mem_of_getElem? hy)
      obtain ⟨e1, e2⟩ := hrow.2 _ y hy
      have eh : (b + 2 * (i : Int)) % (row.length : Int) = 2 * ((rot s i (holF (clsL wy) B).length : Nat) : Int) := by
        rcases hb with hb | ⟨hb1, hb2⟩
        · subst hb
          by_cases c : s + i < (holF (clsL wy) B).length
          · rw [Int.emod_eq_of_lt (by omega) (by omega)]
            unfold rot
            rw [if_pos c]
            omega
          · rw [emod2 (by omega) (by omega)]
            unfold rot
            rw [if_neg c]
            omega
        · subst hb2
          subst hb1
          rw [emod2 (by omega) (by omega)]
          unfold rot
          rw [if_pos (by omega)]
          omega
      obtain ⟨g0, g1, g2, g3, g4, g5, g6, g7, ⟨l1, l2, l3, l4, l5⟩, g9⟩ := id h
      obtain ⟨s1, s2⟩ := sC_cn h (cn' := zsi c1 0 (zgi c1 0 + 1)) (by rw [zsi_len]; exact l5)
      have hp1 : (w1.set (q + 77) (za (zsi c1 0 (zgi c1 0 + 1))))[a2]? = some (za row) := zw_o (by omega) hp
      by_cases c2 : y.2 < room
      · obtain ⟨pl, w', cn', z1, z2, z3⟩ := ih (i + 1) (by omega) (fun j hj y' hy' => by
          by_cases e : j = i
          · subst e; rw [hy] at hy'; cases hy'; exact c2
          · exact hq j (by omega) y' hy') _ _ (zj (2 * ((rot s i (holF (clsL wy) B).length : Nat) : Int))) (zj 1) s1 hp1
        rw [show (2 * ((i + 1 : Nat) : Int)) = 2 * (i : Int) + 2 by omega] at z1
        have b1 : Zr sc 125 155 [zp q, zj room, zp a2, zj b, zj (-1), zj (2 * (i : Int)), zj (2 * ((rot s i (holF (clsL wy) B).length : Nat) : Int)), zj 1] [] (w1.set (q + 77) (za (zsi c1 0 (zgi c1 0 + 1)))) (some (zj pl)) w' 0 0 := V125_155 ⟨row, hp1, by omega, by omega, fun _ => z1, fun q => by omega⟩
        rw [← eh] at b1
        have b2 := V125_83 (v6 := v6) (v7 := v7) g0 g5 ⟨row, hp, by omega, by omega, by omega, by omega, fun _ => b1, fun q => by omega⟩
        exact ⟨pl, w', cn', V125_63 g0 ⟨row, hp, by omega, fun q => by omega, fun _ => ⟨by omega, fun _ => b2, fun q => by omega⟩⟩, zF2_trans (zF2_of s2 (by omega)) z2, z3⟩
      · have hCf : isC s room (holF (clsL wy) B) ((rot s i (holF (clsL wy) B).length : Nat) : Int) := Or.inr ⟨i, by omega, rfl, ⟨y, hy, by omega⟩, hq⟩
        obtain ⟨pl, w', cn', z1, z2, z3⟩ := fin (hsel _ hCf) _ _ b (2 * (i : Int) + 2) (zj (2 * ((rot s i (holF (clsL wy) B).length : Nat) : Int))) (zj 1) s1 hp1
        rw [if_neg (by omega)] at z1
        have b0 : Zr sc 125 63 [zp q, zj room, zp a2, zj b, zj (2 * ((rot s i (holF (clsL wy) B).length : Nat) : Int)), zj (2 * (i : Int) + 2), zj (2 * ((rot s i (holF (clsL wy) B).length : Nat) : Int)), zj 1] [] (w1.set (q + 77) (za (zsi c1 0 (zgi c1 0 + 1)))) (some (zj pl)) w' 0 0 := by
          by_cases c3 : (row.length : Int) ≤ 2 * (i : Int) + 2
          · exact V125_63 s1.1 ⟨row, hp1, by omega, fun _ => z1, fun q => absurd c3 q⟩
          · exact V125_63 s1.1 ⟨row, hp1, by omega, fun q => absurd q c3, fun _ => ⟨by omega, fun q => by omega, fun _ => ⟨by omega, fun _ => z1, fun q => by omega⟩⟩⟩
        have b1 : Zr sc 125 155 [zp q, zj room, zp a2, zj b, zj (-1), zj (2 * (i : Int)), zj (2 * ((rot s i (holF (clsL wy) B).length : Nat) : Int)), zj 1] [] (w1.set (q + 77) (za (zsi c1 0 (zgi c1 0 + 1)))) (some (zj pl)) w' 0 0 := V125_155 ⟨row, hp1, by omega, by omega, fun q => by omega, fun _ => ⟨by omega, fun q => by omega, fun _ => b0⟩⟩
        rw [← eh] at b1
        have b2 := V125_83 (v6 := v6) (v7 := v7) g0 g5 ⟨row, hp, by omega, by omega, by omega, by omega, fun _ => b1, fun q => by omega⟩
        exact ⟨pl, w', cn', V125_63 g0 ⟨row, hp, by omega, fun q => by omega, fun _ => ⟨by omega, fun _ => b2, fun q => by omega⟩⟩, zF2_trans (zF2_of s2 (by omega)) z2, z3⟩
  -- the best of all
  have tight : wy ≠ 3 → 2 ≤ wy → (∀ r, isT room (holF (clsL wy) B) r → selF (clsL wy) wy (x.2.2.2.2.2.2.1) (holF (clsL wy) B) room r) → ∀ (Y X : List hl_T) (f : Int), holF (clsL wy) B = X ++ Y → isT room X f → ∀ (w1 : List zE) (c1 : List Int) (v6 v7 : Value), sC w1 q x ow sz rm am c1 de → w1[a2]? = some (za row) → takeR sc w1 q x ow sz rm am de B wy room 63 [zp q, zj room, zp a2, zj 0, zj (if f = -1 then -1 else 2 * f), zj (2 * (X.length : Int)), v6, v7] := by
    intro hw3 hw2 hsel Y
    induction Y with
    | nil =>
      intro X f e hq w1 c1 v6 v7 h hp
      rw [List.append_nil] at e
      rw [← e] at hq
      obtain ⟨pl, w', cn', z1, z2⟩ := fin (hsel _ hq) w1 c1 0 (2 * (X.length : Int)) v6 v7 h hp
      have hxl : (holF (clsL wy) B).length = X.length := by rw [e]
      obtain ⟨g0, g1, g2, g3, g4, g5, g6, g7, ⟨l1, l2, l3, l4, l5⟩, g9⟩ := id h
      exact ⟨pl, w', cn', V125_63 g0 ⟨row, hp, by omega, fun _ => z1, fun q => by omega⟩, z2⟩
    | cons y Y ih =>
      intro X f e hq w1 c1 v6 v7 h hp
      have hy : (holF (clsL wy) B)[X.length]? = some y := by rw [e]; exact mid_eq
      have hyl := (List.getElem?_eq_some_iff.mp hy).1
      have gy := hH y (List.mem_of_getElem? hy)
      obtain ⟨e1, e2⟩ := hrow.2 _ y hy
      have e3 : holF (clsL wy) B = (X ++ [y]) ++ Y := by rw [e]; simp
      have hlx : (2 * ((X ++ [y]).length : Int)) = 2 * (X.length : Int) + 2 := by rw [List.length_append, List.length_singleton]; omega
      have eh : (0 + 2 * (X.length : Int)) % (row.length : Int) = 2 * (X.length : Int) := by rw [Int.emod_eq_of_lt (by omega) (by omega)]; omega
      obtain ⟨g0, g1, g2, g3, g4, g5, g6, g7, ⟨l1, l2, l3, l4, l5⟩, g9⟩ := id h
      obtain ⟨s1, s2⟩ := sC_cn h (cn' := zsi c1 0 (zgi c1 0 + 1)) (by rw [zsi_len]; exact l5)
      have hp1 : (w1.set (q + 77) (za (zsi c1 0 (zgi c1 0 + 1))))[a2]? = some (za row) := zw_o (by omega) hp
      -- what goes on, by the best so far
      have go := fun (f' : Int) (hq' : isT room (X ++ [y]) f') (v : Value) => ih (X ++ [y]) f' e3 hq' _ _ (zj (2 * (X.length : Int))) v s1 hp1
      rcases id hq with ⟨q1, q2⟩ | ⟨X1, g, Y1, q1, q2, q3, q4, q5⟩
      · subst q1
        rw [if_pos rfl]
        by_cases c2 : y.2 < room
        · obtain ⟨pl, w', cn', z1, z2, z3⟩ := go (-1) (isT_snoc_n hq c2) (zj 1)
          rw [hlx, if_pos rfl] at z1
          have b1 : Zr sc 125 155 [zp q, zj room, zp a2, zj 0, zj (-1), zj (2 * (X.length : Int)), zj (2 * (X.length : Int)), zj 1] [] (w1.set (q + 77) (za (zsi c1 0 (zgi c1 0 + 1)))) (some (zj pl)) w' 0 0 := V125_155 ⟨row, hp1, by omega, by omega, fun _ => z1, fun q => by omega⟩
          have b2 := V125_83 (x3 := 0) (x4 := -1) (x5 := 2 * (X.length : Int)) (v6 := v6) (v7 := v7) g0 g5 ⟨row, hp, by omega, by omega, by omega, by omega, fun _ => by rw [eh]; exact b1, fun q => by omega⟩
          exact ⟨pl, w', cn', V125_63 g0 ⟨row, hp, by omega, fun q => by omega, fun _ => ⟨by omega, fun _ => b2, fun q => by omega⟩⟩, zF2_trans (zF2_of s2 (by omega)) z2, z3⟩
        · obtain ⟨pl, w', cn', z1, z2, z3⟩ := go (X.length : Int) (isT_snoc_0 hq (by omega)) (zj 1)
          rw [hlx, if_neg (by omega)] at z1
          have b1 : Zr sc 125 155 [zp q, zj room, zp a2, zj 0, zj (-1), zj (2 * (X.length : Int)), zj (2 * (X.length : Int)), zj 1] [] (w1.set (q + 77) (za (zsi c1 0 (zgi c1 0 + 1)))) (some (zj pl)) w' 0 0 := V125_155 ⟨row, hp1, by omega, by omega, fun q => by omega, fun _ => ⟨by omega, fun q => by omega, fun _ => z1⟩⟩
          have b2 := V125_83 (x3 := 0) (x4 := -1) (x5 := 2 * (X.length : Int)) (v6 := v6) (v7 := v7) g0 g5 ⟨row, hp, by omega, by omega, by omega, by omega, fun _ => by rw [eh]; exact b1, fun q => by omega⟩
          exact ⟨pl, w', cn', V125_63 g0 ⟨row, hp, by omega, fun q => by omega, fun _ => ⟨by omega, fun _ => b2, fun q => by omega⟩⟩, zF2_trans (zF2_of s2 (by omega)) z2, z3⟩
      · have hg1 : (holF (clsL wy) B)[X1.length]? = some g := by rw [e, q1, List.append_assoc]; exact mid_eq
        have hgl := (List.getElem?_eq_some_iff.mp hg1).1
        have gg := hH g (List.mem_of_getElem? hg1)
        obtain ⟨d1, d2⟩ := hrow.2 _ g hg1
        subst q2
        rw [if_neg (by omega)]
        by_cases hC : g.2 ≤ y.2
        · -- the best stays
          have hk : isT room (X ++ [y]) X1.length := by rw [q1]; exact isT_snoc_k q3 q4 q5 hC
          obtain ⟨pl, w', cn', z1, z2, z3⟩ := go _ hk (zj 0)
          rw [hlx, if_neg (by omega)] at z1
          have b1 : Zr sc 125 155 [zp q, zj room, zp a2, zj 0, zj (2 * (X1.length : Int)), zj (2 * (X.length : Int)), zj (2 * (X.length : Int)), zj 0] [] (w1.set (q + 77) (za (zsi c1 0 (zgi c1 0 + 1)))) (some (zj pl)) w' 0 0 := by
            by_cases c2 : y.2 < room
            · exact V125_155 ⟨row, hp1, by omega, by omega, fun _ => z1, fun q => by omega⟩
            · exact V125_155 ⟨row, hp1, by omega, by omega, fun q => by omega, fun _ => ⟨by omega, fun _ => z1, fun q => by omega⟩⟩
          have b2 := V125_83 (x3 := 0) (x4 := 2 * (X1.length : Int)) (x5 := 2 * (X.length : Int)) (v6 := v6) (v7 := v7) g0 g5 ⟨row, hp, by omega, by omega, by omega, by omega, fun q => by omega, fun _ => ⟨by omega, fun _ => ⟨by omega, by rw [eh]; omega, by omega, by rw [eh]; omega, fun _ => by rw [eh]; exact b1, fun q => by rw [eh] at q; omega⟩, fun q => by omega⟩⟩
          exact ⟨pl, w', cn', V125_63 g0 ⟨row, hp, by omega, fun q => by omega, fun _ => ⟨by omega, fun q => by omega, fun _ => ⟨by omega, fun q => by omega, fun _ => b2⟩⟩⟩, zF2_trans (zF2_of s2 (by omega)) z2, z3⟩
        · by_cases c2 : y.2 < room
          · obtain ⟨pl, w', cn', z1, z2, z3⟩ := go _ (isT_snoc_n hq c2) (zj 1)
            rw [hlx, if_neg (by omega)] at z1
            have b1 : Zr sc 125 155 [zp q, zj room, zp a2, zj 0, zj (2 * (X1.length : Int)), zj (2 * (X.length : Int)), zj (2 * (X.length : Int)), zj 1] [] (w1.set (q + 77) (za (zsi c1 0 (zgi c1 0 + 1)))) (some (zj pl)) w' 0 0 := V125_155 ⟨row, hp1, by omega, by omega, fun _ => z1, fun q => by omega⟩
            have b2 := V125_83 (x3 := 0) (x4 := 2 * (X1.length : Int)) (x5 := 2 * (X.length : Int)) (v6 := v6) (v7 := v7) g0 g5 ⟨row, hp, by omega, by omega, by omega, by omega, fun q => by omega, fun _ => ⟨by omega, fun _ => ⟨by omega, by rw [eh]; omega, by omega, by rw [eh]; omega, fun q => by rw [eh] at q; omega, fun _ => by rw [eh]; exact b1⟩, fun q => by omega⟩⟩
            exact ⟨pl, w', cn', V125_63 g0 ⟨row, hp, by omega, fun q => by omega, fun _ => ⟨by omega, fun q => by omega, fun _ => ⟨by omega, fun q => by omega, fun _ => b2⟩⟩⟩, zF2_trans (zF2_of s2 (by omega)) z2, z3⟩
          · have hk : isT room (X ++ [y]) X.length := by rw [q1]; exact isT_snoc_s q3 q4 q5 (by omega) (by omega)
            obtain ⟨pl, w', cn', z1, z2, z3⟩ := go _ hk (zj 1)
            rw [hlx, if_neg (by omega)] at z1
            have b1 : Zr sc 125 155 [zp q, zj room, zp a2, zj 0, zj (2 * (X1.length : Int)), zj (2 * (X.length : Int)), zj (2 * (X.length : Int)), zj 1] [] (w1.set (q + 77) (za (zsi c1 0 (zgi c1 0 + 1)))) (some (zj pl)) w' 0 0 := V125_155 ⟨row, hp1, by omega, by omega, fun q => by omega, fun _ => ⟨by omega, fun q => by omega, fun _ => z1⟩⟩
            have b2 := V125_83 (x3 := 0) (x4 := 2 * (X1.length : Int)) (x5 := 2 * (X.length : Int)) (v6 := v6) (v7 := v7) g0 g5 ⟨row, hp, by omega, by omega, by omega, by omega, fun q => by omega, fun _ => ⟨by omega, fun _ => ⟨by omega, by rw [eh]; omega, by omega, by rw [eh]; omega, fun q => by rw [eh] at q; omega, fun _ => by rw [eh]; exact b1⟩, fun q => by omega⟩⟩
            exact ⟨pl, w', cn', V125_63 g0 ⟨row, hp, by omega, fun q => by omega, fun _ => ⟨by omega, fun q => by omega, fun _ => ⟨by omega, fun q => by omega, fun _ => b2⟩⟩⟩, zF2_trans (zF2_of s2 (by omega)) z2, z3⟩
  have wide : wy = 3 → 2 ≤ wy → (∀ r, isW room (holF (clsL wy) B) r → selF (clsL wy) wy (x.2.2.2.2.2.2.1) (holF (clsL wy) B) room r) → ∀ (Y X : List hl_T) (f : Int), holF (clsL wy) B = X ++ Y → isW room X f → ∀ (w1 : List zE) (c1 : List Int) (v6 v7 : Value), sC w1 q x ow sz rm am c1 de → w1[a2]? = some (za row) → takeR sc w1 q x ow sz rm am de B wy room 63 [zp q, zj room, zp a2, zj 0, zj (if f = -1 then -1 else 2 * f), zj (2 * (X.length : Int)), v6, v7] := by
    intro hw3 hw2 hsel Y
    induction Y with
    | nil =>
      intro X f e hq w1 c1 v6 v7 h hp
      rw [List.append_nil] at e
      rw [← e] at hq
      obtain ⟨pl, w', cn', z1, z2⟩ := fin (hsel _ hq) w1 c1 0 (2 * (X.length : Int)) v6 v7 h hp
      have hxl : (holF (clsL wy) B).length = X.length := by rw [e]
      obtain ⟨g0, g1, g2, g3, g4, g5, g6, g7, ⟨l1, l2, l3, l4, l5⟩, g9⟩ := id h
      exact ⟨pl, w', cn', V125_63 g0 ⟨row, hp, by omega, fun _ => z1, fun q => by omega⟩, z2⟩
    | cons y Y ih =>
      intro X f e hq w1 c1 v6 v7 h hp
      have hy : (holF (clsL wy) B)[X.length]? = some y := by rw [e]; exact mid_eq
      have hyl := (List.getElem?_eq_some_iff.mp hy).1
      have gy := hH y (List.mem_of_getElem? hy)
      obtain ⟨e1, e2⟩ := hrow.2 _ y hy
      have e3 : holF (clsL wy) B = (X ++ [y]) ++ Y := by rw [e]; simp
      have hlx : (2 * ((X ++ [y]).length : Int)) = 2 * (X.length : Int) + 2 := by rw [List.length_append, List.length_singleton]; omega
      have eh : (0 + 2 * (X.length : Int)) % (row.length : Int) = 2 * (X.length : Int) := by rw [Int.emod_eq_of_lt (by omega) (by omega)]; omega
      obtain ⟨g0, g1, g2, g3, g4, g5, g6, g7, ⟨l1, l2, l3, l4, l5⟩, g9⟩ := id h
      obtain ⟨s1, s2⟩ := sC_cn h (cn' := zsi c1 0 (zgi c1 0 + 1)) (by rw [zsi_len]; exact l5)
      have hp1 : (w1.set (q + 77) (za (zsi c1 0 (zgi c1 0 + 1))))[a2]? = some (za row) := zw_o (by omega) hp
      -- what goes on, by the best so far
      have go := fun (f' : Int) (hq' : isW room (X ++ [y]) f') (v : Value) => ih (X ++ [y]) f' e3 hq' _ _ (zj (2 * (X.length : Int))) v s1 hp1
      rcases id hq with ⟨q1, q2⟩ | ⟨X1, g, Y1, q1, q2, q3, q4, q5⟩
      · subst q1
        rw [if_pos rfl]
        by_cases c2 : y.2 < room
        · obtain ⟨pl, w', cn', z1, z2, z3⟩ := go (-1) (isW_snoc_n hq c2) (zj 1)
          rw [hlx, if_pos rfl] at z1
          have b1 : Zr sc 125 155 [zp q, zj room, zp a2, zj 0, zj (-1), zj (2 * (X.length : Int)), zj (2 * (X.length : Int)), zj 1] [] (w1.set (q + 77) (za (zsi c1 0 (zgi c1 0 + 1)))) (some (zj pl)) w' 0 0 := V125_155 ⟨row, hp1, by omega, by omega, fun _ => z1, fun q => by omega⟩
          have b2 := V125_83 (x3 := 0) (x4 := -1) (x5 := 2 * (X.length : Int)) (v6 := v6) (v7 := v7) g0 g5 ⟨row, hp, by omega, by omega, by omega, by omega, fun _ => by rw [eh]; exact b1, fun q => by omega⟩
          exact ⟨pl, w', cn', V125_63 g0 ⟨row, hp, by omega, fun q => by omega, fun _ => ⟨by omega, fun _ => b2, fun q => by omega⟩⟩, zF2_trans (zF2_of s2 (by omega)) z2, z3⟩
        · obtain ⟨pl, w', cn', z1, z2, z3⟩ := go (X.length : Int) (isW_snoc_0 hq (by omega)) (zj 1)
          rw [hlx, if_neg (by omega)] at z1
          have b1 : Zr sc 125 155 [zp q, zj room, zp a2, zj 0, zj (-1), zj (2 * (X.length : Int)), zj (2 * (X.length : Int)), zj 1] [] (w1.set (q + 77) (za (zsi c1 0 (zgi c1 0 + 1)))) (some (zj pl)) w' 0 0 := V125_155 ⟨row, hp1, by omega, by omega, fun q => by omega, fun _ => ⟨by omega, fun q => by omega, fun _ => z1⟩⟩
          have b2 := V125_83 (x3 := 0) (x4 := -1) (x5 := 2 * (X.length : Int)) (v6 := v6) (v7 := v7) g0 g5 ⟨row, hp, by omega, by omega, by omega, by omega, fun _ => by rw [eh]; exact b1, fun q => by omega⟩
          exact ⟨pl, w', cn', V125_63 g0 ⟨row, hp, by omega, fun q => by omega, fun _ => ⟨by omega, fun _ => b2, fun q => by omega⟩⟩, zF2_trans (zF2_of s2 (by omega)) z2, z3⟩
      · have hg1 : (holF (clsL wy) B)[X1.length]? = some g := by rw [e, q1, List.append_assoc]; exact mid_eq
        have hgl := (List.getElem?_eq_some_iff.mp hg1).1
        have gg := hH g (List.mem_of_getElem? hg1)
        obtain ⟨d1, d2⟩ := hrow.2 _ g hg1
        subst q2
        rw [if_neg (by omega)]
        by_cases hC : y.2 ≤ g.2
        · -- the best stays
          have hk : isW room (X ++ [y]) X1.length := by rw [q1]; exact isW_snoc_k q3 q4 q5 hC
          obtain ⟨pl, w', cn', z1, z2, z3⟩ := go _ hk (zj 0)
          rw [hlx, if_neg (by omega)] at z1
          have b1 : Zr sc 125 155 [zp q, zj room, zp a2, zj 0, zj (2 * (X1.length : Int)), zj (2 * (X.length : Int)), zj (2 * (X.length : Int)), zj 0] [] (w1.set (q + 77) (za (zsi c1 0 (zgi c1 0 + 1)))) (some (zj pl)) w' 0 0 := by
            by_cases c2 : y.2 < room
            · exact V125_155 ⟨row, hp1, by omega, by omega, fun _ => z1, fun q => by omega⟩
            · exact V125_155 ⟨row, hp1, by omega, by omega, fun q => by omega, fun _ => ⟨by omega, fun _ => z1, fun q => by omega⟩⟩
          have b2 := V125_83 (x3 := 0) (x4 := 2 * (X1.length : Int)) (x5 := 2 * (X.length : Int)) (v6 := v6) (v7 := v7) g0 g5 ⟨row, hp, by omega, by omega, by omega, by omega, fun q => by omega, fun _ => ⟨by omega, fun q => by omega, fun _ => ⟨by omega, by rw [eh]; omega, by omega, by rw [eh]; omega, fun _ => by rw [eh]; exact b1, fun q => by rw [eh] at q; omega⟩⟩⟩
          exact ⟨pl, w', cn', V125_63 g0 ⟨row, hp, by omega, fun q => by omega, fun _ => ⟨by omega, fun q => by omega, fun _ => ⟨by omega, fun q => by omega, fun _ => b2⟩⟩⟩, zF2_trans (zF2_of s2 (by omega)) z2, z3⟩
        · by_cases c2 : y.2 < room
          · obtain ⟨pl, w', cn', z1, z2, z3⟩ := go _ (isW_snoc_n hq c2) (zj 1)
            rw [hlx, if_neg (by omega)] at z1
            have b1 : Zr sc 125 155 [zp q, zj room, zp a2, zj 0, zj (2 * (X1.length : Int)), zj (2 * (X.length : Int)), zj (2 * (X.length : Int)), zj 1] [] (w1.set (q + 77) (za (zsi c1 0 (zgi c1 0 + 1)))) (some (zj pl)) w' 0 0 := V125_155 ⟨row, hp1, by omega, by omega, fun _ => z1, fun q => by omega⟩
            have b2 := V125_83 (x3 := 0) (x4 := 2 * (X1.length : Int)) (x5 := 2 * (X.length : Int)) (v6 := v6) (v7 := v7) g0 g5 ⟨row, hp, by omega, by omega, by omega, by omega, fun q => by omega, fun _ => ⟨by omega, fun q => by omega, fun _ => ⟨by omega, by rw [eh]; omega, by omega, by rw [eh]; omega, fun q => by rw [eh] at q; omega, fun _ => by rw [eh]; exact b1⟩⟩⟩
            exact ⟨pl, w', cn', V125_63 g0 ⟨row, hp, by omega, fun q => by omega, fun _ => ⟨by omega, fun q => by omega, fun _ => ⟨by omega, fun q => by omega, fun _ => b2⟩⟩⟩, zF2_trans (zF2_of s2 (by omega)) z2, z3⟩
          · have hk : isW room (X ++ [y]) X.length := by rw [q1]; exact isW_snoc_s q3 q4 q5 (by omega) (by omega)
            obtain ⟨pl, w', cn', z1, z2, z3⟩ := go _ hk (zj 1)
            rw [hlx, if_neg (by omega)] at z1
            have b1 : Zr sc 125 155 [zp q, zj room, zp a2, zj 0, zj (2 * (X1.length : Int)), zj (2 * (X.length : Int)), zj (2 * (X.length : Int)), zj 1] [] (w1.set (q + 77) (za (zsi c1 0 (zgi c1 0 + 1)))) (some (zj pl)) w' 0 0 := V125_155 ⟨row, hp1, by omega, by omega, fun q => by omega, fun _ => ⟨by omega, fun q => by omega, fun _ => z1⟩⟩
            have b2 := V125_83 (x3 := 0) (x4 := 2 * (X1.length : Int)) (x5 := 2 * (X.length : Int)) (v6 := v6) (v7 := v7) g0 g5 ⟨row, hp, by omega, by omega, by omega, by omega, fun q => by omega, fun _ => ⟨by omega, fun q => by omega, fun _ => ⟨by omega, by rw [eh]; omega, by omega, by rw [eh]; omega, fun q => by rw [eh] at q; omega, fun _ => by rw [eh]; exact b1⟩⟩⟩
            exact ⟨pl, w', cn', V125_63 g0 ⟨row, hp, by omega, fun q => by omega, fun _ => ⟨by omega, fun q => by omega, fun _ => ⟨by omega, fun q => by omega, fun _ => b2⟩⟩⟩, zF2_trans (zF2_of s2 (by omega)) z2, z3⟩
  intro w1 c1 h hp
  have hwc : wy = 0 ∨ wy = 1 ∨ wy = 2 ∨ wy = 3 ∨ wy = 4 := by omega
  have g0 := h.1
  rcases hwc with rfl | rfl | rfl | rfl | rfl
  · obtain ⟨pl, w', cn', z1, z2⟩ := first 0 (Or.inr rfl) (fun r hr => Or.inl ⟨rfl, hr⟩) (by omega) 0 (Or.inl rfl) _ 0 (Nat.zero_add _) (fun j hj => by omega) w1 c1 zmk zmk h hp
    exact ⟨pl, w', cn', V125_21 g0 ⟨by omega, fun _ => z1, fun q => by omega⟩, z2⟩
  · -- from the hand on
    have from0 : ∀ (Y X : List hl_T), holF (clsL 1) B = X ++ Y → (∀ y ∈ X, ¬ (x.2.2.2.2.2.2.1 < y.1 + y.2)) → takeR sc w1 q x ow sz rm am de B 1 room 21 [zp q, zj room, zp a2, zj (2 * (X.length : Int)), zmk, zmk, zmk, zmk] := by
      intro Y
      induction Y with
      | nil =>
        intro X e hX
        rw [List.append_nil] at e
        have hxl : (holF (clsL 1) B).length = X.length := by rw [e]
        obtain ⟨pl, w', cn', z1, z2⟩ := first 0 (Or.inr rfl) (fun r hr => Or.inr (Or.inl ⟨rfl, -1, Or.inl ⟨rfl, by rw [e]; exact hX⟩, hr⟩)) (by omega) (2 * (X.length : Int)) (Or.inr ⟨rfl, by omega⟩) _ 0 (Nat.zero_add _) (fun j hj => by omega) w1 c1 zmk zmk h hp
        exact ⟨pl, w', cn', V125_21 g0 ⟨by omega, fun q => by omega, fun _ => ⟨row, hp, by omega, fun _ => z1, fun q => by omega⟩⟩, z2⟩
      | cons y Y ih =>
        intro X e hX
        have hy : (holF (clsL 1) B)[X.length]? = some y := by rw [e]; exact mid_eq
        have hyl := (List.getElem?_eq_some_iff.mp hy).1
        have gy := hH y (List.mem_of_getElem? hy)
        obtain ⟨e1, e2⟩ := hrow.2 _ y hy
        by_cases c2 : x.2.2.2.2.2.2.1 < y.1 + y.2
        · obtain ⟨pl, w', cn', z1, z2⟩ := first X.length (Or.inl hyl) (fun r hr => Or.inr (Or.inl ⟨rfl, X.length, Or.inr ⟨X, y, Y, e, rfl, c2, hX⟩, by rw [Int.toNat_natCast]; exact hr⟩)) (by omega) (2 * (X.length : Int)) (Or.inl rfl) _ 0 (Nat.zero_add _) (fun j hj => by omega) w1 c1 zmk zmk h hp
          exact ⟨pl, w', cn', V125_21 g0 ⟨by omega, fun q => by omega, fun _ => ⟨row, hp, by omega, fun q => by omega, fun _ => ⟨by omega, by omega, by omega, fun _ => z1, fun q => by omega⟩⟩⟩, z2⟩
        · obtain ⟨pl, w', cn', z1, z2⟩ := ih (X ++ [y]) (by rw [e]; simp) (fun z hz => by
            rcases List.mem_append.mp hz with hz | hz
            · exact hX z hz
            · rw [List.mem_singleton.mp hz]; exact c2)
          rw [show (2 * ((X ++ [y]).length : Int)) = 2 * (X.length : Int) + 2 by rw [List.length_append, List.length_singleton]; omega] at z1
          exact ⟨pl, w', cn', V125_21 g0 ⟨by omega, fun q => by omega, fun _ => ⟨row, hp, by omega, fun q => by omega, fun _ => ⟨by omega, by omega, by omega, fun q => by omega, fun _ => z1⟩⟩⟩, z2⟩
    exact from0 _ [] rfl (fun y hy => by cases hy)
  · obtain ⟨pl, w', cn', z1, z2⟩ := tight (by omega) (by omega) (fun r hr => Or.inr (Or.inr (Or.inl ⟨rfl, hr⟩))) _ [] (-1) rfl (Or.inl ⟨rfl, fun y hy => by cases hy⟩) w1 c1 zmk zmk h hp
    exact ⟨pl, w', cn', V125_21 g0 ⟨by omega, fun _ => z1, fun q => by omega⟩, z2⟩
  · obtain ⟨pl, w', cn', z1, z2⟩ := wide rfl (by omega) (fun r hr => Or.inr (Or.inr (Or.inr ⟨Or.inr (by decide), hr⟩))) _ [] (-1) rfl (Or.inl ⟨rfl, fun y hy => by cases hy⟩) w1 c1 zmk zmk h hp
    exact ⟨pl, w', cn', V125_21 g0 ⟨by omega, fun _ => z1, fun q => by omega⟩, z2⟩
  · obtain ⟨pl, w', cn', z1, z2⟩ := tight (by omega) (by omega) (fun r hr => hr) _ [] (-1) rfl (Or.inl ⟨rfl, fun y hy => by cases hy⟩) w1 c1 zmk zmk h hp
    exact ⟨pl, w', cn', V125_21 g0 ⟨by omega, fun _ => z1, fun q => by omega⟩, z2⟩
end TAL
