/-! ===== a pool begins ===== -/
section PRS
variable {sc : List Value} {w w' w2 : List zE} {q : Nat} {x x' : ps_T} {ow ow' sz rm am cn de : List Int} {B B' X Y : List bk_T} {S : List Int} {wy : Nat} {st hd : Int} {D : List dd_T} {K : Nat → mk_T} {HN : Nat → Int} {CN : Nat → List Int} {BB : Nat → List bk_T}
theorem sC_ow (h : sC w q x ow sz rm am cn de) {ow' : List Int} (hl : ow'.length = 1024) : sC (w.set (q + 73) (za ow')) q x ow' sz rm am cn de ∧ zF2 w (w.set (q + 73) (za ow')) q := by
  obtain ⟨g0, g1, g2, g3, g4, g5, g6, g7, ⟨l1, l2, l3, l4, l5⟩, g9⟩ := id h
  exact ⟨⟨zw_o (by omega) g0, zw_s g1, zw_o (by omega) g2, zw_o (by omega) g3, zw_o (by omega) g4, zw_o (by omega) g5, zw_o (show q + 73 ≠ x.2.2.2.2.2.2.2.2 by omega) g6, g7, ⟨hl, l2, l3, l4, l5⟩, g9⟩, zF2_of (zFm_set (a := q + 73) (n := 1) (by omega) (by omega)) (by omega)⟩
theorem zp_clear (h : sC w q x ow sz rm am cn de) : ∃ w' ow', Zc sc 114 [zp q] w none w' 0 0 ∧ zF2 w w' q ∧ sC w' q x ow' sz rm am cn de ∧ RO ow' [] := by
  have key : ∀ (m : Nat) (u : Int) (w : List zE) (ow : List Int), u + m = 1024 → 0 ≤ u → (∀ v : Int, 0 ≤ v → v < u → zgi ow v = -1) → sC w q x ow sz rm am cn de → ∃ w' ow', Zr sc 114 2 [zp q, zj u] [] w none w' 0 0 ∧ zF2 w w' q ∧ sC w' q x ow' sz rm am cn de ∧ RO ow' [] := by
    intro m
    induction m with
    | zero =>
      intro u w ow hm h0 hv h
      obtain ⟨g0, g1, -⟩ := id h
      exact ⟨w, ow, V114_2 g0 g1 ⟨by omega, fun _ => ⟨rfl, rfl, rfl, rfl⟩, fun q => by omega⟩, zF2_refl _ _, h, fun b hb => (by cases hb), fun v v0 v1 _ => hv v v0 (by omega)⟩
    | succ m ih =>
      intro u w ow hm h0 hv h
      obtain ⟨g0, g1, g2, g3, g4, g5, g6, g7, ⟨l1, l2, l3, l4, l5⟩, g9⟩ := id h
      obtain ⟨s1, s2⟩ := sC_ow h (ow' := zsi ow u (-1)) (by rw [zsi_len]; exact l1)
      obtain ⟨w', ow', z1, z2, z3⟩ := ih (u + 1) _ _ (by omega) (by omega) (fun v v0 v1 => by
        rw [zgi_set h0 (by omega) v0]
        by_cases e : v = u
        · rw [if_pos e]
        · rw [if_neg e]
          exact hv v v0 (by omega)) s1
      exact ⟨w', ow', V114_2 g0 g1 ⟨by omega, fun q => by omega, fun _ => ⟨by omega, z1⟩⟩, zF2_trans s2 z2, z3⟩
  obtain ⟨w', ow', z1, z2⟩ := key 1024 0 w ow (by omega) (by omega) (fun v v0 v1 => by omega) h
  exact ⟨w', ow', Zc_of rfl rfl (V114_0 z1), z2⟩
theorem zshl_1 {r : Int} (h : 0 ≤ r ∧ r < 4) : zjop 5 1 r = 1 ∨ zjop 5 1 r = 2 ∨ zjop 5 1 r = 4 ∨ zjop 5 1 r = 8 := by
  have : r = 0 ∨ r = 1 ∨ r = 2 ∨ r = 3 := by omega
  rcases this with rfl | rfl | rfl | rfl <;> decide +kernel
theorem zp_reset (hL : sL w (q + 1) wy st hd D K HN CN BB) (h : sC w q x ow sz rm am cn []) (hS : sc = S.map zj) (hl : S.length ≤ 260) (hd0 : 0 ≤ x.1 ∧ x.1 ≤ 900000) (hwy : x.2.1 = wy) (hz : x.2.2.2.2.1 = 0 ∧ x.2.2.2.2.2.1 = 0 ∧ x.2.2.2.2.2.2.1 = 0) (hpk : 0 ≤ x.2.2.2.2.2.2.2.1 ∧ x.2.2.2.2.2.2.2.1 ≤ 1024) (hA : ∀ i : Int, 0 ≤ i → 0 ≤ zgi am i ∧ zgi am i ≤ 3) (hR : RO ow []) {i : Nat} (hi : i < 6) :
    ∃ w' y1 y2, Zc sc 118 [zp q, zj i] w (some (zj 1)) w' 0 0 ∧ zFm w w' q 78 ∧ (y1 = 1 ∨ y1 = 2 ∨ y1 = 4 ∨ y1 = 8) ∧ (0 ≤ y2 ∧ y2 ≤ 8) ∧ LK w' q i y1 y2 [] (rsK K y1 y2) (fun _ => 0) (fun _ => List.replicate 5 0) (fun _ => []) (x.1 + 2, (i : Int), y1, y2, 0, 0, 0, x.2.2.2.2.2.2.2.1, x.2.2.2.2.2.2.2.2) ow sz rm am cn [] := by
  have hw6 := hL.1
  obtain ⟨a1, a2⟩ := sC_x h (x' := (x.1, (i : Int), x.2.2.1, x.2.2.2.1, x.2.2.2.2.1, x.2.2.2.2.2.1, x.2.2.2.2.2.2.1, x.2.2.2.2.2.2.2.1, x.2.2.2.2.2.2.2.2)) rfl
  obtain ⟨r1, w1, b1, b2, b3, b4⟩ := zp_draw (sc := sc) a1 hS hl (by show 0 ≤ x.1 ∧ x.1 ≤ 1000000; omega) (n := 4) (by omega)
  obtain ⟨c1, c2⟩ := sC_x b4 (x' := (x.1 + 1, (i : Int), zjop 5 1 r1, x.2.2.2.1, x.2.2.2.2.1, x.2.2.2.2.2.1, x.2.2.2.2.2.2.1, x.2.2.2.2.2.2.2.1, x.2.2.2.2.2.2.2.2)) rfl
  obtain ⟨r2, w3, d1, d2, d3, d4⟩ := zp_draw (sc := sc) c1 hS hl (by show 0 ≤ x.1 + 1 ∧ x.1 + 1 ≤ 1000000; omega) (n := 5) (by omega)
  obtain ⟨e1, e2⟩ := sC_x d4 (x' := (x.1 + 1 + 1, (i : Int), zjop 5 1 r1, r2, x.2.2.2.2.1, x.2.2.2.2.2.1, x.2.2.2.2.2.2.1, x.2.2.2.2.2.2.2.1, x.2.2.2.2.2.2.2.2)) rfl
  have hy := zshl_1 b2
  have f3 : zF2 w w3 q := zF2_trans a2 (zF2_trans (zF2_of b3 (by omega)) (zF2_trans c2 (zF2_of d3 (by omega))))
  have hL3 := sL_ag (zF2_ag f3) hL
  have hL4 := sL_ag (zF2_ag (zF2_trans f3 e2)) hL
  obtain ⟨w5, m1, m2, m3⟩ := zl_reset (sc := sc) hL4 hi hy (y := r2) (by omega)
  have j5 := sC_fm m2 (Nat.le_refl _) (by omega) e1
  refine ⟨w5, zjop 5 1 r1, r2, Zc_of rfl rfl (V118_0 h.1 ⟨_, _, b1, _, _, _, _, _, _, _, _, _, _, b4.1, _, _, d1, _, _, _, _, _, _, _, _, _, _, d4.1, _, hL3.2.1, _, _, m1, by omega, fun q => absurd hwy.symm q, fun _ => ⟨rfl, rfl, rfl, rfl⟩⟩), zF2_78 (zF2_trans f3 e2) m2, hy, by omega, m3, ⟨?_, ⟨rfl, rfl, rfl, rfl, rfl, rfl⟩, hR, fun b hb => (by cases hb), hA, hpk, by show (0 : Int) ≤ 0 ∧ (0 : Int) ≤ 3; omega⟩, rfl⟩
  have e3 : ((x.1 + 1 + 1, (i : Int), zjop 5 1 r1, r2, x.2.2.2.2.1, x.2.2.2.2.2.1, x.2.2.2.2.2.2.1, x.2.2.2.2.2.2.2.1, x.2.2.2.2.2.2.2.2) : ps_T) = (x.1 + 2, (i : Int), zjop 5 1 r1, r2, 0, 0, 0, x.2.2.2.2.2.2.2.1, x.2.2.2.2.2.2.2.2) := by
    rw [hz.1, hz.2.1, hz.2.2, Int.add_assoc]
    rfl
  rw [e3] at j5
  exact j5
end PRS
