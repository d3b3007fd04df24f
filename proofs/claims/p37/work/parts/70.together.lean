/-! ===== the pool beside the lab: all together, the whole ===== -/
section TOW
variable {sc : List Value} {w w' : List zE} {q : Nat} {x x' : ps_T} {ow ow' sz rm am cn de : List Int} {B B' X Y : List bk_T} {S : List Int} {wy : Nat} {st hd : Int} {D : List dd_T} {K : Nat → mk_T} {HN : Nat → Int} {CN : Nat → List Int} {BB : Nat → List bk_T}
theorem zp_together (h : LK w q wy st hd D K HN CN BB x ow sz rm am cn de) (hD : D.length < 150) (hw4 : wy < 4) : actR sc w q wy st hd D K HN CN BB x 149 [zp q] := by
  obtain ⟨hL, ⟨hC, ⟨x1, x2, x3, x4, x5, x6⟩, hR, hS, hA, hP, ha⟩, hde⟩ := id h
  obtain ⟨hok, hg, hhn, hk, hnmB, hw6, hkw, hrm⟩ := sL_facts hL
  have hx1 : x.2.1 = wy := x1
  have hsum : sumR (BB wy) ≤ 1024 := by
    have hQ := (hL.2.2.2.2 wy hw6)
    have := hQ.2.2.1
    have := hk.2.2.2.2.2.1.2
    omega
  have hpk := pkM_rg (BB wy) 0 (fun b hb => (hok.2 b hb).2.2.2.2.2.1)
  obtain ⟨w1, ow1, x3', v4, v5, f1, s1, r1, ok1, -, up⟩ := tg_loop (sc := sc) x1 hw4 1024 (BB wy) [] 0 0 0 w ow zmk zmk (by omega) (by omega) (by omega) hok hR (fun b hb => (by cases hb)) (by omega) (by omega) (fun y hy => (hok.2 y hy).2.2.1) (fun y hy => (hS y hy).2.1) (by omega) (by omega) hC
  rw [List.nil_append] at r1 ok1
  rw [Int.zero_add, Int.zero_add] at up
  obtain ⟨g0, -⟩ := id s1
  have z91 : ∃ w' k1 hn1 cn1 B1 x' cn' de', Zr sc 149 91 [zp q, zj (pkM (BB wy) 0), zj (sumR (BB wy)), zj x3', v4, v5] [] w1 (some (zj 1)) w' 1 (de.length + 3) ∧ zFm w w' q 78 ∧ PD w' (q + 1) wy st hd D K HN CN BB (3, 0, 0) k1 hn1 cn1 B1 ∧ pLK w' q wy k1 hn1 B1 x' ow1 sz rm am cn' de' ∧ de'.length = de.length + 3 ∧ x'.1 = x.1 := by
    have z115 : ∀ hn : Int, hn = (if 1024 ≤ sumR (BB wy) then 0 else sumR (BB wy)) → ∃ w' k1 hn1 cn1 B1 x' cn' de', Zr sc 149 115 [zp q, zj (pkM (BB wy) 0), zj (sumR (BB wy)), zj x3', v4, v5] [] (w1.set q (pobj q (xhF x hn))) (some (zj 1)) w' 1 (de.length + 3) ∧ zFm w w' q 78 ∧ PD w' (q + 1) wy st hd D K HN CN BB (3, 0, 0) k1 hn1 cn1 B1 ∧ pLK w' q wy k1 hn1 B1 x' ow1 sz rm am cn' de' ∧ de'.length = de.length + 3 ∧ x'.1 = x.1 := fun hn ehn => by
      obtain ⟨a1, a2⟩ := sC_x s1 (x' := xhF x hn) rfl
      obtain ⟨b1, b2⟩ := sC_cn a1 (cn' := zsi cn 3 (zgi cn 3 + pkM (BB wy) 0)) (by rw [zsi_len]; exact s1.2.2.2.2.2.2.2.2.1.2.2.2.2)
      obtain ⟨w6, pk6, D6, de6, j1, j2, j3, j4, j5⟩ := zp_did (sc := sc) b1 ok1 r1 (by omega) hP (a := 3) (b := 0) (e := 0)
      have f6 : zF2 w w6 q := zF2_trans f1 (zF2_trans a2 (zF2_trans (zF2_of b2 (by omega)) (zF2_of j2 (by omega))))
      have hL6 := sL_ag (zF2_ag f6) hL
      obtain ⟨w7, k1, hn1, cn1, B1, m1, m2, m3⟩ := zl_together (sc := sc) hL6 hD hw4
      have j7 := sC_fm m2 (Nat.le_refl _) (by omega) j3
      obtain ⟨v1, v2, v3⟩ : k1 = K wy ∧ hn1 = hn ∧ B1 = packF (BB wy) 0 := by
        rcases m3.1.2 with ⟨g, -⟩ | ⟨g, -⟩ | ⟨g, -⟩ | ⟨-, e1, ⟨e2, -⟩ | ⟨-, e2, -, e3⟩⟩ | ⟨g, -⟩ | ⟨g, -⟩
        · simp at g
        · simp at g
        · simp at g
        · exact absurd ((clsL_2 hw6).mpr hw4) e2
        · exact ⟨e1, by rw [e2, ehn], e3⟩
        · simp at g
        · simp at g
      subst v1
      subst v2
      subst v3
      have hlk : pLK w7 q wy (K wy) hn1 (packF (BB wy) 0) (x.1, x.2.1, x.2.2.1, x.2.2.2.1, x.2.2.2.2.1, x.2.2.2.2.2.1, hn1, pk6, D6) ow1 sz rm am (zsi cn 3 (zgi cn 3 + pkM (BB wy) 0)) de6 := by
        refine ⟨j7, ⟨x1, x2, x3, x4, x5, rfl⟩, r1, fun y hy => ?_, hA, j4, ha⟩
        obtain ⟨b, hb, e1, e2⟩ := packF_mem _ _ y hy
        rw [e1, e2]
        exact hS b hb
      have l5 := s1.2.2.2.2.2.2.2.2.1.2.2.2.2
      exact ⟨w7, _, _, _, _, _, _, de6, V149_115 a1.1 a1.2.2.2.2.2.1 ⟨by omega, by omega, w6, 1, de.length + 3, 0, 0, j1, ⟨rfl, rfl⟩, _, _, _, _, _, _, _, _, _, _, j3.1, by omega, fun q => by omega, fun _ => ⟨_, hL6.2.1, _, w7, m1, by omega, fun q => absurd rfl q, fun _ => V149_150 ⟨rfl, rfl, rfl, rfl⟩⟩⟩, zF2_78 f6 m2, m3, hlk, j5, rfl⟩
    by_cases c : sumR (BB wy) = 1024
    · obtain ⟨w', k1, hn1, cn1, B1, x', cn', de', m1, m2⟩ := z115 0 (by rw [if_pos (by omega)])
      exact ⟨w', k1, hn1, cn1, B1, x', cn', de', V149_91 g0 ⟨by omega, fun q => by omega, fun _ => ⟨by omega, fun q => absurd c q, fun _ => m1⟩⟩, m2⟩
    · obtain ⟨w', k1, hn1, cn1, B1, x', cn', de', m1, m2⟩ := z115 (sumR (BB wy)) (by rw [if_neg (by omega)])
      exact ⟨w', k1, hn1, cn1, B1, x', cn', de', V149_91 g0 ⟨by omega, fun q => by omega, fun _ => ⟨by omega, fun _ => m1, fun q => absurd c q⟩⟩, m2⟩
  obtain ⟨w', k1, hn1, cn1, B1, x', cn', de', m1, m2, m3, m4, m5, m6⟩ := z91
  exact ⟨w', 1, de.length + 3, _, k1, hn1, cn1, B1, x', ow1, _, _, _, cn', de', Zc_of rfl rfl (V149_0 (up m1)), by omega, by omega, m2, m3.1, LK_of m3 m4 (by omega), m6⟩
end TOW
