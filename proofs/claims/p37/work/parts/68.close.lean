/-! ===== the pool beside the lab: closing ===== -/
section CLO
variable {sc : List Value} {w w' : List zE} {q : Nat} {x x' : ps_T} {ow ow' sz rm am cn de : List Int} {B B' X Y : List bk_T} {S : List Int} {wy : Nat} {st hd : Int} {D : List dd_T} {K : Nat → mk_T} {HN : Nat → Int} {CN : Nat → List Int} {BB : Nat → List bk_T}
/-- what stays when the names above `i` of arena `a` are gone -/
def clB (am : List Int) (a : Int) (i : Int) (B : List bk_T) : List bk_T := B.filter fun y => !(decide (i < y.1) && decide (zgi am y.1 = a))
theorem clB_mem {a i : Int} {y : bk_T} (h : y ∈ clB am a i B) : y ∈ B ∧ ¬ (i < y.1 ∧ zgi am y.1 = a) := by
  unfold clB at h
  rw [List.mem_filter] at h
  refine ⟨h.1, fun e => ?_⟩
  have := h.2
  simp [e.1, e.2] at this
theorem clB_same {a i j : Int} (h : ∀ y ∈ B, zgi am y.1 = a → (i < y.1 ↔ j < y.1)) : clB am a i B = clB am a j B := by
  unfold clB
  refine List.filter_congr fun y hy => ?_
  by_cases e : zgi am y.1 = a
  · have := h y hy e
    simp only [e, decide_true, Bool.and_true]
    rw [decide_eq_decide.mpr this]
  · simp [e]
theorem zp_close (h : LK w q wy st hd D K HN CN BB x ow sz rm am cn de) (hD : D.length < 150) (ha0 : 0 < x.2.2.2.2.2.1) : actR sc w q wy st hd D K HN CN BB x 147 [zp q] := by
  obtain ⟨hL, ⟨hC, ⟨x1, x2, x3, x4, x5, x6⟩, hR, hS, hA, hP, ha⟩, hde⟩ := id h
  obtain ⟨hok, hg, hhn, hk, hnmB, hw6, hkw, hrm⟩ := sL_facts hL
  have hlen : ((BB wy).length : Int) ≤ (K wy).2.2.2.1 := by
    obtain ⟨-, -, -, -, hM⟩ := id hL
    obtain ⟨⟨D1, D2, -, -, hw⟩, -⟩ := hM wy hw6
    exact hw.2.2.2.1
  have k4 : 0 ≤ (K wy).2.2.2.1 ∧ (K wy).2.2.2.1 ≤ 80 := hk.2.2.2.1
  have hka : x.2.2.2.2.2.1 = (K wy).2.2.2.2.1 := x5
  have hkn : x.2.2.2.2.1 = (K wy).2.2.2.1 := x4
  have cl_ok : ∀ (a i : Int), okB (clB am a i (BB wy)) := fun a i => ⟨hok.1.filter _, fun y hy => hok.2 y (clB_mem hy).1⟩
  have loop : ∀ (m : Nat) (i : Int), i + 1 = m → i < x.2.2.2.2.1 → ∀ (w1 : List zE) (c1 : Int) (v3 : Value) (am1 ow1 cn1 : List Int), sC w1 q x ow1 sz rm am1 cn1 de → zF2 w w1 q → RO ow1 (clB am (x.2.2.2.2.2.1) i (BB wy)) → c1 + (clB am (x.2.2.2.2.2.1) i (BB wy)).length = (BB wy).length → (∀ j : Int, 0 ≤ j → (zgi am1 j = zgi am j ∨ (zgi am j = x.2.2.2.2.2.1 ∧ zgi am1 j = 0)) ∧ (j ≤ i → zgi am1 j = zgi am j)) →
      ∃ w' k1 hn1 cn1 B1 x' ow' am' cn' de', Zr sc 147 9 [zp q, zj c1, zj i, v3] [] w1 (some (zj 1)) w' 1 (de.length + 3) ∧ zFm w w' q 78 ∧ PD w' (q + 1) wy st hd D K HN CN BB (5, 0, 0) k1 hn1 cn1 B1 ∧ pLK w' q wy k1 hn1 B1 x' ow' sz rm am' cn' de' ∧ de'.length = de.length + 3 ∧ x'.1 = x.1 := by
    intro m
    induction m with
    | zero =>
      intro i hi hin w1 c1 v3 am1 ow1 cn1 h1 f1 r1 hc hm
      obtain ⟨g0, g1, g2, g3, g4, g5, g6, g7, ⟨l1, l2, l3, l4, l5⟩, g9⟩ := id h1
      obtain ⟨a1, a2⟩ := sC_x h1 (x' := (x.1, x.2.1, x.2.2.1, x.2.2.2.1, x.2.2.2.2.1, x.2.2.2.2.2.1 - 1, x.2.2.2.2.2.2.1, x.2.2.2.2.2.2.2.1, x.2.2.2.2.2.2.2.2)) rfl
      obtain ⟨w6, pk6, D6, de6, j1, j2, j3, j4, j5⟩ := zp_did (sc := sc) a1 (cl_ok _ _) r1 (by omega) hP (a := 5) (b := 0) (e := 0)
      have f6 : zF2 w w6 q := zF2_trans f1 (zF2_trans a2 (zF2_of j2 (by omega)))
      have hL6 := sL_ag (zF2_ag f6) hL
      obtain ⟨w7, k1, hn1, cn2, B1, m1, m2, m3⟩ := zl_close (sc := sc) hL6 hD (by omega)
      have j7 := sC_fm m2 (Nat.le_refl _) (by omega) j3
      obtain ⟨v1, v2, v3'⟩ : k1 = arF (K wy) ((K wy).2.2.2.2.1 - 1) ∧ hn1 = HN wy ∧ B1 = clB am (x.2.2.2.2.2.1) i (BB wy) := by
        rcases m3.1.2 with ⟨g, -⟩ | ⟨g, -⟩ | ⟨g, -⟩ | ⟨g, -⟩ | ⟨g, -⟩ | ⟨-, e1, e2, e3⟩
        · simp at g
        · simp at g
        · simp at g
        · simp at g
        · simp at g
        · refine ⟨e1, e2, ?_⟩
          rw [e3]
          unfold clB
          refine List.filter_congr fun y hy => ?_
          have gy := hok.2 y hy
          have ey : zgi am y.1 = zgi (K wy).2.2.2.2.2.2.2 y.1 := (hS y hy).2.2
          have hlt : i < y.1 := by omega
          simp only [hlt, decide_true, Bool.true_and, ey, hka]
      subst v1
      subst v2
      subst v3'
      have hle : (clB am (x.2.2.2.2.2.1) i (BB wy)).length ≤ (BB wy).length := List.length_filter_le _ _
      have hlk : pLK w7 q wy (arF (K wy) ((K wy).2.2.2.2.1 - 1)) (HN wy) (clB am (x.2.2.2.2.2.1) i (BB wy)) (x.1, x.2.1, x.2.2.1, x.2.2.2.1, x.2.2.2.2.1, x.2.2.2.2.2.1 - 1, x.2.2.2.2.2.2.1, pk6, D6) ow1 sz rm am1 cn1 de6 := by
        refine ⟨j7, ⟨x1, x2, x3, x4, by show x.2.2.2.2.2.1 - 1 = (K wy).2.2.2.2.1 - 1; omega, x6⟩, r1, fun y hy => ?_, fun j hj => ?_, j4, by show 0 ≤ (K wy).2.2.2.2.1 - 1 ∧ (K wy).2.2.2.2.1 - 1 ≤ 3; omega⟩
        · obtain ⟨y1, y2⟩ := clB_mem hy
          have gy := hok.2 y y1
          refine ⟨(hS y y1).1, (hS y y1).2.1, ?_⟩
          rcases (hm y.1 gy.1).1 with e | ⟨e, -⟩
          · rw [e]; exact (hS y y1).2.2
          · exact absurd ⟨by omega, e⟩ y2
        · rcases (hm j hj).1 with e | ⟨-, e⟩
          · rw [e]; exact hA j hj
          · rw [e]; omega
      exact ⟨w7, _, _, _, _, _, ow1, am1, cn1, de6, V147_9 g0 g4 g3 ⟨by omega, fun _ => ⟨w6, 1, de.length + 3, 0, 0, j1, ⟨rfl, rfl⟩, _, _, _, _, _, _, _, _, _, _, j3.1, by omega, fun q => by omega, fun _ => ⟨_, hL6.2.1, _, w7, m1, by omega, fun q => by omega, fun _ => V147_104 ⟨rfl, rfl, rfl, rfl⟩⟩⟩, fun q => by omega⟩, zF2_78 f6 m2, m3, hlk, j5, rfl⟩
    | succ m ih =>
      intro i hi hin w1 c1 v3 am1 ow1 cn1 h1 f1 r1 hc hm
      obtain ⟨g0, g1, g2, g3, g4, g5, g6, g7, ⟨l1, l2, l3, l4, l5⟩, g9⟩ := id h1
      have eam : zgi am1 i = zgi am i := (hm i (by omega)).2 (Int.le_refl _)
      have hai := hA i (by omega)
      by_cases ca : zgi am1 i = x.2.2.2.2.2.1
      · obtain ⟨s1, s2⟩ := sC_am h1 (am' := zsi am1 i 0) (by rw [zsi_len]; exact l4)
        have hm' : ∀ j : Int, 0 ≤ j → (zgi (zsi am1 i 0) j = zgi am j ∨ (zgi am j = x.2.2.2.2.2.1 ∧ zgi (zsi am1 i 0) j = 0)) ∧ (j ≤ i - 1 → zgi (zsi am1 i 0) j = zgi am j) := fun j hj => by
          rw [zgi_set (by omega) (by omega) hj]
          by_cases e : j = i
          · rw [if_pos e, e]
            exact ⟨Or.inr ⟨by omega, rfl⟩, fun q => by omega⟩
          · rw [if_neg e]
            exact ⟨(hm j hj).1, fun q => (hm j hj).2 (by omega)⟩
        by_cases cb : ∃ b ∈ BB wy, b.1 = i
        · obtain ⟨b, hb, eb⟩ := cb
          have gb := hok.2 b hb
          have hb2 : b ∈ clB am (x.2.2.2.2.2.1) i (BB wy) := by
            unfold clB
            rw [List.mem_filter]
            refine ⟨hb, ?_⟩
            have : ¬ (i < b.1) := by omega
            simp [this]
          have z0 := zp_place_t (sc := sc) s1 (cl_ok _ _) r1 hb2
          obtain ⟨X, Y, e⟩ := List.append_of_mem hb
          have hokX : okB (X ++ b :: Y) := e ▸ hok
          have hmX := okB_mid.mp hokX
          have e1 : clB am (x.2.2.2.2.2.1) i (BB wy) = clB am (x.2.2.2.2.2.1) i X ++ b :: clB am (x.2.2.2.2.2.1) i Y := by
            rw [e]
            unfold clB
            have : ¬ (i < b.1) := by omega
            rw [List.filter_append, List.filter_cons_of_pos (by simp [this])]
          have e2 : clB am (x.2.2.2.2.2.1) (i - 1) (BB wy) = clB am (x.2.2.2.2.2.1) i X ++ clB am (x.2.2.2.2.2.1) i Y := by
            have eX : clB am (x.2.2.2.2.2.1) (i - 1) X = clB am (x.2.2.2.2.2.1) i X := clB_same fun y hy _ => by
              have := (hmX.2.1 y hy).1
              omega
            have eY : clB am (x.2.2.2.2.2.1) (i - 1) Y = clB am (x.2.2.2.2.2.1) i Y := clB_same fun y hy _ => by
              have := (hmX.2.2.1 y hy).1
              omega
            rw [← eX, ← eY, e]
            unfold clB
            have t1 : i - 1 < b.1 := by omega
            have t2 : zgi am b.1 = x.2.2.2.2.2.1 := by rw [eb]; omega
            rw [List.filter_append, List.filter_cons_of_neg (by simp [t1, t2])]
          have hsub : ∀ y ∈ clB am (x.2.2.2.2.2.1) i (BB wy), y ∈ BB wy := fun y hy => (clB_mem hy).1
          obtain ⟨w5, ow5, cn5, n1, n2, n3, n4, n5⟩ := zp_give (sc := sc) s1 x1 hw6 (e1 ▸ cl_ok _ _) (e1 ▸ gc_sub hg hsub) (e1 ▸ r1) (fun y hy => (hS y (hsub y (e1 ▸ hy))).2.1)
          rw [← e2] at n5
          have hl1 : (clB am (x.2.2.2.2.2.1) i (BB wy)).length = (clB am (x.2.2.2.2.2.1) (i - 1) (BB wy)).length + 1 := by
            rw [e1, e2]
            simp only [List.length_append, List.length_cons]
            omega
          obtain ⟨w', k1, hn1, cn2, B1, x', ow', am', cn', de', m1, m2⟩ := ih (i - 1) (by omega) (by omega) w5 (c1 + 1) (zj b.2.1) _ ow5 cn5 n3 (zF2_trans f1 (zF2_trans s2 (zF2_of n2 (by omega)))) n5 (by omega) hm'
          rw [eb] at z0
          have hrb := (hS b hb).2.1
          rw [eb] at hrb
          exact ⟨w', k1, hn1, cn2, B1, x', ow', am', cn', de', V147_9 g0 g4 g3 ⟨by omega, fun q => by omega, fun _ => ⟨by omega, by omega, fun _ => ⟨by omega, _, z0, by omega, fun _ => ⟨by omega, w5, by rw [hrb]; exact n1, V147_63 m1⟩, fun q => by omega⟩, fun q => absurd ca q⟩⟩, m2⟩
        · have e2 : clB am (x.2.2.2.2.2.1) (i - 1) (BB wy) = clB am (x.2.2.2.2.2.1) i (BB wy) := clB_same fun y hy _ => by
            have : y.1 ≠ i := fun e => cb ⟨y, hy, e⟩
            omega
          have z0 := zp_place_f (sc := sc) s1 (cl_ok _ _) r1 (n := i) (by omega) (fun y hy e => cb ⟨y, (clB_mem hy).1, e⟩)
          obtain ⟨w', k1, hn1, cn2, B1, x', ow', am', cn', de', m1, m2⟩ := ih (i - 1) (by omega) (by omega) _ c1 (zj (-1)) _ ow1 cn1 s1 (zF2_trans f1 s2) (by rw [e2]; exact r1) (by rw [e2]; exact hc) hm'
          exact ⟨w', k1, hn1, cn2, B1, x', ow', am', cn', de', V147_9 g0 g4 g3 ⟨by omega, fun q => by omega, fun _ => ⟨by omega, by omega, fun _ => ⟨by omega, _, z0, by omega, fun q => by omega, fun _ => V147_63 m1⟩, fun q => absurd ca q⟩⟩, m2⟩
      · have e2 : clB am (x.2.2.2.2.2.1) (i - 1) (BB wy) = clB am (x.2.2.2.2.2.1) i (BB wy) := clB_same fun y hy e => by
          have : y.1 ≠ i := fun e' => by rw [e'] at e; omega
          omega
        obtain ⟨w', k1, hn1, cn2, B1, x', ow', am', cn', de', m1, m2⟩ := ih (i - 1) (by omega) (by omega) w1 c1 v3 am1 ow1 cn1 h1 f1 (by rw [e2]; exact r1) (by rw [e2]; exact hc) (fun j hj => ⟨(hm j hj).1, fun q => (hm j hj).2 (by omega)⟩)
        exact ⟨w', k1, hn1, cn2, B1, x', ow', am', cn', de', V147_9 g0 g4 g3 ⟨by omega, fun q => by omega, fun _ => ⟨by omega, by omega, fun q => absurd q ca, fun _ => V147_63 m1⟩⟩, m2⟩
  have e0 : clB am (x.2.2.2.2.2.1) (x.2.2.2.2.1 - 1) (BB wy) = BB wy := by
    unfold clB
    rw [List.filter_eq_self]
    intro y hy
    have := hnmB y hy
    have : ¬ (x.2.2.2.2.1 - 1 < y.1) := by omega
    simp [this]
  obtain ⟨w', k1, hn1, cn1, B1, x', ow', am', cn', de', m1, m2, m3, m4, m5, m6⟩ := loop (x.2.2.2.2.1).toNat (x.2.2.2.2.1 - 1) (by omega) (by omega) w 0 zmk am ow cn hC (zF2_refl _ _) (by rw [e0]; exact hR) (by rw [e0]; omega) (fun j hj => ⟨Or.inl rfl, fun _ => rfl⟩)
  exact ⟨w', 1, de.length + 3, _, k1, hn1, cn1, B1, x', ow', _, _, am', cn', de', Zc_of rfl rfl (V147_0 hC.1 m1), by omega, by omega, m2, m3.1, LK_of m3 m4 (by omega), m6⟩
end CLO
