/-! ===== the pool beside the lab: another size ===== -/
section RSZ
variable {sc : List Value} {w w' : List zE} {q : Nat} {x x' : ps_T} {ow ow' sz rm am cn de : List Int} {B B' X Y : List bk_T} {S : List Int} {wy : Nat} {st hd : Int} {D : List dd_T} {K : Nat → mk_T} {HN : Nat → Int} {CN : Nat → List Int} {BB : Nat → List bk_T}
theorem fit_iff {c : Nat} {b : bk_T} {N : Int} (hok : okB (X ++ b :: Y)) : fitB c N b Y ↔ c = 2 ∧ (N < b.2.2.2 ∨ (b.2.1 + N ≤ 1024 ∧ ∀ y ∈ X ++ b :: Y, b.2.1 < y.2.1 → b.2.1 + N ≤ y.2.1)) := by
  have hm := okB_mid.mp hok
  unfold fitB
  constructor
  · rintro ⟨h1, h2 | ⟨h2, h3⟩⟩
    · exact ⟨h1, Or.inl h2⟩
    · refine ⟨h1, Or.inr ⟨h2, fun y hy hlt => ?_⟩⟩
      rcases mem_mid.mp hy with hy | rfl
      · rcases List.mem_append.mp hy with h | h
        · have := hm.2.1 y h
          have := (hm.1.2 y hy)
          omega
        · exact h3 y h
      · omega
  · rintro ⟨h1, h2 | ⟨h2, h3⟩⟩
    · exact ⟨h1, Or.inl h2⟩
    · refine ⟨h1, Or.inr ⟨h2, fun y hy => h3 y (mem_mid.mpr (Or.inl (List.mem_append.mpr (Or.inr hy)))) ?_⟩⟩
      have := hm.2.2.1 y hy
      omega
/-- what a new size is to the lab -/
theorem rz_what {l : Nat} (hok : okB (BB wy)) {b : bk_T} (hb : b ∈ BB wy) {z : Int} {k1 : mk_T} {hn1 : Int} {cn1 : List Int} {B1 : List bk_T} (pd : PD w l wy st hd D K HN CN BB (2, b.1, z) k1 hn1 cn1 B1) : k1 = K wy ∧
    ((hn1 = HN wy ∧ (∀ y, y ∈ B1 ↔ (y ∈ BB wy ∧ y.1 ≠ b.1) ∨ y = (b.1, b.2.1, z, rmF (clsL wy) (K wy) z)) ∧ (rmF (clsL wy) (K wy) z = b.2.2.2 ∨ (clsL wy = 2 ∧ (rmF (clsL wy) (K wy) z < b.2.2.2 ∨ (b.2.1 + rmF (clsL wy) (K wy) z ≤ 1024 ∧ ∀ y ∈ BB wy, b.2.1 < y.2.1 → b.2.1 + rmF (clsL wy) (K wy) z ≤ y.2.1))))) ∨
     (¬ (rmF (clsL wy) (K wy) z = b.2.2.2 ∨ (clsL wy = 2 ∧ (rmF (clsL wy) (K wy) z < b.2.2.2 ∨ (b.2.1 + rmF (clsL wy) (K wy) z ≤ 1024 ∧ ∀ y ∈ BB wy, b.2.1 < y.2.1 → b.2.1 + rmF (clsL wy) (K wy) z ≤ y.2.1)))) ∧ ∃ p, selP (clsL wy) (K wy).1 (HN wy) (holF (clsL wy) (BB wy)) (rmF (clsL wy) (K wy) z) p ∧ ((p = -1 ∧ B1 = BB wy ∧ hn1 = HN wy) ∨ (0 ≤ p ∧ hn1 = hnF (K wy).1 (HN wy) p (rmF (clsL wy) (K wy) z) ∧ ∀ y, y ∈ B1 ↔ (y ∈ BB wy ∧ y.1 ≠ b.1) ∨ y = (b.1, p, z, rmF (clsL wy) (K wy) z))))) := by
  rcases pd.1.2 with ⟨g, -⟩ | ⟨g, -⟩ | ⟨-, e, ⟨g, -⟩ | ⟨b0, e0, X, Y, e1, h⟩⟩ | ⟨g, -⟩ | ⟨g, -⟩ | ⟨g, -⟩
  · simp at g
  · simp at g
  · exact absurd rfl (g b hb)
  · have eb : b0 = b := okB_inj hok (by rw [e1]; exact mem_mid.mpr (Or.inr rfl)) hb e0
    subst eb
    refine ⟨e, ?_⟩
    have hokX := e1 ▸ hok
    have hfit := fit_iff (c := clsL wy) (N := rmF (clsL wy) (K wy) z) hokX
    rw [← e1] at hfit
    rcases h with ⟨h1, h2, h3⟩ | ⟨h1, h2, h3⟩
    · refine Or.inl ⟨h1, fun y => ?_, h3.imp id fun h => hfit.mp h⟩
      rw [h2, mem_mid, mem_drop hokX, ← e1]
      rfl
    · refine Or.inr ⟨fun h => h.elim h1 fun h => h2 (hfit.mpr h), ?_⟩
      rcases h3 with ⟨f1, f2, f3⟩ | ⟨p, Z1, Z2, f1, f2, f3, f4, f5⟩
      · exact ⟨-1, f3, Or.inl ⟨rfl, f1, f2⟩⟩
      · refine ⟨p, f2, Or.inr ⟨f1, f5, fun y => ?_⟩⟩
        rw [f4, mem_mid, ← f3, mem_drop hokX, ← e1]
        rfl
  all_goals simp at g
theorem RO_move {b : bk_T} {pl z N : Int} {B1 : List bk_T} (hok : okB B) (hr : RO ow B) (hb : b ∈ B) (hok1 : okB B1) (hM : ∀ y, y ∈ B1 ↔ (y ∈ B ∧ y.1 ≠ b.1) ∨ y = (b.1, pl, z, N)) (hf : ∀ u : Int, 0 ≤ u → zgi ow' u = if pl ≤ u ∧ u < pl + N then b.1 else if b.2.1 ≤ u ∧ u < b.2.1 + b.2.2.2 then -1 else zgi ow u) : RO ow' B1 := by
  have hnew : ((b.1, pl, z, N) : bk_T) ∈ B1 := (hM _).mpr (Or.inr rfl)
  refine ⟨fun y hy u u0 u1 => ?_, fun u u0 u1 hno => ?_⟩
  · have gy := hok1.2 y hy
    rw [hf u (by omega)]
    rcases (hM y).mp hy with ⟨h1, h2⟩ | h1
    · have d1 := okB_dis hok1 hy hnew (fun e => h2 (by rw [e]))
      have d2 := okB_dis hok h1 hb (fun e => h2 (by rw [e]))
      dsimp only at d1
      rw [if_neg (by omega), if_neg (by omega)]
      exact hr.1 y h1 u u0 u1
    · rw [h1] at u0 u1 ⊢
      rw [if_pos ⟨u0, u1⟩]
  · rw [hf u u0]
    have := hno _ hnew
    dsimp only at this
    rw [if_neg this]
    by_cases c : b.2.1 ≤ u ∧ u < b.2.1 + b.2.2.2
    · rw [if_pos c]
    · rw [if_neg c]
      refine hr.2 u u0 u1 fun y hy hc => ?_
      by_cases e : y.1 = b.1
      · have := okB_inj hok hy hb e
        subst this
        exact c hc
      · exact hno y ((hM y).mpr (Or.inl ⟨hy, e⟩)) hc
theorem rs_tail (h : LK w q wy st hd D K HN CN BB x ow sz rm am cn de) (hD : D.length < 150) {b : bk_T} (hb : b ∈ BB wy) {z : Int} (hz : 1 ≤ z ∧ z ≤ 300) {pl hnx x6 : Int}
    (what : ∀ {w0 : List zE} {k1 : mk_T} {hn1 : Int} {cn1 : List Int} {B1 : List bk_T}, PD w0 (q + 1) wy st hd D K HN CN BB (2, b.1, z) k1 hn1 cn1 B1 → k1 = K wy ∧ hn1 = hnx ∧ ((0 ≤ pl ∧ ∀ y, y ∈ B1 ↔ (y ∈ BB wy ∧ y.1 ≠ b.1) ∨ y = (b.1, pl, z, rmF (clsL wy) (K wy) z)) ∨ (pl = -1 ∧ B1 = BB wy)))
    {w5 : List zE} {ow5 rm' cn5 : List Int} (h5 : sC w5 q (xhF x hnx) ow5 sz rm' am cn5 de) (f5 : zF2 w w5 q) (hrm' : ∀ i : Int, 0 ≤ i → i ≠ 80 → zgi rm' i = zgi rm i) (how : 0 ≤ pl → ∀ u : Int, 0 ≤ u → zgi ow5 u = if pl ≤ u ∧ u < pl + rmF (clsL wy) (K wy) z then b.1 else if b.2.1 ≤ u ∧ u < b.2.1 + b.2.2.2 then -1 else zgi ow u) (how2 : pl = -1 → ow5 = ow) :
    ∃ w' k1 hn1 cn1 B1 x' sz' rm' cn' de', Zr sc 143 305 [zp q, zj b.1, zj z, zj b.2.1, zj (rmF (clsL wy) (K wy) z), zj b.2.2.2, zj x6, zj pl] [] w5 (some (zj 1)) w' 1 (de.length + 3) ∧ zFm w w' q 78 ∧ PD w' (q + 1) wy st hd D K HN CN BB (2, b.1, z) k1 hn1 cn1 B1 ∧ pLK w' q wy k1 hn1 B1 x' ow5 sz' rm' am cn' de' ∧ de'.length = de.length + 3 ∧ x'.1 = x.1 := by
  obtain ⟨hL, ⟨hC, ⟨x1, x2, x3, x4, x5, x6'⟩, hR, hS, hA, hP, ha⟩, hde⟩ := id h
  obtain ⟨hok, hg, hhn, hk, hnmB, hw6, hkw, hrm⟩ := sL_facts hL
  have k4 : (K wy).2.2.2.1 ≤ 80 := hk.2.2.2.1.2
  have gb := hok.2 b hb
  have nb := hnmB b hb
  obtain ⟨w0, k0, hn0, cn0, B0, b0, -, -, -, -, pd0⟩ := zl_resize (sc := sc) hL hD hb nb hz
  obtain ⟨u1, u2, u3⟩ := what pd0
  have fk0 := PD_facts pd0
  have r5 : RO ow5 B0 := by
    rcases u3 with ⟨p1, p2⟩ | ⟨p1, p2⟩
    · exact RO_move hok hR hb fk0.1 p2 (how p1)
    · rw [p2, how2 p1]; exact hR
  obtain ⟨g0, g1, g2, g3, g4, g5, g6, g7, ⟨l1, l2, l3, l4, l5⟩, g9⟩ := id h5
  -- what the deed writes, and the lab's own
  have deed : ∀ (w6 : List zE) (sz6 rm6 : List Int), sC w6 q (xhF x hnx) ow5 sz6 rm6 am cn5 de → zF2 w w6 q → (0 ≤ pl → zgi sz6 b.1 = z ∧ zgi rm6 b.1 = rmF (clsL wy) (K wy) z) → (pl = -1 → zgi sz6 b.1 = b.2.2.1 ∧ zgi rm6 b.1 = b.2.2.2) → (∀ y ∈ BB wy, y.1 ≠ b.1 → zgi sz6 y.1 = y.2.2.1 ∧ zgi rm6 y.1 = y.2.2.2) →
      ∃ w' k1 hn1 cn1 B1 x' cn' de', Zr sc 143 325 [zp q, zj b.1, zj z, zj b.2.1, zj (rmF (clsL wy) (K wy) z), zj b.2.2.2, zj x6, zj pl] [] w6 (some (zj 1)) w' 1 (de.length + 3) ∧ zFm w w' q 78 ∧ PD w' (q + 1) wy st hd D K HN CN BB (2, b.1, z) k1 hn1 cn1 B1 ∧ pLK w' q wy k1 hn1 B1 x' ow5 sz6 rm6 am cn' de' ∧ de'.length = de.length + 3 ∧ x'.1 = x.1 := fun w6 sz6 rm6 h6 f6 e1 e2 e3 => by
    obtain ⟨-, L2, L3, -, -⟩ := h6.2.2.2.2.2.2.2.2.1
    obtain ⟨w7, pk7, D7, de7, j1, j2, j3, j4, j5⟩ := zp_did (sc := sc) h6 fk0.1 r5 (by omega) hP (a := 2) (b := b.1) (e := z)
    have f7 : zF2 w w7 q := zF2_trans f6 (zF2_of j2 (by omega))
    have hL7 := sL_ag (zF2_ag f7) hL
    obtain ⟨w8, k1, hn1, cn1, B1, b', b1, b2, m1, m2, m3⟩ := zl_resize (sc := sc) hL7 hD hb nb hz
    have j8 := sC_fm m2 (Nat.le_refl _) (by omega) j3
    obtain ⟨v1, v2, v3⟩ := what m3
    have emem : ∀ y, y ∈ B1 ↔ y ∈ B0 := fun y => by
      rcases u3 with ⟨p1, p2⟩ | ⟨p1, p2⟩ <;> rcases v3 with ⟨q1, q2⟩ | ⟨q1, q2⟩
      · rw [p2, q2]
      · omega
      · omega
      · rw [p2, q2]
    subst v1
    subst v2
    have hlk : pLK w8 q wy (K wy) hn1 B1 (x.1, x.2.1, x.2.2.1, x.2.2.2.1, x.2.2.2.2.1, x.2.2.2.2.2.1, hn1, pk7, D7) ow5 sz6 rm6 am cn5 de7 := by
      refine ⟨j8, ⟨x1, x2, x3, x4, x5, rfl⟩, RO_mem emem r5, fun y hy => ?_, hA, j4, ha⟩
      rcases v3 with ⟨q1, q2⟩ | ⟨q1, q2⟩
      · rcases (q2 y).mp hy with ⟨y1, y2⟩ | y1
        · exact ⟨(e3 y y1 y2).1, (e3 y y1 y2).2, (hS y y1).2.2⟩
        · rw [y1]
          exact ⟨(e1 q1).1, (e1 q1).2, (hS b hb).2.2⟩
      · rw [q2] at hy
        by_cases e : y.1 = b.1
        · have := okB_inj hok hy hb e
          subst this
          exact ⟨(e2 q1).1, (e2 q1).2, (hS y hb).2.2⟩
        · exact ⟨(e3 y hy e).1, (e3 y hy e).2, (hS y hy).2.2⟩
    have hb1 : b' ∈ newU BB wy B1 wy := by rw [newU_at]; exact b1
    have gb' := (PD_facts m3).1.2 b' b1
    have nb' : b'.1 < (newU K wy (dnF (pkF (K wy) (max (K wy).2.2.2.2.2.1 (sumR B1))) (D ++ [(2, b.1, z)]).length) wy).2.2.2.1 := by
      rw [newU_at, b2]
      exact nb
    have t1 := zl_size_t (sc := sc) m3.2 hb1 nb'
    have t2 := zl_room_t (sc := sc) m3.2 hb1 nb'
    rw [b2] at t1 t2
    refine ⟨w8, _, _, _, _, _, cn5, de7, ?_, zF2_78 f7 m2, m3, hlk, j5, rfl⟩
    rcases v3 with ⟨q1, q2⟩ | ⟨q1, q2⟩
    · have eb : b' = (b.1, pl, z, rmF (clsL wy) (K wy) z) := by
        rcases (q2 b').mp b1 with ⟨-, y2⟩ | y1
        · exact absurd b2 y2
        · exact y1
      have o1 : b'.2.1 = pl := by rw [eb]
      have o2 : b'.2.2.1 = z := by rw [eb]
      have o3 : b'.2.2.2 = rmF (clsL wy) (K wy) z := by rw [eb]
      have o4 := e1 q1
      exact V143_325 h6.1 ⟨w7, 1, de.length + 3, 0, 0, j1, ⟨rfl, rfl⟩, _, _, _, _, _, _, _, _, _, _, j3.1, by omega, fun q => by omega, fun _ => ⟨_, hL7.2.1, _, w8, m1, by omega, fun _ => ⟨by omega, fun q => absurd o1 q, fun _ => ⟨_, _, _, _, _, _, _, _, _, _, j8.1, _, m3.2.2.1, _, t1, _, j8.2.2.1, by omega, by omega, fun q => absurd (o2.trans o4.1.symm) q, fun _ => ⟨_, t2, _, j8.2.2.2.1, by omega, by omega, fun q => absurd (o3.trans o4.2.symm) q, fun _ => ⟨rfl, rfl, rfl, rfl⟩⟩⟩⟩, fun q => absurd q1 q⟩⟩
    · have eb : b' = b := okB_inj hok (by rw [q2] at b1; exact b1) hb b2
      have o1 : b'.2.1 = b.2.1 := by rw [eb]
      have o2 : b'.2.2.1 = b.2.2.1 := by rw [eb]
      have o3 : b'.2.2.2 = b.2.2.2 := by rw [eb]
      have o4 := e2 q1
      exact V143_325 h6.1 ⟨w7, 1, de.length + 3, 0, 0, j1, ⟨rfl, rfl⟩, _, _, _, _, _, _, _, _, _, _, j3.1, by omega, fun q => by omega, fun _ => ⟨_, hL7.2.1, _, w8, m1, by omega, fun q => by omega, fun _ => ⟨by omega, fun q => absurd o1 q, fun _ => ⟨_, _, _, _, _, _, _, _, _, _, j8.1, _, m3.2.2.1, _, t1, _, j8.2.2.1, by omega, by omega, fun q => absurd (o2.trans o4.1.symm) q, fun _ => ⟨_, t2, _, j8.2.2.2.1, by omega, by omega, fun q => absurd (o3.trans o4.2.symm) q, fun _ => ⟨rfl, rfl, rfl, rfl⟩⟩⟩⟩⟩⟩
  have hrange : pl = -1 ∨ (0 ≤ pl ∧ pl ≤ 1024) := by
    rcases u3 with ⟨p1, p2⟩ | ⟨p1, p2⟩
    · have := fk0.1.2 _ ((p2 _).mpr (Or.inr rfl))
      dsimp only at this
      omega
    · omega
  by_cases c0 : pl < 0
  · obtain ⟨w', k1, hn1, cn1, B1, x', cn', de', m1, m2, m3, m4, m5⟩ := deed w5 sz rm' h5 f5 (fun q => by omega) (fun _ => ⟨(hS b hb).1, by rw [hrm' _ (by omega) (by omega)]; exact (hS b hb).2.1⟩) (fun y hy _ => by
      have gy := hok.2 y hy
      have := hnmB y hy
      exact ⟨(hS y hy).1, by rw [hrm' _ (by omega) (by omega)]; exact (hS y hy).2.1⟩)
    exact ⟨w', k1, hn1, cn1, B1, x', _, _, cn', de', V143_305 g0 g2 g3 ⟨by omega, fun _ => m1, fun q => absurd c0 q⟩, m2, m3, m4, m5⟩
  · obtain ⟨s1, s2⟩ := sC_sz h5 (sz' := zsi sz b.1 z) (by rw [zsi_len]; exact l2)
    obtain ⟨s3, s4⟩ := sC_rm s1 (rm' := zsi rm' b.1 (rmF (clsL wy) (K wy) z)) (by rw [zsi_len]; exact l3)
    obtain ⟨w', k1, hn1, cn1, B1, x', cn', de', m1, m2, m3, m4, m5⟩ := deed _ _ _ s3 (zF2_trans f5 (zF2_trans s2 s4)) (fun _ => by
      rw [zgi_set (by omega) (by omega) (by omega), if_pos rfl, zgi_set (by omega) (by omega) (by omega), if_pos rfl]
      exact ⟨rfl, rfl⟩) (fun q => by omega) (fun y hy hne => by
      have gy := hok.2 y hy
      have := hnmB y hy
      rw [zgi_set (by omega) (by omega) (by omega), if_neg hne, zgi_set (by omega) (by omega) (by omega), if_neg hne, hrm' _ (by omega) (by omega)]
      exact ⟨(hS y hy).1, (hS y hy).2.1⟩)
    exact ⟨w', k1, hn1, cn1, B1, x', _, _, cn', de', V143_305 g0 g2 g3 ⟨by omega, fun q => absurd q c0, fun _ => ⟨by omega, by omega, m1⟩⟩, m2, m3, m4, m5⟩
end RSZ
