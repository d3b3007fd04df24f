/-! ===== the pool beside the lab: giving back, opening ===== -/
section GIV
variable {sc : List Value} {w w' : List zE} {q : Nat} {x x' : ps_T} {ow ow' sz rm am cn de : List Int} {B B' X Y : List bk_T} {S : List Int} {wy : Nat} {st hd : Int} {D : List dd_T} {K : Nat → mk_T} {HN : Nat → Int} {CN : Nat → List Int} {BB : Nat → List bk_T}
theorem mem_drop {b : bk_T} (hok : okB (X ++ b :: Y)) (y : bk_T) : y ∈ X ++ Y ↔ y ∈ X ++ b :: Y ∧ y.1 ≠ b.1 := by
  have hm := okB_mid.mp hok
  rw [mem_mid]
  constructor
  · intro hy
    refine ⟨Or.inl hy, ?_⟩
    rcases List.mem_append.mp hy with h | h
    · exact fun e => (hm.2.1 y h).1 e
    · exact fun e => (hm.2.2.1 y h).1 e.symm
  · rintro ⟨h | h, h2⟩
    · exact h
    · rw [h] at h2
      exact absurd rfl h2
theorem zF2_78 {w w6 w7 : List zE} (f6 : zF2 w w6 q) (m2 : zFm w6 w7 (q + 1) 72) : zFm w w7 q 78 :=
  ⟨Nat.le_trans f6.1 m2.1, fun b hb h1 => by rw [m2.2 b (Nat.lt_of_lt_of_le hb f6.1) (by omega)]; exact f6.2 b hb (by omega) (by omega)⟩
theorem zp_giveBack (h : LK w q wy st hd D K HN CN BB x ow sz rm am cn de) (hD : D.length < 150) {b : bk_T} (hb : b ∈ BB wy) : actR sc w q wy st hd D K HN CN BB x 139 [zp q, zj b.1] := by
  obtain ⟨hL, ⟨hC, ⟨x1, x2, x3, x4, x5, x6⟩, hR, hS, hA, hP, ha⟩, hde⟩ := id h
  obtain ⟨hok, hg, hhn, hk, hnmB, hw6, hkw, hrm⟩ := sL_facts hL
  obtain ⟨g0, g1, g2, g3, g4, g5, g6, g7, ⟨l1, l2, l3, l4, l5⟩, g9⟩ := id hC
  have k4 : (K wy).2.2.2.1 ≤ 80 := hk.2.2.2.1.2
  have gb := hok.2 b hb
  have nb := hnmB b hb
  have z0 := zp_place_t (sc := sc) hC hok hR hb
  obtain ⟨X, Y, e⟩ := List.append_of_mem hb
  have hokX : okB (X ++ b :: Y) := e ▸ hok
  obtain ⟨w5, ow5, cn5, n1, n2, n3, n4, n5⟩ := zp_give (sc := sc) hC x1 hw6 hokX (e ▸ hg) (e ▸ hR) (fun y hy => (hS y (e ▸ hy)).2.1)
  have hokM := (okB_mid.mp hokX).1
  obtain ⟨w6, pk6, D6, de6, j1, j2, j3, j4, j5⟩ := zp_did (sc := sc) n3 hokM n5 (by omega) hP (a := 1) (b := b.1) (e := 0)
  have f6 : zF2 w w6 q := zF2_trans (zF2_of n2 (by omega)) (zF2_of j2 (by omega))
  have hL6 := sL_ag (zF2_ag f6) hL
  obtain ⟨w7, k1, hn1, cn1, B1, m1, m2, m3⟩ := zl_giveBack (sc := sc) hL6 hD hb nb
  have j7 := sC_fm m2 (Nat.le_refl _) (by omega) j3
  obtain ⟨v1, v2, v3⟩ : k1 = K wy ∧ hn1 = HN wy ∧ ∀ y, y ∈ B1 ↔ y ∈ X ++ Y := by
    rcases m3.1.2 with ⟨g, -⟩ | ⟨-, e1, e2, ⟨f1, -⟩ | ⟨X', b', Y', f1, f2, f3⟩⟩ | ⟨g, -⟩ | ⟨g, -⟩ | ⟨g, -⟩ | ⟨g, -⟩
    · simp at g
    · exact absurd rfl (f1 b hb)
    · refine ⟨e1, e2, fun y => ?_⟩
      have f2 : b'.1 = b.1 := f2
      rw [f3, mem_drop (f1 ▸ hok), mem_drop hokX, ← f1, ← e, f2]
    all_goals simp at g
  have hsub : ∀ y ∈ B1, y ∈ BB wy := fun y hy => by
    rw [e]
    exact ((mem_drop hokX y).mp ((v3 y).mp hy)).1
  subst v1
  subst v2
  have hlk : pLK w7 q wy (K wy) (HN wy) B1 (x.1, x.2.1, x.2.2.1, x.2.2.2.1, x.2.2.2.2.1, x.2.2.2.2.2.1, x.2.2.2.2.2.2.1, pk6, D6) ow5 sz rm am cn5 de6 :=
    ⟨j7, ⟨x1, x2, x3, x4, x5, x6⟩, RO_mem v3 n5, fun y hy => hS y (hsub y hy), hA, j4, ha⟩
  have no : ∀ y ∈ newU BB wy B1 wy, y.1 ≠ b.1 := fun y hy => by
    rw [newU_at] at hy
    exact ((mem_drop hokX y).mp ((v3 y).mp hy)).2
  have t1 := zl_isThere_f (sc := sc) m3.2 (n := b.1) ⟨gb.1, by rw [newU_at]; exact nb⟩ no
  have hrb := (hS b hb).2.1
  exact ⟨w7, 1, de.length + 3, _, _, _, _, _, _, ow5, sz, rm, am, cn5, de6, Zc_of rfl rfl (V139_0 g0 g3 ⟨_, z0, by omega, fun q => by omega, fun _ => ⟨by omega, w5, by rw [hrb]; exact n1, V139_21 n3.1 ⟨w6, 1, de.length + 3, 0, 0, j1, ⟨rfl, rfl⟩, _, _, _, _, _, _, _, _, _, _, j3.1, by omega, fun q => by omega, fun _ => ⟨_, hL6.2.1, _, w7, m1, _, _, _, _, _, _, _, _, _, _, j7.1, _, j7.2.2.2.1, by omega, by omega, fun q => absurd hrb.symm q, fun _ => ⟨_, m3.2.2.1, _, t1, by omega, fun q => by omega, fun _ => ⟨rfl, rfl, rfl, rfl⟩⟩⟩⟩⟩⟩), by omega, by omega, zF2_78 f6 m2, m3.1, LK_of m3 hlk (by omega), rfl⟩
theorem zp_open (h : LK w q wy st hd D K HN CN BB x ow sz rm am cn de) (hD : D.length < 150) (ha3 : x.2.2.2.2.2.1 < 3) : actR sc w q wy st hd D K HN CN BB x 145 [zp q] := by
  obtain ⟨hL, ⟨hC, ⟨x1, x2, x3, x4, x5, x6⟩, hR, hS, hA, hP, ha⟩, hde⟩ := id h
  obtain ⟨hok, hg, hhn, hk, hnmB, hw6, hkw, hrm⟩ := sL_facts hL
  obtain ⟨g0, g1, g2, g3, g4, g5, g6, g7, ⟨l1, l2, l3, l4, l5⟩, g9⟩ := id hC
  have hka : x.2.2.2.2.2.1 = (K wy).2.2.2.2.1 := x5
  obtain ⟨a1, a2⟩ := sC_x hC (x' := (x.1, x.2.1, x.2.2.1, x.2.2.2.1, x.2.2.2.2.1, x.2.2.2.2.2.1 + 1, x.2.2.2.2.2.2.1, x.2.2.2.2.2.2.2.1, x.2.2.2.2.2.2.2.2)) rfl
  obtain ⟨w6, pk6, D6, de6, j1, j2, j3, j4, j5⟩ := zp_did (sc := sc) a1 hok hR (by omega) hP (a := 4) (b := 0) (e := 0)
  have f6 : zF2 w w6 q := zF2_trans a2 (zF2_of j2 (by omega))
  have hL6 := sL_ag (zF2_ag f6) hL
  obtain ⟨w7, k1, hn1, cn1, B1, m1, m2, m3⟩ := zl_open (sc := sc) hL6 hD (by omega)
  have j7 := sC_fm m2 (Nat.le_refl _) (by omega) j3
  obtain ⟨v1, v2, v3⟩ : k1 = arF (K wy) ((K wy).2.2.2.2.1 + 1) ∧ hn1 = HN wy ∧ B1 = BB wy := by
    rcases m3.1.2 with ⟨g, -⟩ | ⟨g, -⟩ | ⟨g, -⟩ | ⟨g, -⟩ | ⟨-, e1, e2, -, e3⟩ | ⟨g, -⟩
    · simp at g
    · simp at g
    · simp at g
    · simp at g
    · exact ⟨e1, e2, e3⟩
    · simp at g
  subst v1
  subst v2
  subst v3
  have hlk : pLK w7 q wy (arF (K wy) ((K wy).2.2.2.2.1 + 1)) (HN wy) (BB wy) (x.1, x.2.1, x.2.2.1, x.2.2.2.1, x.2.2.2.2.1, x.2.2.2.2.2.1 + 1, x.2.2.2.2.2.2.1, pk6, D6) ow sz rm am cn de6 :=
    ⟨j7, ⟨x1, x2, x3, x4, by show x.2.2.2.2.2.1 + 1 = (K wy).2.2.2.2.1 + 1; omega, x6⟩, hR, hS, hA, j4, by show 0 ≤ (K wy).2.2.2.2.1 + 1 ∧ (K wy).2.2.2.2.1 + 1 ≤ 3; omega⟩
  exact ⟨w7, 1, de.length + 3, _, _, _, _, _, _, ow, sz, rm, am, cn, de6, Zc_of rfl rfl (V145_0 g0 ⟨w6, 1, de.length + 3, 0, 0, j1, ⟨rfl, rfl⟩, _, _, _, _, _, _, _, _, _, _, j3.1, by omega, fun q => by omega, fun _ => ⟨_, hL6.2.1, _, w7, m1, _, _, _, _, _, _, _, _, _, _, j7.1, ⟨by omega, by show zrg (x.2.2.2.2.2.1 + 1); omega⟩, fun q => absurd (by show _ = x.2.2.2.2.2.1 + 1; omega) q, fun _ => ⟨rfl, rfl, rfl, rfl⟩⟩⟩), by omega, by omega, zF2_78 f6 m2, m3.1, LK_of m3 hlk (by omega), rfl⟩
end GIV
