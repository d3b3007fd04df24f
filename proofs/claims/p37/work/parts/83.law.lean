/-! ===== the law's own loops: the second digest, a question, an answer; a whole turn ===== -/
section LWE
variable {sc : List Value} {w w' w2 : List zE} {q a4 a6 : Nat} {x x' : ps_T} {ow ow' sz rm am cn de : List Int} {B B' X Y : List bk_T} {S : List Int} {wy : Nat} {st hd : Int} {D : List dd_T} {K K' : Nat → mk_T} {HN HN' : Nat → Int} {CN CN' : Nat → List Int} {BB BB' : Nat → List bk_T}
def lwI (w : List zE) (q a4 wy : Nat) (st hd : Int) (nD : Nat) (nN lim : Int) : Prop :=
  ∃ D K HN CN BB x ow sz rm am cn de A, LK w q wy st hd D K HN CN BB x ow sz rm am cn de ∧ w[a4]? = some (za A) ∧ A.length = 5 ∧ (∀ j : Int, 0 ≤ j → j ≤ 4 → zgi A j = zgi (CN wy) j) ∧ D.length ≤ nD ∧ (K wy).2.2.2.1 ≤ nN ∧ 0 ≤ x.1 ∧ x.1 ≤ lim
theorem LK_app (h : LK w q wy st hd D K HN CN BB x ow sz rm am cn de) {E : zE} : LK (w ++ [E]) q wy st hd D K HN CN BB x ow sz rm am cn de :=
  ⟨sL_fm (zFm_app (a := q + 1) (n := 0)) (Or.inr (by omega)) h.1, ⟨sC_fm (zFm_app (a := q + 1) (n := 0)) (by omega) (by omega) h.2.1.1, h.2.1.2⟩, h.2.2⟩
theorem LK_len (h : LK w q wy st hd D K HN CN BB x ow sz rm am cn de) : q + 78 ≤ w.length := by
  have h1 := h.2.1.1.2.2.2.2.2.1
  have := (List.getElem?_eq_some_iff.mp h1).1
  omega
theorem dgL_congr {n : Nat} {p1 p2 p3 : Int} (hw : wy < 6) (h : ∀ i, i < 6 → K' i = K i ∧ HN' i = HN i ∧ CN' i = CN i ∧ BB' i = BB i) : dgL wy n K' HN' CN' BB' p1 p2 p3 = dgL wy n K HN CN BB p1 p2 p3 := by
  obtain ⟨e1, e2, e3, e4⟩ := h wy hw
  have e5 := wyL_congr (K := K) (K' := K') (CN := CN) (CN' := CN') 6 0 fun j _ hj => ⟨(h j (by omega)).1, (h j (by omega)).2.2.1⟩
  unfold dgL
  rw [e1, e2, e3, e4, e5]
theorem lw_end {A : List Int} (ha : q + 78 ≤ a4) (h : LK w q wy st hd D K HN CN BB x ow sz rm am cn de) (hu : ∀ j, j < 6 → (K j).2.2.2.2.2.2.1 = D.length) (hAw : w[a4]? = some (za A)) (hl : A.length = 5)
    (hS : sc = S.map zj) (hSl : S.length ≤ 260) (hd0 : 0 ≤ x.1 ∧ x.1 ≤ 900000) (hD : D.length < 150) (hn40 : (K wy).2.2.2.1 < 40) {p1 p2 p3 : Int}
    (hp : selP (clsL wy) (K wy).1 (HN wy) (holF (clsL wy) (BB wy)) (rmF (clsL wy) (K wy) 1) p1 ∧ selP (clsL wy) (K wy).1 (HN wy) (holF (clsL wy) (BB wy)) (rmF (clsL wy) (K wy) 30) p2 ∧ selP (clsL wy) (K wy).1 (HN wy) (holF (clsL wy) (BB wy)) (rmF (clsL wy) (K wy) 120) p3)
    {z12 : Int64} (hz12 : z12 = dF (dgL wy D.length K HN CN BB p1 p2 p3) 2657) {x1 x5 x7 x8 x9 x10 x11 x14 x15 : Int} (h5 : 0 ≤ x5 ∧ x5 ≤ 14) {v17 v18 v19 : Value} :
    ∃ (w' : List zE) (c s : Nat) (x16 x17 x18 : Int), c ≤ 3 ∧ s ≤ 4700 ∧ lwI w' q a4 wy st hd (D.length + 1) ((K wy).2.2.2.1 + 1) (x.1 + 1) ∧
      ∀ {ov w2 c2 s2}, Zr sc 151 51 [.ref 0, zj x1, zp q, zp (q + 1), zp a4, zj (x5 + 1), zp a6, zj x7, zj x8, zj x9, zj x10, zj x11, .long z12, zmk, zj x14, zj x15, zj x16, zj x17, zj x18, zj 5] [] w' ov w2 c2 s2 →
      Zr sc 151 682 [.ref 0, zj x1, zp q, zp (q + 1), zp a4, zj x5, zp a6, zj x7, zj x8, zj x9, zj x10, zj x11, .long z12, zmk, zj x14, zj x15, zj 6, v17, v18, v19] [] w ov w2 (c + c2) (s + s2) := by
  obtain ⟨d, w1, K1, HN1, CN1, BB1, r1, r2, r3, a1, a2, a3, -, a5, a6', a7⟩ := zl_digest (sc := sc) h.1
  have same : ∀ i, i < 6 → K1 i = K i ∧ HN1 i = HN i ∧ CN1 i = CN i ∧ BB1 i = BB i := fun i hi => a5 i hi (hu i hi)
  obtain ⟨e1, e2, e3, e4⟩ := same wy h.1.1
  have hc := clsL_c wy
  have eq1 := selP_u hc a6'.1 hp.1
  have eq2 := selP_u hc a6'.2.1 hp.2.1
  have eq3 := selP_u hc a6'.2.2 hp.2.2
  have ed : z12 = d := by rw [hz12, a7, eq1, eq2, eq3, dgL_congr h.1.1 same]
  have h1 := LK_lab h a2 a3 ⟨e1, e2, e4⟩
  obtain ⟨r, w2', b1, b2, b3, h2⟩ := LK_draw (sc := sc) h1 hS hSl (by omega) (n := 200) (by omega)
  obtain ⟨p, w3, c1, c2', c3, c4, c5, c6⟩ := zl_wouldBe (sc := sc) h2.1 (z := 1 + r) (by omega)
  have h3 := LK_lab h2 c2' c3 ⟨rfl, rfl, rfl⟩
  have tn := zl_names (sc := sc) h3.1
  have hnm0 : 0 ≤ (K1 wy).2.2.2.1 := ((sL_facts h3.1).2.2.2.1).2.2.2.1.1
  have hnmB := (sL_facts h3.1).2.2.2.2.1
  have hn1 : (K1 wy).2.2.2.1 = (K wy).2.2.2.1 := by rw [e1]
  obtain ⟨w4, c, s, k1, hn1', cn1, B1, x', ow', sz', rm', am', cn', de', g1, g2, g3, g4, g5, g6, g7⟩ := zp_askD (sc := sc) h3 hD (by omega) (z := 1 + r) (by omega)
  have hA4 : w4[a4]? = some (za A) := zFm_get g4 (zFm_get (lab_fm c2') (zFm_get b3 (zFm_get (lab_fm a2) hAw (by omega)) (by omega)) (by omega)) (by omega)
  obtain ⟨w5, A5, j1, j2, j3, j4, j5⟩ := lw_store (sc := sc) ha (a6 := a6) (x1 := x1) (x5 := x5) (x7 := x7) (x8 := x8) (x9 := x9) (x10 := x10) (x11 := x11) (x14 := x14) (x15 := x15) (x16 := 1 + r) (x17 := p) (x18 := (K1 wy).2.2.2.1) (z12 := z12) 5 0 w4 A (by omega) (Int.le_refl _) g6 hA4 hl (fun j j0 j4 => by omega)
  have what : k1 = welF (K1 wy) ∧ ((p = -1 ∧ B1 = BB1 wy) ∨ (0 ≤ p ∧ ∃ X Y, BB1 wy = X ++ Y ∧ B1 = X ++ ((K1 wy).2.2.2.1, p, 1 + r, rmF (clsL wy) (K1 wy) (1 + r)) :: Y)) := by
    rcases g5.2 with ⟨-, ⟨g, -⟩ | ⟨-, e, ⟨f1, f2, f3⟩ | ⟨X, Y, p', f1, f2, f3, f4, f5⟩⟩⟩ | ⟨g, -⟩ | ⟨g, -⟩ | ⟨g, -⟩ | ⟨g, -⟩ | ⟨g, -⟩
    · omega
    · exact ⟨e, Or.inl ⟨selP_u hc c4 f3, f1⟩⟩
    · have ep := selP_u hc c4 f4
      subst ep
      exact ⟨e, Or.inr ⟨f5, X, Y, f1, f2⟩⟩
    all_goals simp at g
  obtain ⟨u1, u2⟩ := what
  have hkn2 : (newU K1 wy (dnF (pkF k1 (max (k1.2.2.2.2.2.1) (sumR B1))) (D ++ [((0, 0, 1 + r) : dd_T)]).length) wy).2.2.2.1 = (K1 wy).2.2.2.1 + 1 := by
    rw [newU_at, u1]
    rfl
  have hBn : newU BB1 wy B1 wy = B1 := newU_at _ _ _
  have go : ∀ {ov : Option Value} {w2 : List zE} {c2 s2 : Nat}, Zr sc 151 51 [.ref 0, zj x1, zp q, zp (q + 1), zp a4, zj (x5 + 1), zp a6, zj x7, zj x8, zj x9, zj x10, zj x11, .long z12, zmk, zj x14, zj x15, zj (1 + r), zj p, zj (K1 wy).2.2.2.1, zj 5] [] w5 ov w2 c2 s2 → Zr sc 151 850 [.ref 0, zj x1, zp q, zp (q + 1), zp a4, zj x5, zp a6, zj x7, zj x8, zj x9, zj x10, zj x11, .long z12, zmk, zj x14, zj x15, zj (1 + r), zj p, zj (K1 wy).2.2.2.1, v19] [] w4 ov w2 c2 s2 := fun hz => V151_850 (j5 (V151_876 hz))
  refine ⟨w5, c, s, 1 + r, p, (K1 wy).2.2.2.1, g2, g3, ⟨_, _, _, _, _, x', ow', sz', rm', am', cn', de', A5, j1, j2, j3, j4, by rw [List.length_append]; exact Nat.le_refl _, by rw [hkn2, hn1]; exact Int.le_refl _, by rw [g7]; show 0 ≤ x.1 + 1; omega, by rw [g7]; exact Int.le_refl _⟩, fun {ov wz c2 s2} hz => ?_⟩
  rcases u2 with ⟨q1, q2⟩ | ⟨q1, X, Y, q3, q4⟩
  · have no : ∀ b ∈ newU BB1 wy B1 wy, b.1 ≠ (K1 wy).2.2.2.1 := fun b hb => by
      rw [hBn, q2] at hb
      have := hnmB b hb
      omega
    have t1 := zl_isThere_f (sc := sc) g6.1 (n := (K1 wy).2.2.2.1) (by omega) no
    have t2 := zl_place_f (sc := sc) g6.1 (n := (K1 wy).2.2.2.1) (by omega) no
    exact V151_682 ⟨by omega, fun _ => ⟨_, h.1.2.1, d, w1, a1, ed, by omega, _, h1.2.1.1.1, r, w2', b1, _, h2.1.2.1, p, w3, c1, _, h3.1.2.1, _, tn, by omega, fun q => by omega, fun _ => ⟨_, h3.2.1.1.1, 1, w4, c, s, c2, s2, g1, ⟨rfl, rfl⟩, by omega, fun q => by omega, fun _ => ⟨_, g6.1.2.1, _, t2, by omega, fun q => absurd q1.symm q, fun _ => ⟨_, t1, by omega, fun _ => ⟨by omega, fun _ => go hz, fun q => absurd rfl q⟩, fun q => by omega⟩⟩⟩⟩, fun q => absurd (Int.le_refl _) q⟩
  · have hin : (((K1 wy).2.2.2.1, p, 1 + r, rmF (clsL wy) (K1 wy) (1 + r)) : bk_T) ∈ newU BB1 wy B1 wy := by
      rw [hBn, q4]
      exact mem_mid.mpr (Or.inr rfl)
    have t1 : Zc sc 4 [zp (q + 1), zj (K1 wy).2.2.2.1] w4 (some (zj 1)) w4 0 0 := zl_isThere_t (sc := sc) g6.1 hin (by dsimp only; omega)
    have t2 : Zc sc 8 [zp (q + 1), zj (K1 wy).2.2.2.1] w4 (some (zj p)) w4 0 0 := zl_place_t (sc := sc) g6.1 hin (by dsimp only; omega)
    exact V151_682 ⟨by omega, fun _ => ⟨_, h.1.2.1, d, w1, a1, ed, by omega, _, h1.2.1.1.1, r, w2', b1, _, h2.1.2.1, p, w3, c1, _, h3.1.2.1, _, tn, by omega, fun q => by omega, fun _ => ⟨_, h3.2.1.1.1, 1, w4, c, s, c2, s2, g1, ⟨rfl, rfl⟩, by omega, fun q => by omega, fun _ => ⟨_, g6.1.2.1, _, t2, by omega, fun q => absurd rfl q, fun _ => ⟨_, t1, by omega, fun q => by omega, fun _ => ⟨by omega, fun _ => go hz, fun q => absurd rfl q⟩⟩⟩⟩⟩, fun q => absurd (Int.le_refl _) q⟩
end LWE
