/-! ===== the pool beside the lab: asking ===== -/
section LNK
variable {sc : List Value} {w w' : List zE} {q : Nat} {x x' : ps_T} {ow ow' sz rm am cn de : List Int} {B B' X Y : List bk_T} {S : List Int} {wy : Nat} {st hd : Int} {D : List dd_T} {K : Nat → mk_T} {HN : Nat → Int} {CN : Nat → List Int} {BB : Nat → List bk_T}
theorem sC_x (h : sC w q x ow sz rm am cn de) {x' : ps_T} (e : x'.2.2.2.2.2.2.2.2 = x.2.2.2.2.2.2.2.2) : sC (w.set q (pobj q x')) q x' ow sz rm am cn de ∧ zF2 w (w.set q (pobj q x')) q := by
  obtain ⟨g0, g1, g2, g3, g4, g5, g6, g7, ⟨l1, l2, l3, l4, l5⟩, g9⟩ := id h
  refine ⟨⟨zw_s g0, zw_o (by omega) g1, zw_o (by omega) g2, zw_o (by omega) g3, zw_o (by omega) g4, zw_o (by omega) g5, ?_, ?_, ⟨l1, l2, l3, l4, l5⟩, g9⟩, zF2_of (zFm_set (a := q) (n := 1) (by omega) (by omega)) (by omega)⟩
  · rw [e]; exact zw_o (show q ≠ x.2.2.2.2.2.2.2.2 by omega) g6
  · rw [e]; exact g7
theorem sC_sz (h : sC w q x ow sz rm am cn de) {sz' : List Int} (hl : sz'.length = 81) : sC (w.set (q + 74) (za sz')) q x ow sz' rm am cn de ∧ zF2 w (w.set (q + 74) (za sz')) q := by
  obtain ⟨g0, g1, g2, g3, g4, g5, g6, g7, ⟨l1, l2, l3, l4, l5⟩, g9⟩ := id h
  exact ⟨⟨zw_o (by omega) g0, zw_o (by omega) g1, zw_s g2, zw_o (by omega) g3, zw_o (by omega) g4, zw_o (by omega) g5, zw_o (show q + 74 ≠ x.2.2.2.2.2.2.2.2 by omega) g6, g7, ⟨l1, hl, l3, l4, l5⟩, g9⟩, zF2_of (zFm_set (a := q + 74) (n := 1) (by omega) (by omega)) (by omega)⟩
theorem sC_rm (h : sC w q x ow sz rm am cn de) {rm' : List Int} (hl : rm'.length = 81) : sC (w.set (q + 75) (za rm')) q x ow sz rm' am cn de ∧ zF2 w (w.set (q + 75) (za rm')) q := by
  obtain ⟨g0, g1, g2, g3, g4, g5, g6, g7, ⟨l1, l2, l3, l4, l5⟩, g9⟩ := id h
  exact ⟨⟨zw_o (by omega) g0, zw_o (by omega) g1, zw_o (by omega) g2, zw_s g3, zw_o (by omega) g4, zw_o (by omega) g5, zw_o (show q + 75 ≠ x.2.2.2.2.2.2.2.2 by omega) g6, g7, ⟨l1, l2, hl, l4, l5⟩, g9⟩, zF2_of (zFm_set (a := q + 75) (n := 1) (by omega) (by omega)) (by omega)⟩
theorem sC_am (h : sC w q x ow sz rm am cn de) {am' : List Int} (hl : am'.length = 81) : sC (w.set (q + 76) (za am')) q x ow sz rm am' cn de ∧ zF2 w (w.set (q + 76) (za am')) q := by
  obtain ⟨g0, g1, g2, g3, g4, g5, g6, g7, ⟨l1, l2, l3, l4, l5⟩, g9⟩ := id h
  exact ⟨⟨zw_o (by omega) g0, zw_o (by omega) g1, zw_o (by omega) g2, zw_o (by omega) g3, zw_s g4, zw_o (by omega) g5, zw_o (show q + 76 ≠ x.2.2.2.2.2.2.2.2 by omega) g6, g7, ⟨l1, l2, l3, hl, l5⟩, g9⟩, zF2_of (zFm_set (a := q + 76) (n := 1) (by omega) (by omega)) (by omega)⟩
theorem RO_mem (e : ∀ b, b ∈ B' ↔ b ∈ B) (h : RO ow B) : RO ow B' :=
  ⟨fun b hb => h.1 b ((e b).mp hb), fun u u0 u1 hno => h.2 u u0 u1 fun b hb => hno b ((e b).mpr hb)⟩
theorem RO_put {b : bk_T} (hok : okB (X ++ b :: Y)) (hr : RO ow (X ++ Y)) (hf : fillP ow ow' b.2.1 b.2.2.2 b.1) : RO ow' (X ++ b :: Y) := by
  have hm := okB_mid.mp hok
  refine ⟨fun y hy u u0 u1 => ?_, fun u u0 u1 hno => ?_⟩
  · rcases mem_mid.mp hy with hy | rfl
    · have gy := hm.1.2 y hy
      have hd : ¬ (b.2.1 ≤ u ∧ u < b.2.1 + b.2.2.2) := fun q => by
        rcases List.mem_append.mp hy with h | h
        · have := (hm.2.1 y h).2; omega
        · have := (hm.2.2.1 y h).2; omega
      rw [hf.2 u (by omega), if_neg hd]
      exact hr.1 y hy u u0 u1
    · have gb := hok.2 y hy
      rw [hf.2 u (by omega), if_pos ⟨u0, u1⟩]
  · rw [hf.2 u u0, if_neg (hno b (mem_mid.mpr (Or.inr rfl)))]
    exact hr.2 u u0 u1 fun y hy => hno y (mem_mid.mpr (Or.inl hy))
/-- the pool says of the present memory what the lab does -/
def pLK (w : List zE) (q wy : Nat) (k : mk_T) (hn : Int) (B : List bk_T) (x : ps_T) (ow sz rm am cn de : List Int) : Prop :=
  sC w q x ow sz rm am cn de ∧ (x.2.1 = wy ∧ x.2.2.1 = k.2.1 ∧ x.2.2.2.1 = k.2.2.1 ∧ x.2.2.2.2.1 = k.2.2.2.1 ∧ x.2.2.2.2.2.1 = k.2.2.2.2.1 ∧ x.2.2.2.2.2.2.1 = hn) ∧ RO ow B ∧ (∀ b ∈ B, zgi sz b.1 = b.2.2.1 ∧ zgi rm b.1 = b.2.2.2 ∧ zgi am b.1 = zgi (k.2.2.2.2.2.2.2) b.1) ∧ (∀ i : Int, 0 ≤ i → 0 ≤ zgi am i ∧ zgi am i ≤ 3) ∧ (0 ≤ x.2.2.2.2.2.2.2.1 ∧ x.2.2.2.2.2.2.2.1 ≤ 1024) ∧ (0 ≤ k.2.2.2.2.1 ∧ k.2.2.2.2.1 ≤ 3)
def LK (w : List zE) (q wy : Nat) (st hd : Int) (D : List dd_T) (K : Nat → mk_T) (HN : Nat → Int) (CN : Nat → List Int) (BB : Nat → List bk_T) (x : ps_T) (ow sz rm am cn de : List Int) : Prop :=
  sL w (q + 1) wy st hd D K HN CN BB ∧ pLK w q wy (K wy) (HN wy) (BB wy) x ow sz rm am cn de ∧ de.length = 3 * D.length
/-- a deed of the pool: the lab does it too, and they agree -/
def actR (sc : List Value) (w : List zE) (q wy : Nat) (st hd : Int) (D : List dd_T) (K : Nat → mk_T) (HN : Nat → Int) (CN : Nat → List Int) (BB : Nat → List bk_T) (x : ps_T) (j : Nat) (lv : List Value) : Prop :=
  ∃ w' c s d k1 hn1 cn1 B1 x' ow' sz' rm' am' cn' de', Zc sc j lv w (some (zj 1)) w' c s ∧ c ≤ 3 ∧ s ≤ 4700 ∧ zFm w w' q 78 ∧ dop (clsL wy) d (K wy) (HN wy) (CN wy) (BB wy) k1 hn1 cn1 B1 ∧ LK w' q wy st hd (D ++ [d]) (newU K wy (dnF (pkF k1 (max (k1.2.2.2.2.2.1) (sumR B1))) (D ++ [d]).length)) (newU HN wy hn1) (newU CN wy cn1) (newU BB wy B1) x' ow' sz' rm' am' cn' de' ∧ x'.1 = x.1
theorem LK_of {d : dd_T} {k1 : mk_T} {hn1 : Int} {cn1 : List Int} {B1 : List bk_T} (hp : PD w (q + 1) wy st hd D K HN CN BB d k1 hn1 cn1 B1) (h : pLK w q wy k1 hn1 B1 x ow sz rm am cn de) (he : de.length = 3 * D.length + 3) : LK w q wy st hd (D ++ [d]) (newU K wy (dnF (pkF k1 (max (k1.2.2.2.2.2.1) (sumR B1))) (D ++ [d]).length)) (newU HN wy hn1) (newU CN wy cn1) (newU BB wy B1) x ow sz rm am cn de := by
  refine ⟨hp.2, ?_, by rw [List.length_append, List.length_singleton]; omega⟩
  rw [newU_at, newU_at, newU_at]
  exact h
theorem sL_facts {l : Nat} (h : sL w l wy st hd D K HN CN BB) : okB (BB wy) ∧ gcB (clsL wy) (BB wy) ∧ (0 ≤ HN wy ∧ HN wy ≤ 1023) ∧ okK (K wy) ∧ (∀ b ∈ BB wy, b.1 < (K wy).2.2.2.1) ∧ wy < 6 ∧ (K wy).1 = wy ∧ (∀ b ∈ BB wy, b.2.2.2 = roomF (clsL wy) (K wy).2.1 (K wy).2.2.1 b.2.2.1) := by
  obtain ⟨h1, h0, hT, hdn, hM⟩ := id h
  obtain ⟨⟨D1, D2, -, -, hw⟩, hQ, -, e, -⟩ := hM wy h1
  exact ⟨(sQ_B hQ).1, hQ.2.2.2.1, hQ.2.2.1, hQ.2.1, hw.2.2.1, h1, e, hw.2.2.2.2.1⟩
theorem PD_facts {d : dd_T} {k1 : mk_T} {hn1 : Int} {cn1 : List Int} {B1 : List bk_T} {l : Nat} (h : PD w l wy st hd D K HN CN BB d k1 hn1 cn1 B1) : okB B1 ∧ gcB (clsL wy) B1 ∧ (∀ b ∈ B1, b.1 < k1.2.2.2.1) := by
  obtain ⟨f1, f2, -, -, f5, -⟩ := sL_facts h.2
  rw [newU_at] at f1 f2
  rw [newU_at, newU_at] at f5
  exact ⟨f1, f2, f5⟩
theorem zp_askD (h : LK w q wy st hd D K HN CN BB x ow sz rm am cn de) (hD : D.length < 150) (hn80 : (K wy).2.2.2.1 < 80) {z : Int} (hz : 1 ≤ z ∧ z ≤ 300) : ∃ w' c s k1 hn1 cn1 B1 x' ow' sz' rm' am' cn' de', Zc sc 124 [zp q, zj z] w (some (zj 1)) w' c s ∧ c ≤ 3 ∧ s ≤ 4700 ∧ zFm w w' q 78 ∧ dop (clsL wy) (0, 0, z) (K wy) (HN wy) (CN wy) (BB wy) k1 hn1 cn1 B1 ∧ LK w' q wy st hd (D ++ [(0, 0, z)]) (newU K wy (dnF (pkF k1 (max (k1.2.2.2.2.2.1) (sumR B1))) (D ++ [((0, 0, z) : dd_T)]).length)) (newU HN wy hn1) (newU CN wy cn1) (newU BB wy B1) x' ow' sz' rm' am' cn' de' ∧ x'.1 = x.1 := by
  obtain ⟨hL, ⟨hC, ⟨x1, x2, x3, x4, x5, x6⟩, hR, hS, hA, hP, ha⟩, hde⟩ := id h
  obtain ⟨hok, hg, hhn, hk, hnmB, hw6, hkw, hrm⟩ := sL_facts hL
  obtain ⟨-, k2, k3, k4, -, -, -, k8, -⟩ := id hk
  obtain ⟨g0, g1, g2, g3, g4, g5, g6, g7, ⟨l1, l2, l3, l4, l5⟩, g9⟩ := id hC
  -- the new name, its size, room and arena
  obtain ⟨a1, a2⟩ := sC_x hC (x' := (x.1, x.2.1, x.2.2.1, x.2.2.2.1, x.2.2.2.2.1 + 1, x.2.2.2.2.2.1, x.2.2.2.2.2.2.1, x.2.2.2.2.2.2.2.1, x.2.2.2.2.2.2.2.2)) rfl
  obtain ⟨b1, b2⟩ := sC_sz a1 (sz' := zsi sz (x.2.2.2.2.1) z) (by rw [zsi_len]; exact l2)
  have zr : Zc sc 123 [zp q, zj z] ((w.set q (pobj q (x.1, x.2.1, x.2.2.1, x.2.2.2.1, x.2.2.2.2.1 + 1, x.2.2.2.2.2.1, x.2.2.2.2.2.2.1, x.2.2.2.2.2.2.2.1, x.2.2.2.2.2.2.2.2))).set (q + 74) (za (zsi sz (x.2.2.2.2.1) z))) (some (zj (roomF (clsL wy) (x.2.2.1) (x.2.2.2.1) z))) ((w.set q (pobj q (x.1, x.2.1, x.2.2.1, x.2.2.2.1, x.2.2.2.2.1 + 1, x.2.2.2.2.2.1, x.2.2.2.2.2.2.1, x.2.2.2.2.2.2.2.1, x.2.2.2.2.2.2.2.2))).set (q + 74) (za (zsi sz (x.2.2.2.2.1) z))) 0 0 := zp_roomOf (sc := sc) b1 (wy := wy) x1 hw6 (by show x.2.2.1 = 1 ∨ _; rw [x2]; exact k2) (by show 0 ≤ x.2.2.2.1 ∧ _; rw [x3]; exact k3) hz
  have er : roomF (clsL wy) (x.2.2.1) (x.2.2.2.1) z = rmF (clsL wy) (K wy) z := by rw [x2, x3]; rfl
  obtain ⟨c1, c2⟩ := sC_rm b1 (rm' := zsi rm (x.2.2.2.2.1) (roomF (clsL wy) (x.2.2.1) (x.2.2.2.1) z)) (by rw [zsi_len]; exact l3)
  obtain ⟨d1, d2⟩ := sC_am c1 (am' := zsi am (x.2.2.2.2.1) (x.2.2.2.2.2.1)) (by rw [zsi_len]; exact l4)
  have hl' : LR (zsi rm (x.2.2.2.2.1) (roomF (clsL wy) (x.2.2.1) (x.2.2.2.1) z)) (BB wy) := fun b hb => by
    have gb := hok.2 b hb
    have := hnmB b hb
    rw [zgi_set (by omega) (by omega) (by omega), if_neg (by omega)]
    exact (hS b hb).2.1
  have hro : rOK (clsL wy) (roomF (clsL wy) (x.2.2.1) (x.2.2.2.1) z) := rOK_room (clsL_c wy) (by rw [x2]; exact k2) (by rw [x3]; exact k3) hz
  have hr1 := rOK_rg (clsL_c wy) hro
  obtain ⟨pl, w4, cn4, s4, e1, e2, e3, e4, e5, e6⟩ := zp_take (sc := sc) d1 x1 hw6 hok hg hR hl' hro (by show 0 ≤ x.2.2.2.2.2.2.1 ∧ _; rw [x6]; exact hhn)
  have er2 : zgi (zsi rm (x.2.2.2.2.1) (roomF (clsL wy) (x.2.2.1) (x.2.2.2.1) z)) (x.2.2.2.2.1) = roomF (clsL wy) (x.2.2.1) (x.2.2.2.1) z := by
    rw [zgi_set (by omega) (by omega) (by omega), if_pos rfl]
  rw [x6, er, ← hkw] at e5
  have fall := zF2_trans a2 (zF2_trans b2 (zF2_trans c2 (zF2_trans d2 e3)))
  -- what the lab will do, said ahead
  obtain ⟨w0, k1, hn1, cn1, B1, -, -, pd0⟩ := zl_ask (sc := sc) hL hD hn80 hz
  -- what any such deed of the lab is
  have what : ∀ {w0 : List zE} {k1 : mk_T} {hn1 : Int} {cn1 : List Int} {B1 : List bk_T}, PD w0 (q + 1) wy st hd D K HN CN BB (0, 0, z) k1 hn1 cn1 B1 → k1 = welF (K wy) ∧ ((pl = -1 ∧ B1 = BB wy ∧ hn1 = HN wy) ∨ (0 ≤ pl ∧ hn1 = hnF (K wy).1 (HN wy) pl (rmF (clsL wy) (K wy) z) ∧ ∃ X Y, BB wy = X ++ Y ∧ B1 = X ++ ((K wy).2.2.2.1, pl, z, rmF (clsL wy) (K wy) z) :: Y)) := fun pd => by
    rcases pd.1.2 with ⟨-, ⟨g, -⟩ | ⟨-, e, ⟨f1, f2, f3⟩ | ⟨X, Y, p, f1, f2, f3, f4, f5⟩⟩⟩ | ⟨g, -⟩ | ⟨g, -⟩ | ⟨g, -⟩ | ⟨g, -⟩ | ⟨g, -⟩
    · omega
    · exact ⟨e, Or.inl ⟨selP_u (clsL_c wy) e5 f3, f1, f2⟩⟩
    · have ep := selP_u (clsL_c wy) e5 f4
      subst ep
      exact ⟨e, Or.inr ⟨f5, f3, X, Y, f1, f2⟩⟩
    all_goals simp at g
  -- from where the cells are owned on
  have done : ∀ (w5 : List zE) (ow5 cn5 : List Int), sC w5 q (xhF (x.1, x.2.1, x.2.2.1, x.2.2.2.1, x.2.2.2.2.1 + 1, x.2.2.2.2.2.1, x.2.2.2.2.2.2.1, x.2.2.2.2.2.2.2.1, x.2.2.2.2.2.2.2.2) (if pl < 0 then x.2.2.2.2.2.2.1 else hnF wy (x.2.2.2.2.2.2.1) pl (roomF (clsL wy) (x.2.2.1) (x.2.2.2.1) z))) ow5 (zsi sz (x.2.2.2.2.1) z) (zsi rm (x.2.2.2.2.1) (roomF (clsL wy) (x.2.2.1) (x.2.2.2.1) z)) (zsi am (x.2.2.2.2.1) (x.2.2.2.2.2.1)) cn5 de → zF2 w w5 q → RO ow5 B1 →
      ∃ w' k1 hn1 cn1 B1 x' cn' de', Zr sc 124 80 [zp q, zj z, zj (x.2.2.2.2.1), zj pl] [] w5 (some (zj 1)) w' 1 (de.length + 3) ∧ zFm w w' q 78 ∧ PD w' (q + 1) wy st hd D K HN CN BB (0, 0, z) k1 hn1 cn1 B1 ∧ pLK w' q wy k1 hn1 B1 x' ow5 (zsi sz (x.2.2.2.2.1) z) (zsi rm (x.2.2.2.2.1) (roomF (clsL wy) (x.2.2.1) (x.2.2.2.1) z)) (zsi am (x.2.2.2.2.1) (x.2.2.2.2.2.1)) cn' de' ∧ de'.length = de.length + 3 ∧ x'.1 = x.1 := fun w5 ow5 cn5 h5 f5 r5 => by
    have fk := PD_facts pd0
    obtain ⟨w6, pk6, D6, de6, j1, j2, j3, j4, j5⟩ := zp_did (sc := sc) h5 fk.1 r5 (by omega) hP (a := 0) (b := z) (e := 0)
    have f6 : zF2 w w6 q := zF2_trans f5 (zF2_of j2 (by omega))
    have hL6 := sL_ag (zF2_ag f6) hL
    obtain ⟨w7, k1', hn1', cn1', B1', m1, m2, m3⟩ := zl_ask (sc := sc) hL6 hD hn80 hz
    have fk' := PD_facts m3
    have j7 := sC_fm m2 (Nat.le_refl _) (by omega) j3
    obtain ⟨u1, u2⟩ := what pd0
    obtain ⟨v1, v2⟩ := what m3
    have emem : ∀ b, b ∈ B1' ↔ b ∈ B1 := fun b => by
      rcases u2 with ⟨p1, p2, -⟩ | ⟨p1, -, X, Y, p2, p3⟩ <;> rcases v2 with ⟨q1, q2, -⟩ | ⟨q1, -, X', Y', q2, q3⟩
      · rw [p2, q2]
      · omega
      · omega
      · rw [p3, q3, mem_mid, mem_mid, ← p2, ← q2]
    have hnmI : x.2.2.2.2.1 = (K wy).2.2.2.1 := x4
    have hR1 := RO_mem emem r5
    have hlk : pLK w7 q wy k1' hn1' B1' (x.1, x.2.1, x.2.2.1, x.2.2.2.1, x.2.2.2.2.1 + 1, x.2.2.2.2.2.1, (if pl < 0 then x.2.2.2.2.2.2.1 else hnF wy (x.2.2.2.2.2.2.1) pl (roomF (clsL wy) (x.2.2.1) (x.2.2.2.1) z)), pk6, D6) ow5 (zsi sz (x.2.2.2.2.1) z) (zsi rm (x.2.2.2.2.1) (roomF (clsL wy) (x.2.2.1) (x.2.2.2.1) z)) (zsi am (x.2.2.2.2.1) (x.2.2.2.2.2.1)) cn5 de6 := by
      subst v1
      refine ⟨j7, ⟨x1, x2, x3, ?_, x5, ?_⟩, hR1, fun b hb => ?_, fun i hi => ?_, j4, ha⟩
      · show x.2.2.2.2.1 + 1 = (K wy).2.2.2.1 + 1
        omega
      · show (if pl < 0 then x.2.2.2.2.2.2.1 else hnF wy (x.2.2.2.2.2.2.1) pl (roomF (clsL wy) (x.2.2.1) (x.2.2.2.1) z)) = hn1'
        rcases v2 with ⟨q1, q2, q3⟩ | ⟨q1, q2, -⟩
        · rw [if_pos (by omega), q3]; exact x6
        · rw [if_neg (by omega), q2, er, x6, hkw]
      · have gb := fk'.1.2 b hb
        show zgi (zsi sz (x.2.2.2.2.1) z) b.1 = _ ∧ zgi (zsi rm (x.2.2.2.2.1) _) b.1 = _ ∧ zgi (zsi am (x.2.2.2.2.1) (x.2.2.2.2.2.1)) b.1 = zgi (zsi (K wy).2.2.2.2.2.2.2 (K wy).2.2.2.1 (K wy).2.2.2.2.1) b.1
        rw [zgi_set (by omega) (by omega) (by omega), zgi_set (by omega) (by omega) (by omega), zgi_set (by omega) (by omega) (by omega), zgi_set (by omega) (by omega) (by omega)]
        have old : b ∈ BB wy → b.1 ≠ x.2.2.2.2.1 ∧ b.1 ≠ (K wy).2.2.2.1 := fun hb => by
          have := hnmB b hb
          omega
        have ob := fun hb : b ∈ BB wy => (show (if b.1 = x.2.2.2.2.1 then z else zgi sz b.1) = b.2.2.1 ∧ (if b.1 = x.2.2.2.2.1 then (roomF (clsL wy) (x.2.2.1) (x.2.2.2.1) z) else zgi rm b.1) = b.2.2.2 ∧ (if b.1 = x.2.2.2.2.1 then x.2.2.2.2.2.1 else zgi am b.1) = (if b.1 = (K wy).2.2.2.1 then (K wy).2.2.2.2.1 else zgi (K wy).2.2.2.2.2.2.2 b.1) by
          rw [if_neg (old hb).1, if_neg (old hb).1, if_neg (old hb).1, if_neg (old hb).2]
          exact hS b hb)
        rcases v2 with ⟨q1, q2, -⟩ | ⟨q1, -, X, Y, q2, q3⟩
        · rw [q2] at hb
          exact ob hb
        · rw [q3, mem_mid, ← q2] at hb
          rcases hb with hb | hb
          · exact ob hb
          · rw [hb]
            dsimp only
            rw [if_pos hnmI.symm, if_pos hnmI.symm, if_pos hnmI.symm, if_pos rfl]
            exact ⟨rfl, er, x5⟩
      · rw [zgi_set (by omega) (by omega) hi]
        split
        · rw [x5]; exact ha
        · exact hA i hi
    refine ⟨w7, k1', hn1', cn1', B1', _, cn5, de6, ?_, ⟨Nat.le_trans f6.1 m2.1, fun b hb h1 => by rw [m2.2 b (Nat.lt_of_lt_of_le hb f6.1) (by omega)]; exact f6.2 b hb (by omega) (by omega)⟩, m3, hlk, j5, rfl⟩
    have hkn : k1'.2.2.2.1 = (K wy).2.2.2.1 + 1 := by rw [v1]; rfl
    have hkn2 : (newU K wy (dnF (pkF k1' (max k1'.2.2.2.2.2.1 (sumR B1'))) (D ++ [(0, 0, z)]).length) wy).2.2.2.1 = (K wy).2.2.2.1 + 1 := by rw [newU_at]; exact hkn
    have hBn : newU BB wy B1' wy = B1' := newU_at _ _ _
    rcases v2 with ⟨q1, q2, q3⟩ | ⟨q1, q2, X, Y, q3, q4⟩
    · have no : ∀ b ∈ newU BB wy B1' wy, b.1 ≠ x.2.2.2.2.1 := fun b hb => by
        rw [hBn, q2] at hb
        have := hnmB b hb
        omega
      have t1 := zl_isThere_f (sc := sc) m3.2 (n := x.2.2.2.2.1) (by omega) no
      have t2 := zl_place_f (sc := sc) m3.2 (n := x.2.2.2.2.1) (by omega) no
      exact V124_80 h5.1 ⟨w6, 1, de.length + 3, 0, 0, j1, ⟨rfl, rfl⟩, _, _, _, _, _, _, _, _, _, _, j3.1, by omega, fun q => by omega, fun _ => ⟨_, hL6.2.1, _, w7, m1, by omega, fun q => by omega, fun _ => ⟨_, _, _, _, _, _, _, _, _, _, j7.1, _, m3.2.2.1, _, t1, by omega, fun _ => ⟨by omega, fun q => by omega, fun _ => ⟨_, t2, by omega, fun q => by omega, fun _ => ⟨rfl, rfl, rfl, rfl⟩⟩⟩, fun q => by omega⟩⟩⟩
    · have hin : ((x.2.2.2.2.1, pl, z, rmF (clsL wy) (K wy) z) : bk_T) ∈ newU BB wy B1' wy := by
        rw [hBn, q4, hnmI]
        exact mem_mid.mpr (Or.inr rfl)
      have t1 : Zc sc 4 [zp (q + 1), zj (x.2.2.2.2.1)] w7 (some (zj 1)) w7 0 0 := zl_isThere_t (sc := sc) m3.2 hin (by dsimp only; omega)
      have t2 : Zc sc 8 [zp (q + 1), zj (x.2.2.2.2.1)] w7 (some (zj pl)) w7 0 0 := zl_place_t (sc := sc) m3.2 hin (by dsimp only; omega)
      exact V124_80 h5.1 ⟨w6, 1, de.length + 3, 0, 0, j1, ⟨rfl, rfl⟩, _, _, _, _, _, _, _, _, _, _, j3.1, by omega, fun q => by omega, fun _ => ⟨_, hL6.2.1, _, w7, m1, by omega, fun q => by omega, fun _ => ⟨_, _, _, _, _, _, _, _, _, _, j7.1, _, m3.2.2.1, _, t1, by omega, fun q => by omega, fun _ => ⟨by omega, fun q => by omega, fun _ => ⟨_, t2, by omega, fun q => by omega, fun _ => ⟨rfl, rfl, rfl, rfl⟩⟩⟩⟩⟩⟩
  by_cases c0 : 0 ≤ pl
  · obtain ⟨u1, ⟨p1, -, -⟩ | ⟨-, -, X, Y, p2, p3⟩⟩ := what pd0
    · omega
    have fk := PD_facts pd0
    have gb := fk.1.2 _ (by rw [p3]; exact mem_mid.mpr (Or.inr rfl))
    dsimp only at gb
    obtain ⟨w5, ow5, n1, n2, n3, n4⟩ := zp_fill (sc := sc) e4 (f := pl) (n := roomF (clsL wy) (x.2.2.1) (x.2.2.2.1) z) (v := x.2.2.2.2.1) c0 (by omega) (by omega)
    have hro5 : RO ow5 B1 := by
      rw [p3] at fk ⊢
      refine RO_put fk.1 (by rw [← p2]; exact hR) ?_
      rw [er, x4] at n4
      exact n4
    obtain ⟨w', k1', hn1', cn1', B1', x', cn', de', m1, m2, m3, m4, m5, m6⟩ := done w5 ow5 cn4 n3 (zF2_trans fall (zF2_of n2 (by omega))) hro5
    exact ⟨w', 3, s4 + (de.length + 3), k1', hn1', cn1', B1', x', ow5, _, _, _, cn', de', Zc_of rfl rfl (V124_0 g0 g2 g3 g4 ⟨by omega, _, zr, by omega, by omega, by rw [zsi_len]; omega, pl, w4, 2, s4, 1, _, (by rw [er2]; exact e1), ⟨rfl, rfl⟩, by omega, fun _ => ⟨_, _, _, _, _, _, _, _, _, _, e4.1, _, e4.2.2.2.1, by rw [zsi_len]; omega, w5, (by rw [er2]; exact n1), m1⟩, fun q => absurd c0 q⟩), by omega, by omega, m2, m3.1, LK_of m3 m4 (by omega), m6⟩
  · obtain ⟨u1, ⟨p1, p2, p3⟩ | ⟨p1, -, -⟩⟩ := what pd0
    · obtain ⟨n1, n2⟩ := sC_cn e4 (cn' := zsi cn4 4 (zgi cn4 4 + 1)) (by rw [zsi_len]; exact e4.2.2.2.2.2.2.2.2.1.2.2.2.2)
      obtain ⟨w', k1', hn1', cn1', B1', x', cn', de', m1, m2, m3, m4, m5, m6⟩ := done _ ow _ n1 (zF2_trans fall (zF2_of n2 (by omega))) (by rw [p2]; exact hR)
      have l5' : cn4.length = 5 := e4.2.2.2.2.2.2.2.2.1.2.2.2.2
      exact ⟨w', 3, s4 + (de.length + 3), k1', hn1', cn1', B1', x', ow, _, _, _, cn', de', Zc_of rfl rfl (V124_0 g0 g2 g3 g4 ⟨by omega, _, zr, by omega, by omega, by rw [zsi_len]; omega, pl, w4, 2, s4, 1, _, (by rw [er2]; exact e1), ⟨rfl, rfl⟩, by omega, fun q => absurd q c0, fun _ => ⟨_, _, _, _, _, _, _, _, _, _, e4.1, _, e4.2.2.2.2.2.1, by omega, by omega, m1⟩⟩), by omega, by omega, m2, m3.1, LK_of m3 m4 (by omega), m6⟩
    · omega
theorem zp_ask (h : LK w q wy st hd D K HN CN BB x ow sz rm am cn de) (hD : D.length < 150) (hn80 : (K wy).2.2.2.1 < 80) {z : Int} (hz : 1 ≤ z ∧ z ≤ 300) : actR sc w q wy st hd D K HN CN BB x 124 [zp q, zj z] := by
  obtain ⟨w', c, s, h'⟩ := zp_askD h hD hn80 hz (sc := sc)
  exact ⟨w', c, s, (0, 0, z), h'⟩
end LNK
