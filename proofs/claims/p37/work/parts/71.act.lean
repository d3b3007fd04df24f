/-! ===== an act of the pool ===== -/
section ACT
variable {sc : List Value} {w w' w2 : List zE} {q : Nat} {x x' : ps_T} {ow ow' sz rm am cn de : List Int} {B B' X Y : List bk_T} {S : List Int} {wy : Nat} {st hd : Int} {D : List dd_T} {K : Nat → mk_T} {HN : Nat → Int} {CN : Nat → List Int} {BB : Nat → List bk_T}
/-- one deed at most, and what it costs -/
def stepQ (R : List zE → Nat → Nat → Prop) (w : List zE) (q wy : Nat) (st hd : Int) (D : List dd_T) (K : Nat → mk_T) (CN : Nat → List Int) (lim : Int) : Prop :=
  ∃ w' c s D' K' HN' CN' BB' x' ow' sz' rm' am' cn' de', R w' c s ∧ c ≤ 3 ∧ s ≤ 4700 ∧ zFm w w' q 78 ∧ LK w' q wy st hd D' K' HN' CN' BB' x' ow' sz' rm' am' cn' de' ∧ D'.length ≤ D.length + 1 ∧ (K' wy).2.2.2.1 ≤ (K wy).2.2.2.1 + 1 ∧ cLe (CN wy) (CN' wy) 1100 ∧ 0 ≤ x'.1 ∧ x'.1 ≤ lim
theorem stepQ_to {R R2 : List zE → Nat → Nat → Prop} {lim lim' : Int} (h : stepQ R2 w2 q wy st hd D K CN lim) (hf : zFm w w2 q 78) (hR : ∀ w' c s, R2 w' c s → R w' c s) (hl : lim ≤ lim') : stepQ R w q wy st hd D K CN lim' := by
  obtain ⟨w', c, s, D', K', HN', CN', BB', x', ow', sz', rm', am', cn', de', h1, h2, h3, h4, h5, h6, h7, h8, h9, h10⟩ := h
  exact ⟨w', c, s, D', K', HN', CN', BB', x', ow', sz', rm', am', cn', de', hR _ _ _ h1, h2, h3, zFm_trans hf h4, h5, h6, h7, h8, h9, by omega⟩
theorem dop_nm {c : Nat} {d : dd_T} {k k1 : mk_T} {hn hn1 : Int} {cn cn1 : List Int} {B B1 : List bk_T} (h : dop c d k hn cn B k1 hn1 cn1 B1) : k1.2.2.2.1 ≤ k.2.2.2.1 + 1 := by
  rcases h.2 with ⟨-, ⟨-, e, -⟩ | ⟨-, e, -⟩⟩ | ⟨-, e, -⟩ | ⟨-, e, -⟩ | ⟨-, e, -⟩ | ⟨-, e, -⟩ | ⟨-, e, -⟩
  · rw [e]; omega
  · rw [e]; exact Int.le_refl _
  · rw [e]; omega
  · rw [e]; omega
  · rw [e]; omega
  · rw [e]; show k.2.2.2.1 ≤ k.2.2.2.1 + 1; omega
  · rw [e]; show k.2.2.2.1 ≤ k.2.2.2.1 + 1; omega
theorem stepQ_act {j : Nat} {lv : List Value} {lim : Int} (h : actR sc w q wy st hd D K HN CN BB x j lv) (h0 : 0 ≤ x.1) (hl : x.1 ≤ lim) : stepQ (fun w' c s => Zc sc j lv w (some (zj 1)) w' c s) w q wy st hd D K CN lim := by
  obtain ⟨w', c, s, d, k1, hn1, cn1, B1, x', ow', sz', rm', am', cn', de', h1, h2, h3, h4, h5, h6, h7⟩ := h
  refine ⟨w', c, s, _, _, _, _, _, x', ow', sz', rm', am', cn', de', h1, h2, h3, h4, h6, by rw [List.length_append, List.length_singleton]; omega, ?_, ?_, by omega, by omega⟩
  · rw [newU_at]
    have := dop_nm h5
    exact this
  · rw [newU_at]
    exact h5.1
theorem LK_draw (h : LK w q wy st hd D K HN CN BB x ow sz rm am cn de) (hS : sc = S.map zj) (hl : S.length ≤ 260) (hd0 : 0 ≤ x.1 ∧ x.1 ≤ 1000000) {n : Int} (hn : 1 ≤ n ∧ n ≤ 2147483647) : ∃ r w', Zc sc 115 [zp q, zj n] w (some (zj r)) w' 0 0 ∧ (0 ≤ r ∧ r < n) ∧ zFm w w' q 78 ∧ LK w' q wy st hd D K HN CN BB (x.1 + 1, x.2) ow sz rm am cn de := by
  obtain ⟨hL, ⟨hC, hx, hR, hB, hA, hP, ha⟩, hde⟩ := h
  obtain ⟨r, w', z1, z2, z3, z4⟩ := zp_draw (sc := sc) hC hS hl hd0 hn
  have f := zF2_of (q := q) z3 (by omega)
  exact ⟨r, w', z1, z2, zF2_fm f, sL_ag (zF2_ag f) hL, ⟨z4, hx, hR, hB, hA, hP, ha⟩, hde⟩
theorem stepQ_no {R : List zE → Nat → Nat → Prop} {lim : Int} (h : LK w q wy st hd D K HN CN BB x ow sz rm am cn de) (h0 : 0 ≤ x.1) (hl : x.1 ≤ lim) (hR : R w 0 0) : stepQ R w q wy st hd D K CN lim := by
  have hcl : (CN wy).length = 5 := by
    obtain ⟨⟨h1, -, -, -, hM⟩, -⟩ := id h
    exact (hM wy h1).2.1.1
  exact ⟨w, 0, 0, D, K, HN, CN, BB, x, ow, sz, rm, am, cn, de, hR, by omega, by omega, ⟨Nat.le_refl _, fun _ _ _ => rfl⟩, h, by omega, by omega, cLe_refl hcl (by omega), h0, hl⟩
theorem zp_act (h : LK w q wy st hd D K HN CN BB x ow sz rm am cn de) (hS : sc = S.map zj) (hl : S.length ≤ 260) (hd0 : 0 ≤ x.1 ∧ x.1 ≤ 900000) (hD : D.length < 150) (hn40 : (K wy).2.2.2.1 < 40) {z : Int} (hz : 1 ≤ z ∧ z ≤ 300) : stepQ (fun w' c s => Zc sc 137 [zp q, zj z] w (some (zj 1)) w' c s) w q wy st hd D K CN (x.1 + 4) := by
  -- it asks
  have f90 : ∀ (w : List zE) (x : ps_T) (x2 x3 x4 : Int), (0 ≤ x.1 ∧ x.1 ≤ 999000) → LK w q wy st hd D K HN CN BB x ow sz rm am cn de → stepQ (fun w' c s => Zr sc 137 90 [zp q, zj z, zj x2, zj x3, zj x4] [] w (some (zj 1)) w' c s) w q wy st hd D K CN (x.1 + 1) := fun w x x2 x3 x4 hd1 h => by
    obtain ⟨r, w2, z1, z2, z3, h2⟩ := LK_draw h hS hl (by omega) (n := z) (by omega)
    have hnm : x.2.2.2.2.1 = (K wy).2.2.2.1 := h.2.1.2.1.2.2.2.1
    have hk := (sL_facts h.1).2.2.2.1
    have k4 : 0 ≤ (K wy).2.2.2.1 := hk.2.2.2.1.1
    exact stepQ_to (stepQ_act (zp_ask (sc := sc) h2 hD (by omega) (z := 1 + r) (by omega)) (by show 0 ≤ x.1 + 1; omega) (Int.le_refl (x.1 + 1))) z3 (fun w' c s hz => V137_90 h.2.1.1.1 ⟨by omega, fun q => by omega, fun _ => ⟨_, _, z1, _, h2.2.1.1.1, _, _, _, _, 0, 0, hz, ⟨rfl, rfl⟩, Or.inr rfl, rfl, rfl, rfl, rfl⟩⟩) (by omega)
  have f69 : ∀ (w : List zE) (x : ps_T) (x2 x3 : Int), (0 ≤ x.1 ∧ x.1 ≤ 998000) → LK w q wy st hd D K HN CN BB x ow sz rm am cn de → stepQ (fun w' c s => Zr sc 137 69 [zp q, zj z, zj x2, zj x3, zmk] [] w (some (zj 1)) w' c s) w q wy st hd D K CN (x.1 + 2) := fun w x x2 x3 hd1 h => by
    obtain ⟨r, w2, z1, z2, z3, h2⟩ := LK_draw h hS hl (by omega) (n := 12) (by omega)
    exact stepQ_to (f90 w2 _ x2 0 r (by show 0 ≤ x.1 + 1 ∧ x.1 + 1 ≤ 999000; omega) h2) z3 (fun w' c s hz => by
      by_cases c6 : r < 6
      · exact V137_69 h.2.1.1.1 ⟨_, _, z1, by omega, fun _ => hz, fun q => absurd c6 q⟩
      · exact V137_69 h.2.1.1.1 ⟨_, _, z1, by omega, fun q => absurd q c6, fun _ => ⟨by omega, hz⟩⟩) (by show x.1 + 1 + 1 ≤ x.1 + 2; omega)
  have f53 : ∀ (w : List zE) (x : ps_T) (x2 x3 : Int), (0 ≤ x.1 ∧ x.1 ≤ 998000) → (-1 ≤ x2 ∧ x2 ≤ 100) → LK w q wy st hd D K HN CN BB x ow sz rm am cn de → stepQ (fun w' c s => Zr sc 137 53 [zp q, zj z, zj x2, zj x3, zmk] [] w (some (zj 1)) w' c s) w q wy st hd D K CN (x.1 + 2) := fun w x x2 x3 hd1 hx2 h => by
    obtain ⟨hok, hg, hhn, hk, hnmB, hw6, -⟩ := sL_facts h.1
    have hR := h.2.1.2.2.1
    have z69 := f69 w x x2 x3 hd1 h
    have f0 : zFm w w q 78 := ⟨Nat.le_refl _, fun _ _ _ => rfl⟩
    by_cases c0 : x2 < 0
    · exact stepQ_to z69 f0 (fun w' c s hz => V137_53 h.2.1.1.1 ⟨by omega, fun _ => hz, fun q => absurd c0 q⟩) (by omega)
    by_cases cb : ∃ b ∈ BB wy, b.1 = x2
    · obtain ⟨b, hb, rfl⟩ := cb
      have gb := hok.2 b hb
      have zpl := zp_place_t (sc := sc) h.2.1.1 hok hR hb
      obtain ⟨r, w2, z1, z2, z3, h2⟩ := LK_draw h hS hl (by omega) (n := 12) (by omega)
      have g0 := h.2.1.1.1
      have xw : x.2.1 = wy := h.2.1.2.1.1
      have har := h2.2.1.2.2.2.2.2.2
      have xa : x.2.2.2.2.2.1 = (K wy).2.2.2.2.1 := h.2.1.2.1.2.2.2.2.1
      have e1 : 0 ≤ x.1 + 1 ∧ x.1 + 1 ≤ 999000 := by omega
      have base : ∀ {R : List zE → Nat → Nat → Prop} {lim : Int}, stepQ R w2 q wy st hd D K CN lim → lim ≤ x.1 + 2 → (∀ w' c s, R w' c s → r < 6 ∧ Zr sc 137 90 [zp q, zj z, zj b.1, zj 1, zj r] [] w2 (some (zj 1)) w' c s ∨ (6 ≤ r ∧ Zr sc 137 53 [zp q, zj z, zj b.1, zj x3, zmk] [] w (some (zj 1)) w' c s)) → stepQ (fun w' c s => Zr sc 137 53 [zp q, zj z, zj b.1, zj x3, zmk] [] w (some (zj 1)) w' c s) w q wy st hd D K CN (x.1 + 2) := fun hq hlim hR => stepQ_to hq z3 (fun w' c s hz => by
        rcases hR w' c s hz with ⟨h1, h2⟩ | ⟨-, h2⟩
        · exact V137_53 g0 ⟨by omega, fun q => absurd q c0, fun _ => ⟨_, zpl, by omega, fun q => by omega, fun _ => ⟨_, _, z1, by omega, fun _ => h2, fun q => absurd h1 q⟩⟩⟩
        · exact h2) hlim
      by_cases c6 : r < 6
      · exact base (f90 w2 _ b.1 1 r e1 h2) (by show x.1 + 1 + 1 ≤ x.1 + 2; omega) (fun w' c s hz => Or.inl ⟨c6, hz⟩)
      by_cases c8 : 8 ≤ r
      · by_cases c10 : 10 ≤ r
        · by_cases c11 : r = 10
          · by_cases c3 : 3 ≤ x.2.2.2.2.2.1
            · exact base (stepQ_act (zp_close (sc := sc) h2 hD (by show 0 < x.2.2.2.2.2.1; omega)) e1.1 (Int.le_refl _)) (by show x.1 + 1 ≤ x.1 + 2; omega) (fun w' c s hz => Or.inr ⟨by omega, V137_53 g0 ⟨by omega, fun q => absurd q c0, fun _ => ⟨_, zpl, by omega, fun q => by omega, fun _ => ⟨_, _, z1, by omega, fun q => absurd q c6, fun _ => ⟨by omega, by omega, fun _ => ⟨by omega, fun _ => ⟨by omega, fun q => absurd c11 q, fun _ => ⟨_, _, _, _, _, _, _, _, _, _, h2.2.1.1.1, by show zrg (x.2.2.2.2.2.1) ∧ zrg 3; omega, fun _ => ⟨_, _, _, _, 0, 0, hz, ⟨rfl, rfl⟩, Or.inr rfl, rfl, rfl, rfl, rfl⟩, fun q => absurd c3 q⟩⟩, fun q => absurd c10 q⟩, fun q => absurd c8 q⟩⟩⟩⟩⟩)
            · exact base (stepQ_act (zp_open (sc := sc) h2 hD (by show x.2.2.2.2.2.1 < 3; omega)) e1.1 (Int.le_refl _)) (by show x.1 + 1 ≤ x.1 + 2; omega) (fun w' c s hz => Or.inr ⟨by omega, V137_53 g0 ⟨by omega, fun q => absurd q c0, fun _ => ⟨_, zpl, by omega, fun q => by omega, fun _ => ⟨_, _, z1, by omega, fun q => absurd q c6, fun _ => ⟨by omega, by omega, fun _ => ⟨by omega, fun _ => ⟨by omega, fun q => absurd c11 q, fun _ => ⟨_, _, _, _, _, _, _, _, _, _, h2.2.1.1.1, by show zrg (x.2.2.2.2.2.1) ∧ zrg 3; omega, fun q => absurd q c3, fun _ => ⟨_, _, _, _, 0, 0, hz, ⟨rfl, rfl⟩, Or.inr rfl, rfl, rfl, rfl, rfl⟩⟩⟩, fun q => absurd c10 q⟩, fun q => absurd c8 q⟩⟩⟩⟩⟩)
          · by_cases c3 : x.2.2.2.2.2.1 ≤ 0
            · by_cases c4 : 3 < x.2.1
              · exact base (stepQ_no (R := fun w' c s => w' = w2 ∧ c = 0 ∧ s = 0) h2 e1.1 (Int.le_refl _) ⟨rfl, rfl, rfl⟩) (by show x.1 + 1 ≤ x.1 + 2; omega) (fun w' c s hz => by
                  obtain ⟨rfl, rfl, rfl⟩ := hz
                  exact Or.inr ⟨by omega, V137_53 g0 ⟨by omega, fun q => absurd q c0, fun _ => ⟨_, zpl, by omega, fun q => by omega, fun _ => ⟨_, _, z1, by omega, fun q => absurd q c6, fun _ => ⟨by omega, by omega, fun _ => ⟨by omega, fun _ => ⟨by omega, fun _ => ⟨_, _, _, _, _, _, _, _, _, _, h2.2.1.1.1, by show zrg (x.2.2.2.2.2.1); omega, fun _ => ⟨by show zrg (x.2.1) ∧ zrg 3; omega, fun _ => V137_220 ⟨rfl, rfl, rfl, rfl⟩, fun q => absurd c4 q⟩, fun q => absurd c3 q⟩, fun q => absurd c11 q⟩, fun q => absurd c10 q⟩, fun q => absurd c8 q⟩⟩⟩⟩⟩)
              · exact base (stepQ_act (zp_together (sc := sc) h2 hD (by omega)) e1.1 (Int.le_refl _)) (by show x.1 + 1 ≤ x.1 + 2; omega) (fun w' c s hz => Or.inr ⟨by omega, V137_53 g0 ⟨by omega, fun q => absurd q c0, fun _ => ⟨_, zpl, by omega, fun q => by omega, fun _ => ⟨_, _, z1, by omega, fun q => absurd q c6, fun _ => ⟨by omega, by omega, fun _ => ⟨by omega, fun _ => ⟨by omega, fun _ => ⟨_, _, _, _, _, _, _, _, _, _, h2.2.1.1.1, by show zrg (x.2.2.2.2.2.1); omega, fun _ => ⟨by show zrg (x.2.1) ∧ zrg 3; omega, fun q => absurd q c4, fun _ => ⟨_, _, _, _, 0, 0, hz, ⟨rfl, rfl⟩, by omega, fun q => by omega, fun _ => V137_220 ⟨rfl, rfl, rfl, rfl⟩⟩⟩, fun q => absurd c3 q⟩, fun q => absurd c11 q⟩, fun q => absurd c10 q⟩, fun q => absurd c8 q⟩⟩⟩⟩⟩)
            · exact base (stepQ_act (zp_close (sc := sc) h2 hD (by show 0 < x.2.2.2.2.2.1; omega)) e1.1 (Int.le_refl _)) (by show x.1 + 1 ≤ x.1 + 2; omega) (fun w' c s hz => Or.inr ⟨by omega, V137_53 g0 ⟨by omega, fun q => absurd q c0, fun _ => ⟨_, zpl, by omega, fun q => by omega, fun _ => ⟨_, _, z1, by omega, fun q => absurd q c6, fun _ => ⟨by omega, by omega, fun _ => ⟨by omega, fun _ => ⟨by omega, fun _ => ⟨_, _, _, _, _, _, _, _, _, _, h2.2.1.1.1, by show zrg (x.2.2.2.2.2.1); omega, fun q => absurd q c3, fun _ => ⟨_, _, _, _, 0, 0, hz, ⟨rfl, rfl⟩, Or.inr rfl, rfl, rfl, rfl, rfl⟩⟩, fun q => absurd c11 q⟩, fun q => absurd c10 q⟩, fun q => absurd c8 q⟩⟩⟩⟩⟩)
        · obtain ⟨r3, w3, y1, y2, y3, h3⟩ := LK_draw h2 hS hl (by show 0 ≤ x.1 + 1 ∧ x.1 + 1 ≤ 1000000; omega) (n := z) (by omega)
          have st3 := stepQ_act (zp_resize (sc := sc) h3 hD hb (z := 1 + r3) (by omega)) (by show 0 ≤ x.1 + 1 + 1; omega) (Int.le_refl (x.1 + 1 + 1))
          exact base (stepQ_to st3 y3 (fun _ _ _ hz => hz) (Int.le_refl _)) (by omega) (fun w' c s hz => Or.inr ⟨by omega, V137_53 g0 ⟨by omega, fun q => absurd q c0, fun _ => ⟨_, zpl, by omega, fun q => by omega, fun _ => ⟨_, _, z1, by omega, fun q => absurd q c6, fun _ => ⟨by omega, by omega, fun _ => ⟨by omega, fun q => absurd q c10, fun _ => ⟨_, h2.2.1.1.1, _, _, y1, _, h3.2.1.1.1, _, _, _, _, 0, 0, hz, ⟨rfl, rfl⟩, Or.inr rfl, rfl, rfl, rfl, rfl⟩⟩, fun q => absurd c8 q⟩⟩⟩⟩⟩)
      · exact base (stepQ_act (zp_giveBack (sc := sc) h2 hD hb) e1.1 (Int.le_refl _)) (by show x.1 + 1 ≤ x.1 + 2; omega) (fun w' c s hz => Or.inr ⟨by omega, V137_53 g0 ⟨by omega, fun q => absurd q c0, fun _ => ⟨_, zpl, by omega, fun q => by omega, fun _ => ⟨_, _, z1, by omega, fun q => absurd q c6, fun _ => ⟨by omega, by omega, fun q => absurd q c8, fun _ => ⟨_, h2.2.1.1.1, _, _, _, _, 0, 0, hz, ⟨rfl, rfl⟩, Or.inr rfl, rfl, rfl, rfl, rfl⟩⟩⟩⟩⟩⟩)
    · have zpl := zp_place_f (sc := sc) h.2.1.1 hok hR (n := x2) (by omega) (fun b hb e => cb ⟨b, hb, e⟩)
      exact stepQ_to z69 f0 (fun w' c s hz => V137_53 h.2.1.1.1 ⟨by omega, fun q => absurd q c0, fun _ => ⟨_, zpl, by omega, fun _ => hz, fun q => by omega⟩⟩) (by omega)
  have hnm0 : x.2.2.2.2.1 = (K wy).2.2.2.1 := h.2.1.2.1.2.2.2.1
  have k40 : 0 ≤ (K wy).2.2.2.1 := (sL_facts h.1).2.2.2.1.2.2.2.1.1
  have f22 : ∀ (m : Nat) (w : List zE) (x : ps_T) (x2 x3 : Int), x3 + m = (K wy).2.2.2.1 → 0 ≤ x3 → (0 ≤ x.1 ∧ x.1 ≤ 998000) → (-1 ≤ x2 ∧ x2 ≤ 100) → (0 < (K wy).2.2.2.1 → 0 ≤ x2) → LK w q wy st hd D K HN CN BB x ow sz rm am cn de → stepQ (fun w' c s => Zr sc 137 22 [zp q, zj z, zj x2, zj x3, zmk] [] w (some (zj 1)) w' c s) w q wy st hd D K CN (x.1 + 2) := by
    intro m
    induction m with
    | zero =>
      intro w x x2 x3 hm h0 hd1 hx hx2 h
      have hnm : x.2.2.2.2.1 = (K wy).2.2.2.1 := h.2.1.2.1.2.2.2.1
      exact stepQ_to (f53 w x x2 x3 hd1 hx h) ⟨Nat.le_refl _, fun _ _ _ => rfl⟩ (fun w' c s hz => V137_22 h.2.1.1.1 ⟨by omega, fun _ => hz, fun q => by omega⟩) (by omega)
    | succ m ih =>
      intro w x x2 x3 hm h0 hd1 hx hx2 h
      have hnm : x.2.2.2.2.1 = (K wy).2.2.2.1 := h.2.1.2.1.2.2.2.1
      obtain ⟨hok, -⟩ := sL_facts h.1
      have hR := h.2.1.2.2.1
      by_cases cb : ∃ b ∈ BB wy, b.1 = x2
      · obtain ⟨b, hb, rfl⟩ := cb
        have gb := hok.2 b hb
        have zpl := zp_place_t (sc := sc) h.2.1.1 hok hR hb
        exact stepQ_to (f53 w x b.1 x3 hd1 hx h) ⟨Nat.le_refl _, fun _ _ _ => rfl⟩ (fun w' c s hz => V137_22 h.2.1.1.1 ⟨by omega, fun q => by omega, fun _ => ⟨_, zpl, by omega, fun _ => hz, fun q => by omega⟩⟩) (by omega)
      · have zpl := zp_place_f (sc := sc) h.2.1.1 hok hR (n := x2) (by omega) (fun b hb e => cb ⟨b, hb, e⟩)
        have e1 := Int.emod_nonneg (x2 + 1) (show x.2.2.2.2.1 ≠ 0 by omega)
        have e2 := Int.emod_lt_of_pos (x2 + 1) (show 0 < x.2.2.2.2.1 by omega)
        exact stepQ_to (ih w x ((x2 + 1) % x.2.2.2.2.1) (x3 + 1) (by omega) (by omega) hd1 (by omega) (fun _ => e1) h) ⟨Nat.le_refl _, fun _ _ _ => rfl⟩ (fun w' c s hz => V137_22 h.2.1.1.1 ⟨by omega, fun q => by omega, fun _ => ⟨_, zpl, by omega, fun q => by omega, fun _ => ⟨by omega, hz⟩⟩⟩) (by omega)
  by_cases cn0 : x.2.2.2.2.1 = 0
  · exact stepQ_to (f22 (K wy).2.2.2.1.toNat w x (-1) 0 (by omega) (by omega) (by omega) (by omega) (by omega) h) ⟨Nat.le_refl _, fun _ _ _ => rfl⟩ (fun w' c s hz => Zc_of rfl rfl (V137_0 h.2.1.1.1 ⟨by omega, fun q => absurd cn0 q, fun _ => hz⟩)) (by omega)
  · obtain ⟨r, w2, z1, z2, z3, h2⟩ := LK_draw h hS hl (by omega) (n := x.2.2.2.2.1) (by omega)
    exact stepQ_to (f22 (K wy).2.2.2.1.toNat w2 _ r 0 (by omega) (by omega) (by show 0 ≤ x.1 + 1 ∧ x.1 + 1 ≤ 998000; omega) (by omega) (by omega) h2) z3 (fun w' c s hz => Zc_of rfl rfl (V137_0 h.2.1.1.1 ⟨by omega, fun _ => ⟨_, _, z1, hz⟩, fun q => absurd cn0 q⟩)) (by show x.1 + 1 + 2 ≤ x.1 + 4; omega)
end ACT
