/-! ===== the laboratory: what only reads ===== -/
def offL (i : Nat) : Nat := match i with
  | 0 => 5
  | 1 => 16
  | 2 => 27
  | 3 => 38
  | 4 => 49
  | _ => 60
def clsL (i : Nat) : Nat := match i with
  | 4 => 1
  | 5 => 4
  | _ => 2
theorem clsL_c (i : Nat) : clsL i = 1 ∨ clsL i = 2 ∨ clsL i = 4 := by
  unfold clsL
  split <;> omega
theorem off_chk : (List.range 6).all (fun i => decide (offL i + msz (clsL i) ≤ 72) && decide (5 ≤ offL i) && (List.range 6).all fun j => decide (i = j) || decide (offL i + msz (clsL i) ≤ offL j) || decide (offL j + msz (clsL j) ≤ offL i)) = true := by decide +kernel
theorem off_rg {i : Nat} (h : i < 6) : offL i + msz (clsL i) ≤ 72 ∧ 5 ≤ offL i := by
  have := List.all_eq_true.mp off_chk i (List.mem_range.mpr h)
  simp only [Bool.and_eq_true, decide_eq_true_eq] at this
  exact this.1
theorem off_dis {i j : Nat} (h : i < 6) (h2 : j < 6) (hne : i ≠ j) : offL i + msz (clsL i) ≤ offL j ∨ offL j + msz (clsL j) ≤ offL i := by
  have := List.all_eq_true.mp off_chk i (List.mem_range.mpr h)
  simp only [Bool.and_eq_true, decide_eq_true_eq] at this
  have := List.all_eq_true.mp this.2 j (List.mem_range.mpr h2)
  simp only [Bool.or_eq_true, decide_eq_true_eq] at this
  omega
def cntF (c : Nat) (k : mk_T) (cn : List Int) (B : List bk_T) (x : Int) : Int := if x ≤ 4 then zgi cn x else if x = 5 then k.2.2.2.2.2.1 else if x = 6 then (holF c B).length else maxH (holF c B)
def grN (c : Nat) (k : mk_T) (hn : Int) (B : List bk_T) (z : Int) : Prop := maxH (holF c B) < rmF c k z ∨ ∃ p, p < 0 ∧ selP c (k.1) hn (holF c B) (rmF c k z) p
section WRP
variable {sc : List Value} {w w' : List zE} {c m t : Nat} {k k' : mk_T} {hn sn : Int} {cn : List Int} {B B' X Y : List bk_T}
theorem sQ_ob (h : sQ w c m k hn cn B) : ∃ fs, w[m]? = some (zob c fs) := by
  obtain ⟨sn, -, h6⟩ := h.2.2.2.2
  exact ⟨_, h6.1⟩
theorem sQ_B (h : sQ w c m k hn cn B) : sB w (m + 1) B := by
  obtain ⟨sn, -, h6⟩ := h.2.2.2.2
  exact h6.2.1
theorem sQ_H (h : sQ w c m k hn cn B) : sH w (m + 6) (holF c B) := by
  obtain ⟨sn, -, h6⟩ := h.2.2.2.2
  exact h6.2.2.1
theorem zm_names (hc : c = 1 ∨ c = 2 ∨ c = 4) (h : sQ w c m k hn cn B) : Zc sc 3 [zp m] w (some (zj (k.2.2.2.1))) w 0 0 := by
  obtain ⟨sn, -, h6⟩ := h.2.2.2.2
  rcases hc with rfl | rfl | rfl
  · exact zc_names_1 h6
  · exact zc_names_2 h6
  · exact zc_names_4 h6
theorem zm_standing (hc : c = 1 ∨ c = 2 ∨ c = 4) (h : sQ w c m k hn cn B) : Zc sc 6 [zp m] w (some (zp (m + 1))) w 0 0 := by
  obtain ⟨sn, -, h6⟩ := h.2.2.2.2
  rcases hc with rfl | rfl | rfl
  · exact zc_standing_1 h6
  · exact zc_standing_2 h6
  · exact zc_standing_4 h6
theorem zm_gaps (hc : c = 1 ∨ c = 2 ∨ c = 4) (h : sQ w c m k hn cn B) : Zc sc 20 [zp m] w (some (zp (m + 6))) w 0 0 := by
  obtain ⟨sn, -, h6⟩ := h.2.2.2.2
  rcases hc with rfl | rfl | rfl
  · exact zc_gaps_1 h6
  · exact zc_gaps_2 h6
  · exact zc_gaps_4 h6
theorem zm_arenas (hc : c = 1 ∨ c = 2 ∨ c = 4) (h : sQ w c m k hn cn B) : Zc sc 101 [zp m] w (some (zj (k.2.2.2.2.1))) w 0 0 := by
  obtain ⟨sn, -, h6⟩ := h.2.2.2.2
  rcases hc with rfl | rfl | rfl
  · exact zc_arenas_1 h6
  · exact zc_arenas_2 h6
  · exact zc_arenas_4 h6
theorem zm_hand (hc : c = 1 ∨ c = 2 ∨ c = 4) (h : sQ w c m k hn cn B) : Zc sc 102 [zp m] w (some (zj hn)) w 0 0 := by
  obtain ⟨sn, -, h6⟩ := h.2.2.2.2
  rcases hc with rfl | rfl | rfl
  · exact zc_hand_1 h6
  · exact zc_hand_2 h6
  · exact zc_hand_4 h6
theorem zm_countOf (hc : c = 1 ∨ c = 2 ∨ c = 4) (h : sQ w c m k hn cn B) {x : Int} (hx : 0 ≤ x ∧ x ≤ 7) : Zc sc 34 [zp m, zj x] w (some (zj (cntF c k cn B x))) w 0 0 := by
  obtain ⟨sn, -, h6⟩ := h.2.2.2.2
  rcases hc with rfl | rfl | rfl
  · exact zc_countOf_1 h6 h.1 hx
  · exact zc_countOf_2 h6 h.1 hx
  · exact zc_countOf_4 h6 h.1 hx
theorem zm_follow (hc : c = 1 ∨ c = 2 ∨ c = 4) {D1 D2 : List dd_T} (ht : t + 4 ≤ m ∨ m + msz c ≤ t) (hT : sT w t (D1 ++ D2)) (h : sQ w c m k hn cn B) (hw : wfM c D1.length k cn B) (hd : k.2.2.2.2.2.2.1 = D1.length) :
    ∃ w' k' hn' cn' B', Zc sc 57 [zp m, zp t] w (some (zp m)) w' 0 0 ∧ zFm w w' m (msz c) ∧ sQ w' c m (dnF k' (D1 ++ D2).length) hn' cn' B' ∧ fol c D2 k hn cn B k' hn' cn' B' ∧ wfM c (D1 ++ D2).length k' cn' B' := by
  rcases hc with rfl | rfl | rfl
  · exact zc_follow_1 ht hT h hw hd
  · exact zc_follow_2 ht hT h hw hd
  · exact zc_follow_4 ht hT h hw hd
theorem zm_placeFor (hc : c = 1 ∨ c = 2 ∨ c = 4) (h : sQ w c m k hn cn B) {z : Int} (hz : 1 ≤ z ∧ z ≤ 300) : ∃ p w', Zc sc 38 [zp m, zj z] w (some (zj p)) w' 0 0 ∧ zFm w w' m (msz c) ∧ sQ w' c m k hn cn B ∧ selP c (k.1) hn (holF c B) (rmF c k z) p ∧ -1 ≤ p ∧ p ≤ 1024 := by
  rcases hc with rfl | rfl | rfl
  · exact zc_placeFor_1 h hz
  · exact zc_placeFor_2 h hz
  · exact zc_placeFor_4 h hz
theorem zm_greatest (hc : c = 1 ∨ c = 2 ∨ c = 4) (h : sQ w c m k hn cn B) : ∃ g w', Zc sc 54 [zp m] w (some (zj g)) w' 0 0 ∧ zFm w w' m (msz c) ∧ sQ w' c m k hn cn B ∧ (0 ≤ g ∧ g ≤ 300) ∧ (1 ≤ g → rmF c k g ≤ maxH (holF c B) ∧ ∃ p, 0 ≤ p ∧ selP c (k.1) hn (holF c B) (rmF c k g) p) ∧ ∀ z, g < z → z ≤ 300 → grN c k hn B z := by
  rcases hc with rfl | rfl | rfl
  · exact zc_greatest_1 h
  · exact zc_greatest_2 h
  · exact zc_greatest_4 h
theorem zm_begin (hc : c = 1 ∨ c = 2 ∨ c = 4) (h : sQ w c m k hn cn B) {x y : Int} (hx : x = 1 ∨ x = 2 ∨ x = 4 ∨ x = 8) (hy : 0 ≤ y ∧ y ≤ 8) : ∃ w', Zc sc 121 [zp m, zj x, zj y] w none w' 0 0 ∧ zFm w w' m (msz c) ∧ sQ w' c m (k.1, x, y, 0, 0, 0, 0, k.2.2.2.2.2.2.2) 0 (List.replicate 5 0) [] := by
  rcases hc with rfl | rfl | rfl
  · exact zc_begin_1 h hx hy
  · exact zc_begin_2 h hx hy
  · exact zc_begin_4 h hx hy
def clF (c : Nat) (B : List bk_T) (p : Int) : Int := match c with
  | 4 => clsF (pgF B) p
  | _ => -1
theorem zm_classOf (hc : c = 1 ∨ c = 2 ∨ c = 4) (h : sQ w c m k hn cn B) {p : Int} (hp : zrg p) : ∃ j, ((c = 1 ∧ j = 104) ∨ (c = 2 ∧ j = 104) ∨ (c = 4 ∧ j = 80)) ∧ Zc sc j [zp m, zj p] w (some (zj (clF c B p))) w 0 0 := by
  obtain ⟨sn, -, h6⟩ := h.2.2.2.2
  rcases hc with rfl | rfl | rfl
  · exact ⟨104, by omega, Zc_of rfl rfl (V104_0_1 ⟨rfl, rfl, rfl, rfl⟩)⟩
  · exact ⟨104, by omega, Zc_of rfl rfl (V104_0_2 ⟨rfl, rfl, rfl, rfl⟩)⟩
  · exact ⟨80, by omega, zc_classOf_4 h6 (pgF_ok h6.2.1.1) hp⟩
end WRP
def mOK (w : List zE) (l i : Nat) (st hd : Int) (D : List dd_T) (k : mk_T) (hn : Int) (cn : List Int) (B : List bk_T) : Prop :=
  (∃ D1 D2, D = D1 ++ D2 ∧ k.2.2.2.2.2.2.1 = D1.length ∧ wfM (clsL i) D1.length k cn B) ∧ sQ w (clsL i) (l + offL i) k hn cn B ∧ sumR B ≤ k.2.2.2.2.2.1 ∧ k.1 = i ∧ k.2.1 = st ∧ k.2.2.1 = hd
def sL (w : List zE) (l wy : Nat) (st hd : Int) (D : List dd_T) (K : Nat → mk_T) (HN : Nat → Int) (CN : Nat → List Int) (BB : Nat → List bk_T) : Prop :=
  wy < 6 ∧ w[l]? = some (lobj l wy) ∧ sT w (l + 1) D ∧ (K wy).2.2.2.2.2.2.1 = D.length ∧ ∀ i, i < 6 → mOK w l i st hd D (K i) (HN i) (CN i) (BB i)
theorem sL_fm {w w' : List zE} {a n l wy : Nat} {st hd : Int} {D : List dd_T} {K : Nat → mk_T} {HN : Nat → Int} {CN : Nat → List Int} {BB : Nat → List bk_T} (hf : zFm w w' a n) (ho : l + 72 ≤ a ∨ a + n ≤ l) (h : sL w l wy st hd D K HN CN BB) : sL w' l wy st hd D K HN CN BB := by
  obtain ⟨h1, h2, h3, h4, h5⟩ := h
  refine ⟨h1, zFm_get hf h2 (by omega), sT_fm hf (by omega) h3, h4, fun i hi => ?_⟩
  obtain ⟨q1, q2, q3⟩ := h5 i hi
  have := off_rg hi
  exact ⟨q1, sQ_fm hf (by omega) q2, q3⟩
section LAB
variable {sc : List Value} {w w' : List zE} {l wy : Nat} {st hd : Int} {D : List dd_T} {K : Nat → mk_T} {HN : Nat → Int} {CN : Nat → List Int} {BB : Nat → List bk_T}
theorem zl_memoryOf {y : Int} (h0 : w[l]? = some (lobj l y)) {i : Nat} (hi : i < 6) : Zc sc 2 [zp l, zj i] w (some (zp (l + offL i))) w 0 0 := by
  have hc : i = 0 ∨ i = 1 ∨ i = 2 ∨ i = 3 ∨ i = 4 ∨ i = 5 := by omega
  refine Zc_of rfl rfl (V2_0 h0 ?_)
  rcases hc with rfl | rfl | rfl | rfl | rfl | rfl <;> exact ⟨by omega, fun _ => by first | omega | exact ⟨rfl, rfl, rfl, rfl⟩, fun _ => by first | omega | exact ⟨rfl, rfl, rfl, rfl⟩, fun _ => by first | omega | exact ⟨rfl, rfl, rfl, rfl⟩, fun _ => by first | omega | exact ⟨rfl, rfl, rfl, rfl⟩, fun _ => by first | omega | exact ⟨rfl, rfl, rfl, rfl⟩, fun _ => by first | omega | exact ⟨rfl, rfl, rfl, rfl⟩⟩
theorem zl_present (h : sL w l wy st hd D K HN CN BB) : Zc sc 1 [zp l] w (some (zp (l + offL wy))) w 0 0 :=
  Zc_of rfl rfl (V1_0 h.2.1 ⟨_, zl_memoryOf h.2.1 h.1, rfl, rfl, rfl, rfl⟩)
theorem zl_names (h : sL w l wy st hd D K HN CN BB) : Zc sc 0 [zp l] w (some (zj (K wy).2.2.2.1)) w 0 0 := by
  obtain ⟨h1, h0, hT, hdn, hM⟩ := id h; have hp := zl_present (sc := sc) h; have hc := clsL_c wy; obtain ⟨-, hQ, -⟩ := hM wy h1; obtain ⟨fs, ho⟩ := sQ_ob hQ; have hB := sQ_B hQ; have hH := sQ_H hQ; have hst := zm_standing (sc := sc) hc hQ; have hga := zm_gaps (sc := sc) hc hQ; have hnm := zm_names (sc := sc) hc hQ; have hk := hQ.2.1
  exact Zc_of rfl rfl (V0_0 h0 ⟨_, hp, _, fs, ho, hc, _, hnm, rfl, rfl, rfl, rfl⟩)
theorem zl_reqName (h : sL w l wy st hd D K HN CN BB) {n : Int} (hn : 0 ≤ n ∧ n < (K wy).2.2.2.1) : Zc sc 5 [zp l, zj n] w none w 0 0 := by
  obtain ⟨h1, h0, hT, hdn, hM⟩ := id h; have hp := zl_present (sc := sc) h; have hc := clsL_c wy; obtain ⟨-, hQ, -⟩ := hM wy h1; obtain ⟨fs, ho⟩ := sQ_ob hQ; have hB := sQ_B hQ; have hH := sQ_H hQ; have hst := zm_standing (sc := sc) hc hQ; have hga := zm_gaps (sc := sc) hc hQ; have hnm := zm_names (sc := sc) hc hQ; have hk := hQ.2.1
  have k4 := hk.2.2.2.1
  exact Zc_of rfl rfl (V5_0 h0 ⟨by omega, fun q => by omega, fun _ => ⟨_, hp, _, fs, ho, hc, _, hnm, by omega, fun _ => ⟨rfl, rfl, rfl, rfl⟩, fun q => by omega⟩⟩)
theorem zl_reqThere (h : sL w l wy st hd D K HN CN BB) {b : bk_T} (hb : b ∈ BB wy) : Zc sc 142 [zp l, zj b.1] w none w 0 0 := by
  obtain ⟨h1, h0, hT, hdn, hM⟩ := id h; have hp := zl_present (sc := sc) h; have hc := clsL_c wy; obtain ⟨-, hQ, -⟩ := hM wy h1; obtain ⟨fs, ho⟩ := sQ_ob hQ; have hB := sQ_B hQ; have hH := sQ_H hQ; have hst := zm_standing (sc := sc) hc hQ; have hga := zm_gaps (sc := sc) hc hQ; have hnm := zm_names (sc := sc) hc hQ; have hk := hQ.2.1
  exact Zc_of rfl rfl (V142_0 h0 ⟨_, hp, _, fs, ho, hc, _, hst, _, hB.ob, _, zc_has_t hB hb, by omega, fun _ => ⟨rfl, rfl, rfl, rfl⟩, fun q => by omega⟩)
theorem zl_reqDeed (h : sL w l wy st hd D K HN CN BB) (hD : D.length < 150) : Zc sc 135 [zp l] w none w 0 0 := by
  obtain ⟨h1, h0, hT, hdn, hM⟩ := id h; have hp := zl_present (sc := sc) h; have hc := clsL_c wy; obtain ⟨-, hQ, -⟩ := hM wy h1; obtain ⟨fs, ho⟩ := sQ_ob hQ; have hB := sQ_B hQ; have hH := sQ_H hQ; have hst := zm_standing (sc := sc) hc hQ; have hga := zm_gaps (sc := sc) hc hQ; have hnm := zm_names (sc := sc) hc hQ; have hk := hQ.2.1
  exact Zc_of rfl rfl (V135_0 h0 ⟨_, hT.ob, _, zc_tLen hT, by omega, fun _ => ⟨rfl, rfl, rfl, rfl⟩, fun q => by omega⟩)
theorem zl_reqSize {z : Int} (hz : 1 ≤ z ∧ z ≤ 300) : Zc sc 37 [zj z] w none w 0 0 :=
  Zc_of rfl rfl (V37_0 ⟨by omega, fun q => by omega, fun _ => ⟨by omega, fun _ => ⟨rfl, rfl, rfl, rfl⟩, fun q => by omega⟩⟩)
theorem zl_isThere_t (h : sL w l wy st hd D K HN CN BB) {b : bk_T} (hb : b ∈ BB wy) (hn : b.1 < (K wy).2.2.2.1) : Zc sc 4 [zp l, zj b.1] w (some (zj 1)) w 0 0 := by
  obtain ⟨h1, h0, hT, hdn, hM⟩ := id h; have hp := zl_present (sc := sc) h; have hc := clsL_c wy; obtain ⟨-, hQ, -⟩ := hM wy h1; obtain ⟨fs, ho⟩ := sQ_ob hQ; have hB := sQ_B hQ; have hH := sQ_H hQ; have hst := zm_standing (sc := sc) hc hQ; have hga := zm_gaps (sc := sc) hc hQ; have hnm := zm_names (sc := sc) hc hQ; have hk := hQ.2.1
  have gb := hB.1.2 b hb
  exact Zc_of rfl rfl (V4_0 h0 ⟨zl_reqName h ⟨gb.1, hn⟩, _, hp, _, fs, ho, hc, _, hst, _, hB.ob, _, zc_has_t hB hb, Or.inr rfl, rfl, rfl, rfl, rfl⟩)
theorem zl_isThere_f (h : sL w l wy st hd D K HN CN BB) {n : Int} (hn : 0 ≤ n ∧ n < (K wy).2.2.2.1) (hb : ∀ b ∈ BB wy, b.1 ≠ n) : Zc sc 4 [zp l, zj n] w (some (zj 0)) w 0 0 := by
  obtain ⟨h1, h0, hT, hdn, hM⟩ := id h; have hp := zl_present (sc := sc) h; have hc := clsL_c wy; obtain ⟨-, hQ, -⟩ := hM wy h1; obtain ⟨fs, ho⟩ := sQ_ob hQ; have hB := sQ_B hQ; have hH := sQ_H hQ; have hst := zm_standing (sc := sc) hc hQ; have hga := zm_gaps (sc := sc) hc hQ; have hnm := zm_names (sc := sc) hc hQ; have hk := hQ.2.1
  have k4 := hk.2.2.2.1
  exact Zc_of rfl rfl (V4_0 h0 ⟨zl_reqName h hn, _, hp, _, fs, ho, hc, _, hst, _, hB.ob, _, zc_has_f hB ⟨by omega, by omega⟩ hb, Or.inl rfl, rfl, rfl, rfl, rfl⟩)
theorem zl_place_t (h : sL w l wy st hd D K HN CN BB) {b : bk_T} (hb : b ∈ BB wy) (hn : b.1 < (K wy).2.2.2.1) : Zc sc 8 [zp l, zj b.1] w (some (zj b.2.1)) w 0 0 := by
  obtain ⟨h1, h0, hT, hdn, hM⟩ := id h; have hp := zl_present (sc := sc) h; have hc := clsL_c wy; obtain ⟨-, hQ, -⟩ := hM wy h1; obtain ⟨fs, ho⟩ := sQ_ob hQ; have hB := sQ_B hQ; have hH := sQ_H hQ; have hst := zm_standing (sc := sc) hc hQ; have hga := zm_gaps (sc := sc) hc hQ; have hnm := zm_names (sc := sc) hc hQ; have hk := hQ.2.1
  have gb := hB.1.2 b hb
  exact Zc_of rfl rfl (V8_0 h0 ⟨zl_reqName h ⟨gb.1, hn⟩, _, hp, _, fs, ho, hc, _, hst, _, hB.ob, _, zc_placeOf_t hB hb, rfl, rfl, rfl, rfl⟩)
theorem zl_place_f (h : sL w l wy st hd D K HN CN BB) {n : Int} (hn : 0 ≤ n ∧ n < (K wy).2.2.2.1) (hb : ∀ b ∈ BB wy, b.1 ≠ n) : Zc sc 8 [zp l, zj n] w (some (zj (-1))) w 0 0 := by
  obtain ⟨h1, h0, hT, hdn, hM⟩ := id h; have hp := zl_present (sc := sc) h; have hc := clsL_c wy; obtain ⟨-, hQ, -⟩ := hM wy h1; obtain ⟨fs, ho⟩ := sQ_ob hQ; have hB := sQ_B hQ; have hH := sQ_H hQ; have hst := zm_standing (sc := sc) hc hQ; have hga := zm_gaps (sc := sc) hc hQ; have hnm := zm_names (sc := sc) hc hQ; have hk := hQ.2.1
  have k4 := hk.2.2.2.1
  exact Zc_of rfl rfl (V8_0 h0 ⟨zl_reqName h hn, _, hp, _, fs, ho, hc, _, hst, _, hB.ob, _, zc_placeOf_f hB ⟨by omega, by omega⟩ hb, rfl, rfl, rfl, rfl⟩)
theorem zl_size_t (h : sL w l wy st hd D K HN CN BB) {b : bk_T} (hb : b ∈ BB wy) (hn : b.1 < (K wy).2.2.2.1) : Zc sc 10 [zp l, zj b.1] w (some (zj b.2.2.1)) w 0 0 := by
  obtain ⟨h1, h0, hT, hdn, hM⟩ := id h; have hp := zl_present (sc := sc) h; have hc := clsL_c wy; obtain ⟨-, hQ, -⟩ := hM wy h1; obtain ⟨fs, ho⟩ := sQ_ob hQ; have hB := sQ_B hQ; have hH := sQ_H hQ; have hst := zm_standing (sc := sc) hc hQ; have hga := zm_gaps (sc := sc) hc hQ; have hnm := zm_names (sc := sc) hc hQ; have hk := hQ.2.1
  have gb := hB.1.2 b hb
  exact Zc_of rfl rfl (V10_0 h0 ⟨zl_reqName h ⟨gb.1, hn⟩, _, hp, _, fs, ho, hc, _, hst, _, hB.ob, _, zc_sizeOf_t hB hb, rfl, rfl, rfl, rfl⟩)
theorem zl_size_f (h : sL w l wy st hd D K HN CN BB) {n : Int} (hn : 0 ≤ n ∧ n < (K wy).2.2.2.1) (hb : ∀ b ∈ BB wy, b.1 ≠ n) : Zc sc 10 [zp l, zj n] w (some (zj (-1))) w 0 0 := by
  obtain ⟨h1, h0, hT, hdn, hM⟩ := id h; have hp := zl_present (sc := sc) h; have hc := clsL_c wy; obtain ⟨-, hQ, -⟩ := hM wy h1; obtain ⟨fs, ho⟩ := sQ_ob hQ; have hB := sQ_B hQ; have hH := sQ_H hQ; have hst := zm_standing (sc := sc) hc hQ; have hga := zm_gaps (sc := sc) hc hQ; have hnm := zm_names (sc := sc) hc hQ; have hk := hQ.2.1
  have k4 := hk.2.2.2.1
  exact Zc_of rfl rfl (V10_0 h0 ⟨zl_reqName h hn, _, hp, _, fs, ho, hc, _, hst, _, hB.ob, _, zc_sizeOf_f hB ⟨by omega, by omega⟩ hb, rfl, rfl, rfl, rfl⟩)
theorem zl_room_t (h : sL w l wy st hd D K HN CN BB) {b : bk_T} (hb : b ∈ BB wy) (hn : b.1 < (K wy).2.2.2.1) : Zc sc 12 [zp l, zj b.1] w (some (zj b.2.2.2)) w 0 0 := by
  obtain ⟨h1, h0, hT, hdn, hM⟩ := id h; have hp := zl_present (sc := sc) h; have hc := clsL_c wy; obtain ⟨-, hQ, -⟩ := hM wy h1; obtain ⟨fs, ho⟩ := sQ_ob hQ; have hB := sQ_B hQ; have hH := sQ_H hQ; have hst := zm_standing (sc := sc) hc hQ; have hga := zm_gaps (sc := sc) hc hQ; have hnm := zm_names (sc := sc) hc hQ; have hk := hQ.2.1
  have gb := hB.1.2 b hb
  exact Zc_of rfl rfl (V12_0 h0 ⟨zl_reqName h ⟨gb.1, hn⟩, _, hp, _, fs, ho, hc, _, hst, _, hB.ob, _, zc_roomOf_t hB hb, rfl, rfl, rfl, rfl⟩)
theorem zl_room_f (h : sL w l wy st hd D K HN CN BB) {n : Int} (hn : 0 ≤ n ∧ n < (K wy).2.2.2.1) (hb : ∀ b ∈ BB wy, b.1 ≠ n) : Zc sc 12 [zp l, zj n] w (some (zj (-1))) w 0 0 := by
  obtain ⟨h1, h0, hT, hdn, hM⟩ := id h; have hp := zl_present (sc := sc) h; have hc := clsL_c wy; obtain ⟨-, hQ, -⟩ := hM wy h1; obtain ⟨fs, ho⟩ := sQ_ob hQ; have hB := sQ_B hQ; have hH := sQ_H hQ; have hst := zm_standing (sc := sc) hc hQ; have hga := zm_gaps (sc := sc) hc hQ; have hnm := zm_names (sc := sc) hc hQ; have hk := hQ.2.1
  have k4 := hk.2.2.2.1
  exact Zc_of rfl rfl (V12_0 h0 ⟨zl_reqName h hn, _, hp, _, fs, ho, hc, _, hst, _, hB.ob, _, zc_roomOf_f hB ⟨by omega, by omega⟩ hb, rfl, rfl, rfl, rfl⟩)
theorem zl_at (h : sL w l wy st hd D K HN CN BB) {b : bk_T} (hb : b ∈ BB wy) {u : Int} (hu : b.2.1 ≤ u ∧ u < b.2.1 + b.2.2.2) : Zc sc 14 [zp l, zj u] w (some (zj b.1)) w 0 0 := by
  obtain ⟨h1, h0, hT, hdn, hM⟩ := id h; have hp := zl_present (sc := sc) h; have hc := clsL_c wy; obtain ⟨-, hQ, -⟩ := hM wy h1; obtain ⟨fs, ho⟩ := sQ_ob hQ; have hB := sQ_B hQ; have hH := sQ_H hQ; have hst := zm_standing (sc := sc) hc hQ; have hga := zm_gaps (sc := sc) hc hQ; have hnm := zm_names (sc := sc) hc hQ; have hk := hQ.2.1
  have gb := hB.1.2 b hb
  exact Zc_of rfl rfl (V14_0 h0 ⟨by omega, fun q => by omega, fun _ => ⟨by omega, fun _ => ⟨_, hp, _, fs, ho, hc, _, hst, _, hB.ob, _, zc_nameOver hB hb hu.1 hu.2, rfl, rfl, rfl, rfl⟩, fun q => by omega⟩⟩)
theorem zl_blocks (h : sL w l wy st hd D K HN CN BB) : Zc sc 17 [zp l] w (some (zj (BB wy).length)) w 0 0 := by
  obtain ⟨h1, h0, hT, hdn, hM⟩ := id h; have hp := zl_present (sc := sc) h; have hc := clsL_c wy; obtain ⟨-, hQ, -⟩ := hM wy h1; obtain ⟨fs, ho⟩ := sQ_ob hQ; have hB := sQ_B hQ; have hH := sQ_H hQ; have hst := zm_standing (sc := sc) hc hQ; have hga := zm_gaps (sc := sc) hc hQ; have hnm := zm_names (sc := sc) hc hQ; have hk := hQ.2.1
  exact Zc_of rfl rfl (V17_0 h0 ⟨_, hp, _, fs, ho, hc, _, hst, _, hB.ob, _, zc_howMany hB, rfl, rfl, rfl, rfl⟩)
theorem zl_holes (h : sL w l wy st hd D K HN CN BB) : Zc sc 19 [zp l] w (some (zj (holF (clsL wy) (BB wy)).length)) w 0 0 := by
  obtain ⟨h1, h0, hT, hdn, hM⟩ := id h; have hp := zl_present (sc := sc) h; have hc := clsL_c wy; obtain ⟨-, hQ, -⟩ := hM wy h1; obtain ⟨fs, ho⟩ := sQ_ob hQ; have hB := sQ_B hQ; have hH := sQ_H hQ; have hst := zm_standing (sc := sc) hc hQ; have hga := zm_gaps (sc := sc) hc hQ; have hnm := zm_names (sc := sc) hc hQ; have hk := hQ.2.1
  exact Zc_of rfl rfl (V19_0 h0 ⟨_, hp, _, fs, ho, hc, _, hga, _, hH.ob, _, zc_hHow hH, rfl, rfl, rfl, rfl⟩)
theorem zl_reqHole (h : sL w l wy st hd D K HN CN BB) {j : Nat} (hj : j < (holF (clsL wy) (BB wy)).length) : Zc sc 23 [zp l, zj j] w none w 0 0 := by
  obtain ⟨h1, h0, hT, hdn, hM⟩ := id h; have hp := zl_present (sc := sc) h; have hc := clsL_c wy; obtain ⟨-, hQ, -⟩ := hM wy h1; obtain ⟨fs, ho⟩ := sQ_ob hQ; have hB := sQ_B hQ; have hH := sQ_H hQ; have hst := zm_standing (sc := sc) hc hQ; have hga := zm_gaps (sc := sc) hc hQ; have hnm := zm_names (sc := sc) hc hQ; have hk := hQ.2.1
  have hl := hH.2.1
  exact Zc_of rfl rfl (V23_0 h0 ⟨by omega, fun q => by omega, fun _ => ⟨_, hp, _, fs, ho, hc, _, hga, _, hH.ob, _, zc_hHow hH, by omega, fun _ => ⟨rfl, rfl, rfl, rfl⟩, fun q => by omega⟩⟩)
theorem zl_holePlace (h : sL w l wy st hd D K HN CN BB) {j : Nat} {x : hl_T} (hx : (holF (clsL wy) (BB wy))[j]? = some x) : Zc sc 22 [zp l, zj j] w (some (zj x.1)) w 0 0 := by
  obtain ⟨h1, h0, hT, hdn, hM⟩ := id h; have hp := zl_present (sc := sc) h; have hc := clsL_c wy; obtain ⟨-, hQ, -⟩ := hM wy h1; obtain ⟨fs, ho⟩ := sQ_ob hQ; have hB := sQ_B hQ; have hH := sQ_H hQ; have hst := zm_standing (sc := sc) hc hQ; have hga := zm_gaps (sc := sc) hc hQ; have hnm := zm_names (sc := sc) hc hQ; have hk := hQ.2.1
  exact Zc_of rfl rfl (V22_0 h0 ⟨zl_reqHole h (List.getElem?_eq_some_iff.mp hx).1, _, hp, _, fs, ho, hc, _, hga, _, hH.ob, _, zc_hPlace_t hH hx, rfl, rfl, rfl, rfl⟩)
theorem zl_holeSize (h : sL w l wy st hd D K HN CN BB) {j : Nat} {x : hl_T} (hx : (holF (clsL wy) (BB wy))[j]? = some x) : Zc sc 25 [zp l, zj j] w (some (zj x.2)) w 0 0 := by
  obtain ⟨h1, h0, hT, hdn, hM⟩ := id h; have hp := zl_present (sc := sc) h; have hc := clsL_c wy; obtain ⟨-, hQ, -⟩ := hM wy h1; obtain ⟨fs, ho⟩ := sQ_ob hQ; have hB := sQ_B hQ; have hH := sQ_H hQ; have hst := zm_standing (sc := sc) hc hQ; have hga := zm_gaps (sc := sc) hc hQ; have hnm := zm_names (sc := sc) hc hQ; have hk := hQ.2.1
  exact Zc_of rfl rfl (V25_0 h0 ⟨zl_reqHole h (List.getElem?_eq_some_iff.mp hx).1, _, hp, _, fs, ho, hc, _, hga, _, hH.ob, _, zc_hSize_t hH hx, rfl, rfl, rfl, rfl⟩)
theorem zl_used (h : sL w l wy st hd D K HN CN BB) : Zc sc 27 [zp l] w (some (zj (sumR (BB wy)))) w 0 0 := by
  obtain ⟨h1, h0, hT, hdn, hM⟩ := id h; have hp := zl_present (sc := sc) h; have hc := clsL_c wy; obtain ⟨-, hQ, -⟩ := hM wy h1; obtain ⟨fs, ho⟩ := sQ_ob hQ; have hB := sQ_B hQ; have hH := sQ_H hQ; have hst := zm_standing (sc := sc) hc hQ; have hga := zm_gaps (sc := sc) hc hQ; have hnm := zm_names (sc := sc) hc hQ; have hk := hQ.2.1
  exact Zc_of rfl rfl (V27_0 h0 ⟨_, hp, _, fs, ho, hc, _, hst, _, hB.ob, _, zc_allRooms hB, rfl, rfl, rfl, rfl⟩)
theorem zl_wasted (h : sL w l wy st hd D K HN CN BB) : Zc sc 29 [zp l] w (some (zj (sumR (BB wy) - sumS (BB wy)))) w 0 0 := by
  obtain ⟨h1, h0, hT, hdn, hM⟩ := id h; have hp := zl_present (sc := sc) h; have hc := clsL_c wy; obtain ⟨-, hQ, -⟩ := hM wy h1; obtain ⟨fs, ho⟩ := sQ_ob hQ; have hB := sQ_B hQ; have hH := sQ_H hQ; have hst := zm_standing (sc := sc) hc hQ; have hga := zm_gaps (sc := sc) hc hQ; have hnm := zm_names (sc := sc) hc hQ; have hk := hQ.2.1
  exact Zc_of rfl rfl (V29_0 h0 ⟨_, hp, _, fs, ho, hc, _, hst, _, hB.ob, _, zc_allRooms hB, _, hp, _, fs, ho, hc, _, hst, _, hB.ob, _, zc_allSizes hB, rfl, rfl, rfl, rfl⟩)
theorem zl_largest (h : sL w l wy st hd D K HN CN BB) : Zc sc 31 [zp l] w (some (zj (maxH (holF (clsL wy) (BB wy))))) w 0 0 := by
  obtain ⟨h1, h0, hT, hdn, hM⟩ := id h; have hp := zl_present (sc := sc) h; have hc := clsL_c wy; obtain ⟨-, hQ, -⟩ := hM wy h1; obtain ⟨fs, ho⟩ := sQ_ob hQ; have hB := sQ_B hQ; have hH := sQ_H hQ; have hst := zm_standing (sc := sc) hc hQ; have hga := zm_gaps (sc := sc) hc hQ; have hnm := zm_names (sc := sc) hc hQ; have hk := hQ.2.1
  exact Zc_of rfl rfl (V31_0 h0 ⟨_, hp, _, fs, ho, hc, _, hga, _, hH.ob, _, zc_hLargest hH, rfl, rfl, rfl, rfl⟩)
theorem zl_counted (h : sL w l wy st hd D K HN CN BB) {x : Int} (hx : 0 ≤ x ∧ x ≤ 4) : Zc sc 33 [zp l, zj x] w (some (zj (zgi (CN wy) x))) w 0 0 := by
  obtain ⟨h1, h0, hT, hdn, hM⟩ := id h; have hp := zl_present (sc := sc) h; have hc := clsL_c wy; obtain ⟨-, hQ, -⟩ := hM wy h1; obtain ⟨fs, ho⟩ := sQ_ob hQ; have hB := sQ_B hQ; have hH := sQ_H hQ; have hst := zm_standing (sc := sc) hc hQ; have hga := zm_gaps (sc := sc) hc hQ; have hnm := zm_names (sc := sc) hc hQ; have hk := hQ.2.1
  have hco := zm_countOf (sc := sc) hc hQ (x := x) (by omega)
  rw [show cntF (clsL wy) (K wy) (CN wy) (BB wy) x = zgi (CN wy) x by unfold cntF; rw [if_pos hx.2]] at hco
  exact Zc_of rfl rfl (V33_0 h0 ⟨by omega, fun q => by omega, fun _ => ⟨by omega, fun _ => ⟨_, hp, _, fs, ho, hc, _, hco, rfl, rfl, rfl, rfl⟩, fun q => by omega⟩⟩)
theorem zl_peak (h : sL w l wy st hd D K HN CN BB) : Zc sc 35 [zp l] w (some (zj (K wy).2.2.2.2.2.1)) w 0 0 := by
  obtain ⟨h1, h0, hT, hdn, hM⟩ := id h; have hp := zl_present (sc := sc) h; have hc := clsL_c wy; obtain ⟨-, hQ, -⟩ := hM wy h1; obtain ⟨fs, ho⟩ := sQ_ob hQ; have hB := sQ_B hQ; have hH := sQ_H hQ; have hst := zm_standing (sc := sc) hc hQ; have hga := zm_gaps (sc := sc) hc hQ; have hnm := zm_names (sc := sc) hc hQ; have hk := hQ.2.1
  have hco := zm_countOf (sc := sc) hc hQ (x := 5) (by omega)
  exact Zc_of rfl rfl (V35_0 h0 ⟨_, hp, _, fs, ho, hc, _, hco, rfl, rfl, rfl, rfl⟩)
/-- a memory in which alone something was moved -/
theorem sL_one (h : sL w l wy st hd D K HN CN BB) {i : Nat} (hi : i < 6) {k : mk_T} {hn : Int} {cn : List Int} {B : List bk_T} (hf : zFm w w' (l + offL i) (msz (clsL i))) (hm : mOK w' l i st hd D k hn cn B) (hd2 : i = wy → k.2.2.2.2.2.2.1 = D.length) :
    sL w' l wy st hd D (fun j => if j = i then k else K j) (fun j => if j = i then hn else HN j) (fun j => if j = i then cn else CN j) (fun j => if j = i then B else BB j) := by
  obtain ⟨h1, h0, hT, hdn, hM⟩ := h
  have r := off_rg hi
  refine ⟨h1, zFm_get hf h0 (by omega), sT_fm hf (by omega) hT, ?_, fun j hj => ?_⟩
  · dsimp only
    by_cases e : wy = i
    · rw [if_pos e]; exact hd2 e.symm
    · rw [if_neg e]; exact hdn
  · dsimp only
    by_cases e : j = i
    · subst e
      rw [if_pos rfl, if_pos rfl, if_pos rfl, if_pos rfl]
      exact hm
    · rw [if_neg e, if_neg e, if_neg e, if_neg e]
      obtain ⟨q1, q2, q3⟩ := hM j hj
      have d := off_dis hj hi e
      exact ⟨q1, sQ_fm hf (by omega) q2, q3⟩
theorem sL_same (h : sL w l wy st hd D K HN CN BB) {i : Nat} (hi : i < 6) (hf : zFm w w' (l + offL i) (msz (clsL i))) (hq : sQ w' (clsL i) (l + offL i) (K i) (HN i) (CN i) (BB i)) : sL w' l wy st hd D K HN CN BB := by
  obtain ⟨h1, h0, hT, hdn, hM⟩ := id h
  have r := off_rg hi
  refine ⟨h1, zFm_get hf h0 (by omega), sT_fm hf (by omega) hT, hdn, fun j hj => ?_⟩
  obtain ⟨q1, q2, q3⟩ := hM j hj
  by_cases e : j = i
  · subst e; exact ⟨q1, hq, q3⟩
  · have d := off_dis hj hi e
    exact ⟨q1, sQ_fm hf (by omega) q2, q3⟩
theorem zFm_lab {i : Nat} (hi : i < 6) (hf : zFm w w' (l + offL i) (msz (clsL i))) : zFm w w' l 72 := by
  have := off_rg hi
  exact zFm_mono hf (by omega) (by omega)
theorem zl_wouldBe (h : sL w l wy st hd D K HN CN BB) {z : Int} (hz : 1 ≤ z ∧ z ≤ 300) : ∃ p w', Zc sc 36 [zp l, zj z] w (some (zj p)) w' 0 0 ∧ zFm w w' l 72 ∧ sL w' l wy st hd D K HN CN BB ∧ selP (clsL wy) (K wy).1 (HN wy) (holF (clsL wy) (BB wy)) (rmF (clsL wy) (K wy) z) p ∧ -1 ≤ p ∧ p ≤ 1024 := by
  obtain ⟨h1, h0, hT, hdn, hM⟩ := id h; have hp := zl_present (sc := sc) h; have hc := clsL_c wy; obtain ⟨-, hQ, -⟩ := hM wy h1; obtain ⟨fs, ho⟩ := sQ_ob hQ; have hB := sQ_B hQ; have hH := sQ_H hQ; have hst := zm_standing (sc := sc) hc hQ; have hga := zm_gaps (sc := sc) hc hQ; have hnm := zm_names (sc := sc) hc hQ; have hk := hQ.2.1
  obtain ⟨p, w1, z1, z2, z3, z4, z5⟩ := zm_placeFor (sc := sc) hc hQ hz
  exact ⟨p, w1, Zc_of rfl rfl (V36_0 h0 ⟨zl_reqSize hz, _, hp, _, fs, ho, hc, _, _, z1, rfl, rfl, rfl, rfl⟩), zFm_lab h1 z2, sL_same h h1 z2 z3, z4, z5⟩
theorem zl_greatest (h : sL w l wy st hd D K HN CN BB) : ∃ g w', Zc sc 53 [zp l] w (some (zj g)) w' 0 0 ∧ zFm w w' l 72 ∧ sL w' l wy st hd D K HN CN BB ∧ (0 ≤ g ∧ g ≤ 300) ∧ (1 ≤ g → rmF (clsL wy) (K wy) g ≤ maxH (holF (clsL wy) (BB wy)) ∧ ∃ p, 0 ≤ p ∧ selP (clsL wy) (K wy).1 (HN wy) (holF (clsL wy) (BB wy)) (rmF (clsL wy) (K wy) g) p) ∧ ∀ z, g < z → z ≤ 300 → grN (clsL wy) (K wy) (HN wy) (BB wy) z := by
  obtain ⟨h1, h0, hT, hdn, hM⟩ := id h; have hp := zl_present (sc := sc) h; have hc := clsL_c wy; obtain ⟨-, hQ, -⟩ := hM wy h1; obtain ⟨fs, ho⟩ := sQ_ob hQ; have hB := sQ_B hQ; have hH := sQ_H hQ; have hst := zm_standing (sc := sc) hc hQ; have hga := zm_gaps (sc := sc) hc hQ; have hnm := zm_names (sc := sc) hc hQ; have hk := hQ.2.1
  obtain ⟨g, w1, z1, z2, z3, z4⟩ := zm_greatest (sc := sc) hc hQ
  exact ⟨g, w1, Zc_of rfl rfl (V53_0 h0 ⟨_, hp, _, fs, ho, hc, _, _, z1, rfl, rfl, rfl, rfl⟩), zFm_lab h1 z2, sL_same h h1 z2 z3, z4⟩
end LAB
