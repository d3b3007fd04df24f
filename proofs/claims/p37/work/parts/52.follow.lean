/-! ===== follow, and what would be ===== -/
def wfM (c : Nat) (i : Int) (k : mk_T) (cn : List Int) (B : List bk_T) : Prop :=
  ((c = 1 → k.1 = 4) ∧ (c = 2 → k.1 ≤ 3) ∧ (c = 4 → k.1 = 5)) ∧ (-i ≤ k.2.2.2.2.1 ∧ k.2.2.2.2.1 ≤ i) ∧ (∀ b ∈ B, b.1 < k.2.2.2.1) ∧ (B.length : Int) ≤ k.2.2.2.1 ∧ (∀ b ∈ B, b.2.2.2 = roomF c (k.2.1) (k.2.2.1) b.2.2.1) ∧ ∀ j : Int, 0 ≤ j → j ≤ 4 → 0 ≤ zgi cn j ∧ zgi cn j ≤ 2000 * i
def welF (k : mk_T) : mk_T := (k.1, k.2.1, k.2.2.1, k.2.2.2.1 + 1, k.2.2.2.2.1, k.2.2.2.2.2.1, k.2.2.2.2.2.2.1, zsi (k.2.2.2.2.2.2.2) (k.2.2.2.1) (k.2.2.2.2.1))
def arF (k : mk_T) (x : Int) : mk_T := (k.1, k.2.1, k.2.2.1, k.2.2.2.1, x, k.2.2.2.2.2.1, k.2.2.2.2.2.2.1, k.2.2.2.2.2.2.2)
def pkF (k : mk_T) (x : Int) : mk_T := (k.1, k.2.1, k.2.2.1, k.2.2.2.1, k.2.2.2.2.1, x, k.2.2.2.2.2.2.1, k.2.2.2.2.2.2.2)
def dnF (k : mk_T) (x : Int) : mk_T := (k.1, k.2.1, k.2.2.1, k.2.2.2.1, k.2.2.2.2.1, k.2.2.2.2.2.1, x, k.2.2.2.2.2.2.2)
def rmF (c : Nat) (k : mk_T) (z : Int) : Int := roomF c (k.2.1) (k.2.2.1) z
def dop (c : Nat) (d : dd_T) (k : mk_T) (hn : Int) (cn : List Int) (B : List bk_T) (k1 : mk_T) (hn1 : Int) (cn1 : List Int) (B1 : List bk_T) : Prop :=
  cLe cn cn1 1100 ∧
  ((d.1 = 0 ∧ ((80 ≤ k.2.2.2.1 ∧ k1 = k ∧ hn1 = hn ∧ B1 = B) ∨ (k.2.2.2.1 < 80 ∧ k1 = welF k ∧
      ((B1 = B ∧ hn1 = hn ∧ selP c (k.1) hn (holF c B) (rmF c k d.2.2) (-1)) ∨ ∃ X Y p, B = X ++ Y ∧ B1 = X ++ (k.2.2.2.1, p, d.2.2, rmF c k d.2.2) :: Y ∧ hn1 = hnF (k.1) hn p (rmF c k d.2.2) ∧ selP c (k.1) hn (holF c B) (rmF c k d.2.2) p ∧ 0 ≤ p)))) ∨
   (d.1 = 1 ∧ k1 = k ∧ hn1 = hn ∧ (((∀ b ∈ B, b.1 ≠ d.2.1) ∧ B1 = B) ∨ ∃ X b Y, B = X ++ b :: Y ∧ b.1 = d.2.1 ∧ B1 = X ++ Y)) ∨
   (d.1 = 2 ∧ k1 = k ∧ (((∀ b ∈ B, b.1 ≠ d.2.1) ∧ hn1 = hn ∧ B1 = B) ∨ ∃ b, b.1 = d.2.1 ∧ rzR c k hn B b d.2.2 hn1 B1)) ∨
   (d.1 = 3 ∧ k1 = k ∧ ((c ≠ 2 ∧ hn1 = hn ∧ cn1 = cn ∧ B1 = B) ∨ (c = 2 ∧ hn1 = (if 1024 ≤ sumR B then 0 else sumR B) ∧ cn1 = zsi cn 3 (zgi cn 3 + pkM B 0) ∧ B1 = packF B 0))) ∨
   (d.1 = 4 ∧ k1 = arF k (k.2.2.2.2.1 + 1) ∧ hn1 = hn ∧ cn1 = cn ∧ B1 = B) ∨
   (d.1 = 5 ∧ k1 = arF k (k.2.2.2.2.1 - 1) ∧ hn1 = hn ∧ B1 = B.filter fun b => !decide (zgi (k.2.2.2.2.2.2.2) b.1 = k.2.2.2.2.1)))
def fol (c : Nat) : List dd_T → mk_T → Int → List Int → List bk_T → mk_T → Int → List Int → List bk_T → Prop
  | [], k, hn, cn, B, k', hn', cn', B' => k' = k ∧ hn' = hn ∧ cn' = cn ∧ B' = B
  | d :: D, k, hn, cn, B, k', hn', cn', B' => ∃ k1 hn1 cn1 B1, dop c d k hn cn B k1 hn1 cn1 B1 ∧ fol c D (pkF k1 (max (k1.2.2.2.2.2.1) (sumR B1))) hn1 cn1 B1 k' hn' cn' B'
theorem packF_mem : ∀ (X : List bk_T) (to : Int), ∀ b' ∈ packF X to, ∃ b ∈ X, b'.1 = b.1 ∧ b'.2.2 = b.2.2 := by
  intro X
  induction X with
  | nil => intro to b hb; cases hb
  | cons x X ih =>
    intro to b hb
    rcases List.mem_cons.mp hb with rfl | hb
    · exact ⟨x, List.mem_cons_self, rfl, rfl⟩
    · obtain ⟨y, q1, q2⟩ := ih _ b hb
      exact ⟨y, List.mem_cons_of_mem _ q1, q2⟩
theorem dop_wf {c : Nat} {d : dd_T} {i : Int} {k k1 : mk_T} {hn hn1 : Int} {cn cn1 : List Int} {B B1 : List bk_T} (h : dop c d k hn cn B k1 hn1 cn1 B1) (hw : wfM c i k cn B) : wfM c (i + 1) k1 cn1 B1 := by
  obtain ⟨hcl, h⟩ := h
  obtain ⟨w1, w2, w3, w4, w5, w6⟩ := hw
  have w7 : ∀ j : Int, 0 ≤ j → j ≤ 4 → 0 ≤ zgi cn1 j ∧ zgi cn1 j ≤ 2000 * (i + 1) := fun j h0 h4 => by
    have := w6 j h0 h4
    have := hcl.2 j h0 h4
    omega
  have same : k1 = k → (∀ b ∈ B1, ∃ b' ∈ B, b.1 = b'.1 ∧ b.2.2 = b'.2.2) → B1.length ≤ B.length → wfM c (i + 1) k1 cn1 B1 := fun e q1 q2 => by
    subst e
    refine ⟨w1, by omega, fun b hb => ?_, by omega, fun b hb => ?_, w7⟩
    · obtain ⟨b', p1, p2, p3⟩ := q1 b hb
      rw [p2]; exact w3 b' p1
    · obtain ⟨b', p1, p2, p3⟩ := q1 b hb
      rw [p3]; exact w5 b' p1
  rcases h with ⟨-, h⟩ | ⟨-, e, -, h⟩ | ⟨-, e, h⟩ | ⟨-, e, h⟩ | ⟨-, e, -, -, h⟩ | ⟨-, e, -, h⟩
  · rcases h with ⟨-, e, -, h⟩ | ⟨hlt, e, h⟩
    · exact same e (fun b hb => ⟨b, h ▸ hb, rfl, rfl⟩) (by rw [h]; exact Nat.le_refl _)
    · subst e
      rcases h with ⟨h, -, -⟩ | ⟨X, Y, p, e1, e2, -⟩
      · subst h
        exact ⟨w1, by show -(i + 1) ≤ k.2.2.2.2.1 ∧ k.2.2.2.2.1 ≤ i + 1; omega, fun b hb => by have := w3 b hb; show b.1 < k.2.2.2.1 + 1; omega, by show _ ≤ k.2.2.2.1 + 1; omega, w5, w7⟩
      · subst e1
        subst e2
        refine ⟨w1, by show -(i + 1) ≤ k.2.2.2.2.1 ∧ k.2.2.2.2.1 ≤ i + 1; omega, fun b hb => ?_, ?_, fun b hb => ?_, w7⟩
        · show b.1 < k.2.2.2.1 + 1
          rcases mem_mid.mp hb with hb | rfl
          · have := w3 b hb; omega
          · dsimp only; omega
        · show ((X ++ _ :: Y).length : Int) ≤ k.2.2.2.1 + 1
          rw [List.length_append] at w4 ⊢
          rw [List.length_cons]
          omega
        · rcases mem_mid.mp hb with hb | rfl
          · exact w5 b hb
          · rfl
  · rcases h with ⟨-, h⟩ | ⟨X, b, Y, e1, -, e2⟩
    · exact same e (fun b hb => ⟨b, h ▸ hb, rfl, rfl⟩) (by rw [h]; exact Nat.le_refl _)
    · exact same e (fun b hb => ⟨b, by rw [e1]; exact mem_mid.mpr (Or.inl (e2 ▸ hb)), rfl, rfl⟩) (by rw [e1, e2, List.length_append, List.length_append, List.length_cons]; omega)
  · rcases h with ⟨-, -, h⟩ | ⟨b, -, X, Y, e1, h⟩
    · exact same e (fun b hb => ⟨b, h ▸ hb, rfl, rfl⟩) (by rw [h]; exact Nat.le_refl _)
    · subst e
      subst e1
      rcases h with ⟨-, e2, -⟩ | ⟨-, -, ⟨e2, -⟩ | ⟨p, Z1, Z2, -, -, e3, e2, -⟩⟩
      · subst e2
        refine ⟨w1, by omega, fun y hy => ?_, by rw [len_mid _ b]; exact w4, fun y hy => ?_, w7⟩
        · rcases mem_mid.mp hy with hy | rfl
          · exact w3 y (mem_mid.mpr (Or.inl hy))
          · exact w3 b (by simp)
        · rcases mem_mid.mp hy with hy | rfl
          · exact w5 y (mem_mid.mpr (Or.inl hy))
          · rfl
      · exact same rfl (fun b hb => ⟨b, e2 ▸ hb, rfl, rfl⟩) (by rw [e2]; exact Nat.le_refl _)
      · subst e2
        have hl : (X ++ Y).length = (Z1 ++ Z2).length := by rw [e3]
        refine ⟨w1, by omega, fun y hy => ?_, ?_, fun y hy => ?_, w7⟩
        · rcases mem_mid.mp hy with hy | rfl
          · exact w3 y (mem_mid.mpr (Or.inl (e3 ▸ hy)))
          · exact w3 b (by simp)
        · rw [List.length_append, List.length_cons] at w4 ⊢
          rw [List.length_append, List.length_append] at hl
          omega
        · rcases mem_mid.mp hy with hy | rfl
          · exact w5 y (mem_mid.mpr (Or.inl (e3 ▸ hy)))
          · rfl
  · rcases h with ⟨-, -, -, h⟩ | ⟨-, -, -, h⟩
    · exact same e (fun b hb => ⟨b, h ▸ hb, rfl, rfl⟩) (by rw [h]; exact Nat.le_refl _)
    · exact same e (fun b hb => packF_mem B 0 b (h ▸ hb)) (by rw [h, packF_len]; exact Nat.le_refl _)
  · subst e
    subst h
    exact ⟨w1, by show -(i + 1) ≤ k.2.2.2.2.1 + 1 ∧ k.2.2.2.2.1 + 1 ≤ i + 1; omega, w3, w4, w5, w7⟩
  · subst e
    subst h
    refine ⟨w1, by show -(i + 1) ≤ k.2.2.2.2.1 - 1 ∧ k.2.2.2.2.1 - 1 ≤ i + 1; omega, fun b hb => w3 b (List.mem_filter.mp hb).1, ?_, fun b hb => w5 b (List.mem_filter.mp hb).1, w7⟩
    have := List.length_filter_le (fun b => !decide (zgi (k.2.2.2.2.2.2.2) b.1 = k.2.2.2.2.1)) B
    show ((B.filter _).length : Int) ≤ k.2.2.2.1
    omega
section FOL
variable {sc : List Value} {w w' : List zE} {m t : Nat} {k k' : mk_T} {hn sn : Int} {cn : List Int} {B B' X Y : List bk_T} {D : List dd_T}
theorem sQ_peak {c : Nat} (h : sQ w c m k hn cn B) : ∃ sn, sR w c m k hn sn cn B (holF c B) (pgF B) ∧ sQ (w.set m (mobj c m (pkF k (max (k.2.2.2.2.2.1) (sumR B))) hn sn)) c m (pkF k (max (k.2.2.2.2.2.1) (sumR B))) hn cn B ∧ zFm w (w.set m (mobj c m (pkF k (max (k.2.2.2.2.2.1) (sumR B))) hn sn)) m (msz c) ∧ (0 ≤ k.2.2.2.2.2.1 ∧ k.2.2.2.2.2.1 ≤ 1024) ∧ 0 ≤ sumR B ∧ sumR B ≤ 1024 := by
  obtain ⟨hc, hk, hh, hg, sn, hs, h6⟩ := h
  have hr := sumR_rg h6.2.1.1
  obtain ⟨k1, k2, k3, k4, k5, k6, k7, k8, k9⟩ := hk
  obtain ⟨r1, f1⟩ := sR_obj (k' := pkF k (max (k.2.2.2.2.2.1) (sumR B))) (hn' := hn) (sn' := sn) h6 rfl
  exact ⟨sn, h6, ⟨hc, ⟨k1, k2, k3, k4, k5, by show 0 ≤ max (k.2.2.2.2.2.1) (sumR B) ∧ max (k.2.2.2.2.2.1) (sumR B) ≤ 1024; omega, k7, k8, k9⟩, hh, hg, sn, hs, r1⟩, f1, k6, hr⟩
theorem follow_key_1 (ht : t + 4 ≤ m ∨ m + msz 1 ≤ t) : ∀ (D2 D1 : List dd_T) (k : mk_T) (hn : Int) (cn : List Int) (B : List bk_T) (w : List zE), D = D1 ++ D2 → sT w t D → sQ w 1 m k hn cn B → wfM 1 D1.length k cn B →
    ∃ w' k' hn' cn' B', Zr sc 57 5 [zp m, zp t, zj D1.length] [] w (some (zp m)) w' 0 0 ∧ zFm w w' m (msz 1) ∧ sQ w' 1 m (dnF k' D.length) hn' cn' B' ∧ fol 1 D2 k hn cn B k' hn' cn' B' ∧ wfM 1 D.length k' cn' B' := by
  intro D2
  induction D2 with
  | nil =>
    intro D1 k hn cn B w e hT h hw
    rw [List.append_nil] at e
    subst e
    obtain ⟨hc, hk, hh, hg, sn, hs, h6⟩ := h
    obtain ⟨k1, k2, k3, k4, k5, k6, k7, k8, k9⟩ := hk
    have hTl := hT.2.1
    obtain ⟨r1, f1⟩ := sR_obj (k' := dnF k D.length) (hn' := hn) (sn' := sn) h6 rfl
    exact ⟨_, k, hn, cn, B, V57_5_1 h6.1 ⟨_, hT.ob, _, zc_tLen hT, by omega, fun _ => ⟨_, zc_tLen hT, rfl, rfl, rfl, rfl⟩, fun q => by omega⟩, f1, ⟨hc, ⟨k1, k2, k3, k4, k5, k6, by show 0 ≤ (D.length : Int) ∧ (D.length : Int) ≤ 150; omega, k8, k9⟩, hh, hg, sn, hs, r1⟩, ⟨rfl, rfl, rfl, rfl⟩, hw⟩
  | cons d D2 ih =>
    intro D1 k hn cn B w e hT h hw
    have hkd : D[D1.length]? = some d := by rw [e]; exact mid_eq
    have hlt := (List.getElem?_eq_some_iff.mp hkd).1
    have hTl := hT.2.1
    have gd := hT.1 d (List.mem_of_getElem? hkd)
    have e2 : D = (D1 ++ [d]) ++ D2 := by rw [e]; simp
    have hlx : ((D1 ++ [d]).length : Int) = (D1.length : Int) + 1 := by simp
    obtain ⟨hc, hk, hh, hg, sn, hs, h6⟩ := id h
    have hkc := hk
    obtain ⟨k1, k2, k3, k4, k5, k6, k7, k8, k9⟩ := hkc
    have hwc := hw
    obtain ⟨q1, q2, q3, q4, q5, q6⟩ := hwc
    -- the way on, once the deed is done
    have go : ∀ (w1 : List zE) (ka : mk_T) (ha : Int) (ca : List Int) (Ba : List bk_T), zFm w w1 m (msz 1) → sQ w1 1 m ka ha ca Ba → dop 1 d k hn cn B ka ha ca Ba → ∃ sa, sR w1 1 m ka ha sa ca Ba (holF 1 Ba) (pgF Ba) ∧ ((0 ≤ ka.2.2.2.2.2.1 ∧ ka.2.2.2.2.2.1 ≤ 1024) ∧ 0 ≤ sumR Ba ∧ sumR Ba ≤ 1024) ∧ ∃ w' k' hn' cn' B', Zr sc 57 5 [zp m, zp t, zj ((D1.length : Int) + 1)] [] (w1.set m (mobj 1 m (pkF ka (max (ka.2.2.2.2.2.1) (sumR Ba))) ha sa)) (some (zp m)) w' 0 0 ∧ zFm w w' m (msz 1) ∧ sQ w' 1 m (dnF k' D.length) hn' cn' B' ∧ fol 1 (d :: D2) k hn cn B k' hn' cn' B' ∧ wfM 1 D.length k' cn' B' := by
      intro w1 ka ha ca Ba hf hq hd
      obtain ⟨sa, s1, s2, s3, s4, s5⟩ := sQ_peak hq
      have hw1 := dop_wf hd hw
      obtain ⟨w', k', hn', cn', B', z1, z2, z3, z4, z5⟩ := ih (D1 ++ [d]) _ ha ca Ba _ e2 (sT_fm (zFm_trans hf s3) (by omega) hT) s2 (by rw [hlx]; exact hw1)
      rw [hlx] at z1
      exact ⟨sa, s1, ⟨s4, s5⟩, w', k', hn', cn', B', z1, zFm_trans hf (zFm_trans s3 z2), z3, ⟨ka, ha, ca, Ba, hd, z4⟩, z5⟩
    have hcase : d.1 = 0 ∨ d.1 = 1 ∨ d.1 = 2 ∨ d.1 = 3 ∨ d.1 = 4 ∨ d.1 = 5 := by omega
    have tk := zc_tKind (sc := sc) hT hkd
    have tn := zc_tName (sc := sc) hT hkd
    have tz := zc_tSize (sc := sc) hT hkd
    rcases hcase with hd | hd | hd | hd | hd | hd
    · -- asking
      rcases zc_welcome_1 (sc := sc) h (by omega) q3 (z := d.2.2) (by omega) with ⟨g1, z1⟩ | ⟨g1, w1, hn1, cn1, B1, z1, z2, z3, z4, z5⟩
      · obtain ⟨sa, s1, s2, w', k', hn', cn', B', y1, y2⟩ := go w k hn cn B (zFm_refl _ _ _) h ⟨cLe_refl hc (by omega), Or.inl ⟨hd, Or.inl ⟨g1, rfl, rfl, rfl⟩⟩⟩
        exact ⟨w', k', hn', cn', B', V57_5_1 h6.1 ⟨_, hT.ob, _, zc_tLen hT, by omega, fun q => by omega, fun _ => ⟨_, tk, by omega, fun q => by omega, fun _ => ⟨_, tz, w, z1, _, _, _, _, _, _, _, _, _, s1.1, _, s1.2.1.ob, _, zc_allRooms s1.2.1, by omega, y1⟩, fun q => by omega, fun q => by omega, fun q => by omega, fun q => by omega, fun q => by omega⟩⟩, y2⟩
      · obtain ⟨sa, s1, s2, w', k', hn', cn', B', y1, y2⟩ := go w1 _ hn1 cn1 B1 z2 z3 ⟨cLe_mono z4 (by omega), Or.inl ⟨hd, Or.inr ⟨g1, rfl, z5⟩⟩⟩
        exact ⟨w', k', hn', cn', B', V57_5_1 h6.1 ⟨_, hT.ob, _, zc_tLen hT, by omega, fun q => by omega, fun _ => ⟨_, tk, by omega, fun q => by omega, fun _ => ⟨_, tz, w1, z1, _, _, _, _, _, _, _, _, _, s1.1, _, s1.2.1.ob, _, zc_allRooms s1.2.1, ⟨⟨by omega, by omega⟩, by omega⟩, y1⟩, fun q => by omega, fun q => by omega, fun q => by omega, fun q => by omega, fun q => by omega⟩⟩, y2⟩
    · -- giving back
      rcases bcase B d.2.1 with ⟨b, hb, eb⟩ | hno
      · obtain ⟨X, Y, rfl⟩ := List.append_of_mem hb
        obtain ⟨w1, cn1, z1, z2, z3, z4⟩ := zc_release_1 (sc := sc) h
        rw [eb] at z1
        obtain ⟨sa, s1, s2, w', k', hn', cn', B', y1, y2⟩ := go w1 k hn cn1 (X ++ Y) z2 z3 ⟨cLe_mono z4 (by omega), Or.inr (Or.inl ⟨hd, rfl, rfl, Or.inr ⟨X, b, Y, rfl, eb, rfl⟩⟩)⟩
        exact ⟨w', k', hn', cn', B', V57_5_1 h6.1 ⟨_, hT.ob, _, zc_tLen hT, by omega, fun q => by omega, fun _ => ⟨_, tk, by omega, fun q => by omega, fun q => by omega, fun _ => ⟨_, tn, w1, z1, _, _, _, _, _, _, _, _, _, s1.1, _, s1.2.1.ob, _, zc_allRooms s1.2.1, by omega, y1⟩, fun q => by omega, fun q => by omega, fun q => by omega, fun q => by omega⟩⟩, y2⟩
      · have z1 := zc_release_f_1 (sc := sc) h (n := d.2.1) (by omega) hno
        obtain ⟨sa, s1, s2, w', k', hn', cn', B', y1, y2⟩ := go w k hn cn B (zFm_refl _ _ _) h ⟨cLe_refl hc (by omega), Or.inr (Or.inl ⟨hd, rfl, rfl, Or.inl ⟨hno, rfl⟩⟩)⟩
        exact ⟨w', k', hn', cn', B', V57_5_1 h6.1 ⟨_, hT.ob, _, zc_tLen hT, by omega, fun q => by omega, fun _ => ⟨_, tk, by omega, fun q => by omega, fun q => by omega, fun _ => ⟨_, tn, w, z1, _, _, _, _, _, _, _, _, _, s1.1, _, s1.2.1.ob, _, zc_allRooms s1.2.1, by omega, y1⟩, fun q => by omega, fun q => by omega, fun q => by omega, fun q => by omega⟩⟩, y2⟩
    · -- resizing
      rcases bcase B d.2.1 with ⟨b, hb, eb⟩ | hno
      · obtain ⟨X, Y, rfl⟩ := List.append_of_mem hb
        obtain ⟨w1, hn1, cn1, B1, z1, z2, z3, z4, z5⟩ := zc_resettle_1 (sc := sc) h (by omega) (fun x hx => by have := q3 x hx; omega) (z := d.2.2) (by omega)
        rw [eb] at z1
        obtain ⟨sa, s1, s2, w', k', hn', cn', B', y1, y2⟩ := go w1 k hn1 cn1 B1 z2 z3 ⟨cLe_mono z4 (by omega), Or.inr (Or.inr (Or.inl ⟨hd, rfl, Or.inr ⟨b, eb, z5⟩⟩))⟩
        exact ⟨w', k', hn', cn', B', V57_5_1 h6.1 ⟨_, hT.ob, _, zc_tLen hT, by omega, fun q => by omega, fun _ => ⟨_, tk, by omega, fun q => by omega, fun q => by omega, fun q => by omega, fun _ => ⟨_, tn, _, tz, w1, z1, _, _, _, _, _, _, _, _, _, s1.1, _, s1.2.1.ob, _, zc_allRooms s1.2.1, by omega, y1⟩, fun q => by omega, fun q => by omega, fun q => by omega⟩⟩, y2⟩
      · have z1 := zc_resettle_f_1 (sc := sc) h (n := d.2.1) (z := d.2.2) (by omega) hno
        obtain ⟨sa, s1, s2, w', k', hn', cn', B', y1, y2⟩ := go w k hn cn B (zFm_refl _ _ _) h ⟨cLe_refl hc (by omega), Or.inr (Or.inr (Or.inl ⟨hd, rfl, Or.inl ⟨hno, rfl, rfl⟩⟩))⟩
        exact ⟨w', k', hn', cn', B', V57_5_1 h6.1 ⟨_, hT.ob, _, zc_tLen hT, by omega, fun q => by omega, fun _ => ⟨_, tk, by omega, fun q => by omega, fun q => by omega, fun q => by omega, fun _ => ⟨_, tn, _, tz, w, z1, _, _, _, _, _, _, _, _, _, s1.1, _, s1.2.1.ob, _, zc_allRooms s1.2.1, by omega, y1⟩, fun q => by omega, fun q => by omega, fun q => by omega⟩⟩, y2⟩
    · -- packing
      have z1 : Zc sc 96 [zp m] w none w 0 0 := Zc_of rfl rfl (V96_0_1 ⟨rfl, rfl, rfl, rfl⟩)
      obtain ⟨sa, s1, s2, w', k', hn', cn', B', y1, y2⟩ := go w k hn cn B (zFm_refl _ _ _) h ⟨cLe_refl hc (by omega), Or.inr (Or.inr (Or.inr (Or.inl ⟨hd, rfl, Or.inl ⟨by decide, rfl, rfl, rfl⟩⟩)))⟩
      exact ⟨w', k', hn', cn', B', V57_5_1 s1.1 ⟨_, hT.ob, _, zc_tLen hT, by omega, fun q => by omega, fun _ => ⟨_, tk, by omega, fun q => by omega, fun q => by omega, fun q => by omega, fun q => by omega, fun _ => ⟨z1, _, s1.2.1.ob, _, zc_allRooms s1.2.1, by omega, y1⟩, fun q => by omega, fun q => by omega⟩⟩, y2⟩
    · -- opening
      obtain ⟨r1, f1⟩ := sR_obj (k' := arF k (k.2.2.2.2.1 + 1)) (hn' := hn) (sn' := sn) h6 rfl
      have hq1 : sQ _ 1 m (arF k (k.2.2.2.2.1 + 1)) hn cn B := ⟨hc, ⟨k1, k2, k3, k4, by show 0 ≤ k.2.2.2.2.1 + 1 + 200 ∧ k.2.2.2.2.1 + 1 ≤ 200; omega, k6, k7, k8, k9⟩, hh, hg, sn, hs, r1⟩
      obtain ⟨sa, s1, s2, w', k', hn', cn', B', y1, y2⟩ := go _ _ hn cn B f1 hq1 ⟨cLe_refl hc (by omega), Or.inr (Or.inr (Or.inr (Or.inr (Or.inl ⟨hd, rfl, rfl, rfl, rfl⟩))))⟩
      have s2' : ((0 ≤ k.2.2.2.2.2.1 ∧ k.2.2.2.2.2.1 ≤ 1024) ∧ 0 ≤ sumR B ∧ sumR B ≤ 1024) := s2
      have esn : zj sa = zj sn := by
        have := s1.1.symm.trans (zw_s h6.1)
        injection this with this
        unfold mobj zob at this
        injection this with this
        injection this with this
        injection this with _ this
        simp only [List.cons_append, List.cons.injEq] at this
        exact this.2.2.2.2.2.2.1
      refine ⟨w', k', hn', cn', B', V57_5_1 h6.1 ⟨_, hT.ob, _, zc_tLen hT, by omega, fun q => by omega, fun _ => ⟨_, tk, by omega, fun q => by omega, fun q => by omega, fun q => by omega, fun q => by omega, fun q => by omega, fun _ => ⟨_, h6.2.1.ob, _, zc_allRooms r1.2.1, by omega, ?_⟩, fun q => by omega⟩⟩, y2⟩
      unfold mobj at y1
      rw [esn] at y1
      exact y1
    · -- closing
      obtain ⟨w1, cn1, z1, z2, z3, z4⟩ := zc_leave_1 (sc := sc) h q3 (by omega)
      obtain ⟨sa, s1, s2, w', k', hn', cn', B', y1, y2⟩ := go w1 _ hn cn1 _ z2 z3 ⟨cLe_mono z4 (by omega), Or.inr (Or.inr (Or.inr (Or.inr (Or.inr ⟨hd, rfl, rfl, rfl⟩))))⟩
      exact ⟨w', k', hn', cn', B', V57_5_1 h6.1 ⟨_, hT.ob, _, zc_tLen hT, by omega, fun q => by omega, fun _ => ⟨_, tk, by omega, fun q => by omega, fun q => by omega, fun q => by omega, fun q => by omega, fun q => by omega, fun q => by omega, fun _ => ⟨w1, z1, _, _, _, _, _, _, _, _, _, s1.1, _, s1.2.1.ob, _, zc_allRooms s1.2.1, ⟨⟨by omega, by omega⟩, by omega⟩, y1⟩⟩⟩, y2⟩
theorem zc_follow_1 {D1 D2 : List dd_T} (ht : t + 4 ≤ m ∨ m + msz 1 ≤ t) (hT : sT w t (D1 ++ D2)) (h : sQ w 1 m k hn cn B) (hw : wfM 1 D1.length k cn B) (hd : k.2.2.2.2.2.2.1 = D1.length) :
    ∃ w' k' hn' cn' B', Zc sc 57 [zp m, zp t] w (some (zp m)) w' 0 0 ∧ zFm w w' m (msz 1) ∧ sQ w' 1 m (dnF k' (D1 ++ D2).length) hn' cn' B' ∧ fol 1 D2 k hn cn B k' hn' cn' B' ∧ wfM 1 (D1 ++ D2).length k' cn' B' := by
  obtain ⟨w', k', hn', cn', B', z1, z2⟩ := follow_key_1 (sc := sc) ht D2 D1 k hn cn B w rfl hT h hw
  rw [← hd] at z1
  obtain ⟨hc, hk, hh, hg, sn, hs, h6⟩ := id h
  exact ⟨w', k', hn', cn', B', Zc_of rfl rfl (V57_0_1 h6.1 z1), z2⟩
theorem follow_key_2 (ht : t + 4 ≤ m ∨ m + msz 2 ≤ t) : ∀ (D2 D1 : List dd_T) (k : mk_T) (hn : Int) (cn : List Int) (B : List bk_T) (w : List zE), D = D1 ++ D2 → sT w t D → sQ w 2 m k hn cn B → wfM 2 D1.length k cn B →
    ∃ w' k' hn' cn' B', Zr sc 57 5 [zp m, zp t, zj D1.length] [] w (some (zp m)) w' 0 0 ∧ zFm w w' m (msz 2) ∧ sQ w' 2 m (dnF k' D.length) hn' cn' B' ∧ fol 2 D2 k hn cn B k' hn' cn' B' ∧ wfM 2 D.length k' cn' B' := by
  intro D2
  induction D2 with
  | nil =>
    intro D1 k hn cn B w e hT h hw
    rw [List.append_nil] at e
    subst e
    obtain ⟨hc, hk, hh, hg, sn, hs, h6⟩ := h
    obtain ⟨k1, k2, k3, k4, k5, k6, k7, k8, k9⟩ := hk
    have hTl := hT.2.1
    obtain ⟨r1, f1⟩ := sR_obj (k' := dnF k D.length) (hn' := hn) (sn' := sn) h6 rfl
    exact ⟨_, k, hn, cn, B, V57_5_2 h6.1 ⟨_, hT.ob, _, zc_tLen hT, by omega, fun _ => ⟨_, zc_tLen hT, rfl, rfl, rfl, rfl⟩, fun q => by omega⟩, f1, ⟨hc, ⟨k1, k2, k3, k4, k5, k6, by show 0 ≤ (D.length : Int) ∧ (D.length : Int) ≤ 150; omega, k8, k9⟩, hh, hg, sn, hs, r1⟩, ⟨rfl, rfl, rfl, rfl⟩, hw⟩
  | cons d D2 ih =>
    intro D1 k hn cn B w e hT h hw
    have hkd : D[D1.length]? = some d := by rw [e]; exact mid_eq
    have hlt := (List.getElem?_eq_some_iff.mp hkd).1
    have hTl := hT.2.1
    have gd := hT.1 d (List.mem_of_getElem? hkd)
    have e2 : D = (D1 ++ [d]) ++ D2 := by rw [e]; simp
    have hlx : ((D1 ++ [d]).length : Int) = (D1.length : Int) + 1 := by simp
    obtain ⟨hc, hk, hh, hg, sn, hs, h6⟩ := id h
    have hkc := hk
    obtain ⟨k1, k2, k3, k4, k5, k6, k7, k8, k9⟩ := hkc
    have hwc := hw
    obtain ⟨q1, q2, q3, q4, q5, q6⟩ := hwc
    -- the way on, once the deed is done
    have go : ∀ (w1 : List zE) (ka : mk_T) (ha : Int) (ca : List Int) (Ba : List bk_T), zFm w w1 m (msz 2) → sQ w1 2 m ka ha ca Ba → dop 2 d k hn cn B ka ha ca Ba → ∃ sa, sR w1 2 m ka ha sa ca Ba (holF 2 Ba) (pgF Ba) ∧ ((0 ≤ ka.2.2.2.2.2.1 ∧ ka.2.2.2.2.2.1 ≤ 1024) ∧ 0 ≤ sumR Ba ∧ sumR Ba ≤ 1024) ∧ ∃ w' k' hn' cn' B', Zr sc 57 5 [zp m, zp t, zj ((D1.length : Int) + 1)] [] (w1.set m (mobj 2 m (pkF ka (max (ka.2.2.2.2.2.1) (sumR Ba))) ha sa)) (some (zp m)) w' 0 0 ∧ zFm w w' m (msz 2) ∧ sQ w' 2 m (dnF k' D.length) hn' cn' B' ∧ fol 2 (d :: D2) k hn cn B k' hn' cn' B' ∧ wfM 2 D.length k' cn' B' := by
      intro w1 ka ha ca Ba hf hq hd
      obtain ⟨sa, s1, s2, s3, s4, s5⟩ := sQ_peak hq
      have hw1 := dop_wf hd hw
      obtain ⟨w', k', hn', cn', B', z1, z2, z3, z4, z5⟩ := ih (D1 ++ [d]) _ ha ca Ba _ e2 (sT_fm (zFm_trans hf s3) (by omega) hT) s2 (by rw [hlx]; exact hw1)
      rw [hlx] at z1
      exact ⟨sa, s1, ⟨s4, s5⟩, w', k', hn', cn', B', z1, zFm_trans hf (zFm_trans s3 z2), z3, ⟨ka, ha, ca, Ba, hd, z4⟩, z5⟩
    have hcase : d.1 = 0 ∨ d.1 = 1 ∨ d.1 = 2 ∨ d.1 = 3 ∨ d.1 = 4 ∨ d.1 = 5 := by omega
    have tk := zc_tKind (sc := sc) hT hkd
    have tn := zc_tName (sc := sc) hT hkd
    have tz := zc_tSize (sc := sc) hT hkd
    rcases hcase with hd | hd | hd | hd | hd | hd
    · -- asking
      rcases zc_welcome_2 (sc := sc) h (by omega) q3 (z := d.2.2) (by omega) with ⟨g1, z1⟩ | ⟨g1, w1, hn1, cn1, B1, z1, z2, z3, z4, z5⟩
      · obtain ⟨sa, s1, s2, w', k', hn', cn', B', y1, y2⟩ := go w k hn cn B (zFm_refl _ _ _) h ⟨cLe_refl hc (by omega), Or.inl ⟨hd, Or.inl ⟨g1, rfl, rfl, rfl⟩⟩⟩
        exact ⟨w', k', hn', cn', B', V57_5_2 h6.1 ⟨_, hT.ob, _, zc_tLen hT, by omega, fun q => by omega, fun _ => ⟨_, tk, by omega, fun q => by omega, fun _ => ⟨_, tz, w, z1, _, _, _, _, _, _, _, _, _, s1.1, _, s1.2.1.ob, _, zc_allRooms s1.2.1, by omega, y1⟩, fun q => by omega, fun q => by omega, fun q => by omega, fun q => by omega, fun q => by omega⟩⟩, y2⟩
      · obtain ⟨sa, s1, s2, w', k', hn', cn', B', y1, y2⟩ := go w1 _ hn1 cn1 B1 z2 z3 ⟨cLe_mono z4 (by omega), Or.inl ⟨hd, Or.inr ⟨g1, rfl, z5⟩⟩⟩
        exact ⟨w', k', hn', cn', B', V57_5_2 h6.1 ⟨_, hT.ob, _, zc_tLen hT, by omega, fun q => by omega, fun _ => ⟨_, tk, by omega, fun q => by omega, fun _ => ⟨_, tz, w1, z1, _, _, _, _, _, _, _, _, _, s1.1, _, s1.2.1.ob, _, zc_allRooms s1.2.1, ⟨⟨by omega, by omega⟩, by omega⟩, y1⟩, fun q => by omega, fun q => by omega, fun q => by omega, fun q => by omega, fun q => by omega⟩⟩, y2⟩
    · -- giving back
      rcases bcase B d.2.1 with ⟨b, hb, eb⟩ | hno
      · obtain ⟨X, Y, rfl⟩ := List.append_of_mem hb
        obtain ⟨w1, cn1, z1, z2, z3, z4⟩ := zc_release_2 (sc := sc) h
        rw [eb] at z1
        obtain ⟨sa, s1, s2, w', k', hn', cn', B', y1, y2⟩ := go w1 k hn cn1 (X ++ Y) z2 z3 ⟨cLe_mono z4 (by omega), Or.inr (Or.inl ⟨hd, rfl, rfl, Or.inr ⟨X, b, Y, rfl, eb, rfl⟩⟩)⟩
        exact ⟨w', k', hn', cn', B', V57_5_2 h6.1 ⟨_, hT.ob, _, zc_tLen hT, by omega, fun q => by omega, fun _ => ⟨_, tk, by omega, fun q => by omega, fun q => by omega, fun _ => ⟨_, tn, w1, z1, _, _, _, _, _, _, _, _, _, s1.1, _, s1.2.1.ob, _, zc_allRooms s1.2.1, by omega, y1⟩, fun q => by omega, fun q => by omega, fun q => by omega, fun q => by omega⟩⟩, y2⟩
      · have z1 := zc_release_f_2 (sc := sc) h (n := d.2.1) (by omega) hno
        obtain ⟨sa, s1, s2, w', k', hn', cn', B', y1, y2⟩ := go w k hn cn B (zFm_refl _ _ _) h ⟨cLe_refl hc (by omega), Or.inr (Or.inl ⟨hd, rfl, rfl, Or.inl ⟨hno, rfl⟩⟩)⟩
        exact ⟨w', k', hn', cn', B', V57_5_2 h6.1 ⟨_, hT.ob, _, zc_tLen hT, by omega, fun q => by omega, fun _ => ⟨_, tk, by omega, fun q => by omega, fun q => by omega, fun _ => ⟨_, tn, w, z1, _, _, _, _, _, _, _, _, _, s1.1, _, s1.2.1.ob, _, zc_allRooms s1.2.1, by omega, y1⟩, fun q => by omega, fun q => by omega, fun q => by omega, fun q => by omega⟩⟩, y2⟩
    · -- resizing
      rcases bcase B d.2.1 with ⟨b, hb, eb⟩ | hno
      · obtain ⟨X, Y, rfl⟩ := List.append_of_mem hb
        obtain ⟨w1, hn1, cn1, B1, z1, z2, z3, z4, z5⟩ := zc_resettle_2 (sc := sc) h (by omega) (fun x hx => by have := q3 x hx; omega) (z := d.2.2) (by omega)
        rw [eb] at z1
        obtain ⟨sa, s1, s2, w', k', hn', cn', B', y1, y2⟩ := go w1 k hn1 cn1 B1 z2 z3 ⟨cLe_mono z4 (by omega), Or.inr (Or.inr (Or.inl ⟨hd, rfl, Or.inr ⟨b, eb, z5⟩⟩))⟩
        exact ⟨w', k', hn', cn', B', V57_5_2 h6.1 ⟨_, hT.ob, _, zc_tLen hT, by omega, fun q => by omega, fun _ => ⟨_, tk, by omega, fun q => by omega, fun q => by omega, fun q => by omega, fun _ => ⟨_, tn, _, tz, w1, z1, _, _, _, _, _, _, _, _, _, s1.1, _, s1.2.1.ob, _, zc_allRooms s1.2.1, by omega, y1⟩, fun q => by omega, fun q => by omega, fun q => by omega⟩⟩, y2⟩
      · have z1 := zc_resettle_f_2 (sc := sc) h (n := d.2.1) (z := d.2.2) (by omega) hno
        obtain ⟨sa, s1, s2, w', k', hn', cn', B', y1, y2⟩ := go w k hn cn B (zFm_refl _ _ _) h ⟨cLe_refl hc (by omega), Or.inr (Or.inr (Or.inl ⟨hd, rfl, Or.inl ⟨hno, rfl, rfl⟩⟩))⟩
        exact ⟨w', k', hn', cn', B', V57_5_2 h6.1 ⟨_, hT.ob, _, zc_tLen hT, by omega, fun q => by omega, fun _ => ⟨_, tk, by omega, fun q => by omega, fun q => by omega, fun q => by omega, fun _ => ⟨_, tn, _, tz, w, z1, _, _, _, _, _, _, _, _, _, s1.1, _, s1.2.1.ob, _, zc_allRooms s1.2.1, by omega, y1⟩, fun q => by omega, fun q => by omega, fun q => by omega⟩⟩, y2⟩
    · -- packing
      obtain ⟨w1, z1, z2, z3⟩ := zc_pack_2 (sc := sc) h
      have hpr := pkM_rg B 0 (fun b hb => (h6.2.1.1.2 b hb).2.2.2.2.2.1)
      have hsr := sumR_rg h6.2.1.1
      obtain ⟨sa, s1, s2, w', k', hn', cn', B', y1, y2⟩ := go w1 k _ _ _ z2 z3 ⟨cLe_set hc (by omega) (by omega), Or.inr (Or.inr (Or.inr (Or.inl ⟨hd, rfl, Or.inr ⟨rfl, rfl, rfl, rfl⟩⟩)))⟩
      exact ⟨w', k', hn', cn', B', V57_5_2 h6.1 ⟨_, hT.ob, _, zc_tLen hT, by omega, fun q => by omega, fun _ => ⟨_, tk, by omega, fun q => by omega, fun q => by omega, fun q => by omega, fun q => by omega, fun _ => ⟨w1, z1, _, _, _, _, _, _, _, _, _, s1.1, _, s1.2.1.ob, _, zc_allRooms s1.2.1, by omega, y1⟩, fun q => by omega, fun q => by omega⟩⟩, y2⟩
    · -- opening
      obtain ⟨r1, f1⟩ := sR_obj (k' := arF k (k.2.2.2.2.1 + 1)) (hn' := hn) (sn' := sn) h6 rfl
      have hq1 : sQ _ 2 m (arF k (k.2.2.2.2.1 + 1)) hn cn B := ⟨hc, ⟨k1, k2, k3, k4, by show 0 ≤ k.2.2.2.2.1 + 1 + 200 ∧ k.2.2.2.2.1 + 1 ≤ 200; omega, k6, k7, k8, k9⟩, hh, hg, sn, hs, r1⟩
      obtain ⟨sa, s1, s2, w', k', hn', cn', B', y1, y2⟩ := go _ _ hn cn B f1 hq1 ⟨cLe_refl hc (by omega), Or.inr (Or.inr (Or.inr (Or.inr (Or.inl ⟨hd, rfl, rfl, rfl, rfl⟩))))⟩
      have s2' : ((0 ≤ k.2.2.2.2.2.1 ∧ k.2.2.2.2.2.1 ≤ 1024) ∧ 0 ≤ sumR B ∧ sumR B ≤ 1024) := s2
      have esn : zj sa = zj sn := by
        have := s1.1.symm.trans (zw_s h6.1)
        injection this with this
        unfold mobj zob at this
        injection this with this
        injection this with this
        injection this with _ this
        simp only [List.cons_append, List.cons.injEq] at this
        exact this.2.2.2.2.2.2.1
      refine ⟨w', k', hn', cn', B', V57_5_2 h6.1 ⟨_, hT.ob, _, zc_tLen hT, by omega, fun q => by omega, fun _ => ⟨_, tk, by omega, fun q => by omega, fun q => by omega, fun q => by omega, fun q => by omega, fun q => by omega, fun _ => ⟨_, h6.2.1.ob, _, zc_allRooms r1.2.1, by omega, ?_⟩, fun q => by omega⟩⟩, y2⟩
      unfold mobj at y1
      rw [esn] at y1
      exact y1
    · -- closing
      obtain ⟨w1, cn1, z1, z2, z3, z4⟩ := zc_leave_2 (sc := sc) h q3 (by omega)
      obtain ⟨sa, s1, s2, w', k', hn', cn', B', y1, y2⟩ := go w1 _ hn cn1 _ z2 z3 ⟨cLe_mono z4 (by omega), Or.inr (Or.inr (Or.inr (Or.inr (Or.inr ⟨hd, rfl, rfl, rfl⟩))))⟩
      exact ⟨w', k', hn', cn', B', V57_5_2 h6.1 ⟨_, hT.ob, _, zc_tLen hT, by omega, fun q => by omega, fun _ => ⟨_, tk, by omega, fun q => by omega, fun q => by omega, fun q => by omega, fun q => by omega, fun q => by omega, fun q => by omega, fun _ => ⟨w1, z1, _, _, _, _, _, _, _, _, _, s1.1, _, s1.2.1.ob, _, zc_allRooms s1.2.1, ⟨⟨by omega, by omega⟩, by omega⟩, y1⟩⟩⟩, y2⟩
theorem zc_follow_2 {D1 D2 : List dd_T} (ht : t + 4 ≤ m ∨ m + msz 2 ≤ t) (hT : sT w t (D1 ++ D2)) (h : sQ w 2 m k hn cn B) (hw : wfM 2 D1.length k cn B) (hd : k.2.2.2.2.2.2.1 = D1.length) :
    ∃ w' k' hn' cn' B', Zc sc 57 [zp m, zp t] w (some (zp m)) w' 0 0 ∧ zFm w w' m (msz 2) ∧ sQ w' 2 m (dnF k' (D1 ++ D2).length) hn' cn' B' ∧ fol 2 D2 k hn cn B k' hn' cn' B' ∧ wfM 2 (D1 ++ D2).length k' cn' B' := by
  obtain ⟨w', k', hn', cn', B', z1, z2⟩ := follow_key_2 (sc := sc) ht D2 D1 k hn cn B w rfl hT h hw
  rw [← hd] at z1
  obtain ⟨hc, hk, hh, hg, sn, hs, h6⟩ := id h
  exact ⟨w', k', hn', cn', B', Zc_of rfl rfl (V57_0_2 h6.1 z1), z2⟩
theorem follow_key_4 (ht : t + 4 ≤ m ∨ m + msz 4 ≤ t) : ∀ (D2 D1 : List dd_T) (k : mk_T) (hn : Int) (cn : List Int) (B : List bk_T) (w : List zE), D = D1 ++ D2 → sT w t D → sQ w 4 m k hn cn B → wfM 4 D1.length k cn B →
    ∃ w' k' hn' cn' B', Zr sc 57 5 [zp m, zp t, zj D1.length] [] w (some (zp m)) w' 0 0 ∧ zFm w w' m (msz 4) ∧ sQ w' 4 m (dnF k' D.length) hn' cn' B' ∧ fol 4 D2 k hn cn B k' hn' cn' B' ∧ wfM 4 D.length k' cn' B' := by
  intro D2
  induction D2 with
  | nil =>
    intro D1 k hn cn B w e hT h hw
    rw [List.append_nil] at e
    subst e
    obtain ⟨hc, hk, hh, hg, sn, hs, h6⟩ := h
    obtain ⟨k1, k2, k3, k4, k5, k6, k7, k8, k9⟩ := hk
    have hTl := hT.2.1
    obtain ⟨r1, f1⟩ := sR_obj (k' := dnF k D.length) (hn' := hn) (sn' := sn) h6 rfl
    exact ⟨_, k, hn, cn, B, V57_5_4 h6.1 ⟨_, hT.ob, _, zc_tLen hT, by omega, fun _ => ⟨_, zc_tLen hT, rfl, rfl, rfl, rfl⟩, fun q => by omega⟩, f1, ⟨hc, ⟨k1, k2, k3, k4, k5, k6, by show 0 ≤ (D.length : Int) ∧ (D.length : Int) ≤ 150; omega, k8, k9⟩, hh, hg, sn, hs, r1⟩, ⟨rfl, rfl, rfl, rfl⟩, hw⟩
  | cons d D2 ih =>
    intro D1 k hn cn B w e hT h hw
    have hkd : D[D1.length]? = some d := by rw [e]; exact mid_eq
    have hlt := (List.getElem?_eq_some_iff.mp hkd).1
    have hTl := hT.2.1
    have gd := hT.1 d (List.mem_of_getElem? hkd)
    have e2 : D = (D1 ++ [d]) ++ D2 := by rw [e]; simp
    have hlx : ((D1 ++ [d]).length : Int) = (D1.length : Int) + 1 := by simp
    obtain ⟨hc, hk, hh, hg, sn, hs, h6⟩ := id h
    have hkc := hk
    obtain ⟨k1, k2, k3, k4, k5, k6, k7, k8, k9⟩ := hkc
    have hwc := hw
    obtain ⟨q1, q2, q3, q4, q5, q6⟩ := hwc
    -- the way on, once the deed is done
    have go : ∀ (w1 : List zE) (ka : mk_T) (ha : Int) (ca : List Int) (Ba : List bk_T), zFm w w1 m (msz 4) → sQ w1 4 m ka ha ca Ba → dop 4 d k hn cn B ka ha ca Ba → ∃ sa, sR w1 4 m ka ha sa ca Ba (holF 4 Ba) (pgF Ba) ∧ ((0 ≤ ka.2.2.2.2.2.1 ∧ ka.2.2.2.2.2.1 ≤ 1024) ∧ 0 ≤ sumR Ba ∧ sumR Ba ≤ 1024) ∧ ∃ w' k' hn' cn' B', Zr sc 57 5 [zp m, zp t, zj ((D1.length : Int) + 1)] [] (w1.set m (mobj 4 m (pkF ka (max (ka.2.2.2.2.2.1) (sumR Ba))) ha sa)) (some (zp m)) w' 0 0 ∧ zFm w w' m (msz 4) ∧ sQ w' 4 m (dnF k' D.length) hn' cn' B' ∧ fol 4 (d :: D2) k hn cn B k' hn' cn' B' ∧ wfM 4 D.length k' cn' B' := by
      intro w1 ka ha ca Ba hf hq hd
      obtain ⟨sa, s1, s2, s3, s4, s5⟩ := sQ_peak hq
      have hw1 := dop_wf hd hw
      obtain ⟨w', k', hn', cn', B', z1, z2, z3, z4, z5⟩ := ih (D1 ++ [d]) _ ha ca Ba _ e2 (sT_fm (zFm_trans hf s3) (by omega) hT) s2 (by rw [hlx]; exact hw1)
      rw [hlx] at z1
      exact ⟨sa, s1, ⟨s4, s5⟩, w', k', hn', cn', B', z1, zFm_trans hf (zFm_trans s3 z2), z3, ⟨ka, ha, ca, Ba, hd, z4⟩, z5⟩
    have hcase : d.1 = 0 ∨ d.1 = 1 ∨ d.1 = 2 ∨ d.1 = 3 ∨ d.1 = 4 ∨ d.1 = 5 := by omega
    have tk := zc_tKind (sc := sc) hT hkd
    have tn := zc_tName (sc := sc) hT hkd
    have tz := zc_tSize (sc := sc) hT hkd
    rcases hcase with hd | hd | hd | hd | hd | hd
    · -- asking
      rcases zc_welcome_4 (sc := sc) h (by omega) q3 (z := d.2.2) (by omega) with ⟨g1, z1⟩ | ⟨g1, w1, hn1, cn1, B1, z1, z2, z3, z4, z5⟩
      · obtain ⟨sa, s1, s2, w', k', hn', cn', B', y1, y2⟩ := go w k hn cn B (zFm_refl _ _ _) h ⟨cLe_refl hc (by omega), Or.inl ⟨hd, Or.inl ⟨g1, rfl, rfl, rfl⟩⟩⟩
        exact ⟨w', k', hn', cn', B', V57_5_4 h6.1 ⟨_, hT.ob, _, zc_tLen hT, by omega, fun q => by omega, fun _ => ⟨_, tk, by omega, fun q => by omega, fun _ => ⟨_, tz, w, z1, _, _, _, _, _, _, _, _, _, s1.1, _, s1.2.1.ob, _, zc_allRooms s1.2.1, by omega, y1⟩, fun q => by omega, fun q => by omega, fun q => by omega, fun q => by omega, fun q => by omega⟩⟩, y2⟩
      · obtain ⟨sa, s1, s2, w', k', hn', cn', B', y1, y2⟩ := go w1 _ hn1 cn1 B1 z2 z3 ⟨cLe_mono z4 (by omega), Or.inl ⟨hd, Or.inr ⟨g1, rfl, z5⟩⟩⟩
        exact ⟨w', k', hn', cn', B', V57_5_4 h6.1 ⟨_, hT.ob, _, zc_tLen hT, by omega, fun q => by omega, fun _ => ⟨_, tk, by omega, fun q => by omega, fun _ => ⟨_, tz, w1, z1, _, _, _, _, _, _, _, _, _, s1.1, _, s1.2.1.ob, _, zc_allRooms s1.2.1, ⟨⟨by omega, by omega⟩, by omega⟩, y1⟩, fun q => by omega, fun q => by omega, fun q => by omega, fun q => by omega, fun q => by omega⟩⟩, y2⟩
    · -- giving back
      rcases bcase B d.2.1 with ⟨b, hb, eb⟩ | hno
      · obtain ⟨X, Y, rfl⟩ := List.append_of_mem hb
        obtain ⟨w1, cn1, z1, z2, z3, z4⟩ := zc_release_4 (sc := sc) h
        rw [eb] at z1
        obtain ⟨sa, s1, s2, w', k', hn', cn', B', y1, y2⟩ := go w1 k hn cn1 (X ++ Y) z2 z3 ⟨cLe_mono z4 (by omega), Or.inr (Or.inl ⟨hd, rfl, rfl, Or.inr ⟨X, b, Y, rfl, eb, rfl⟩⟩)⟩
        exact ⟨w', k', hn', cn', B', V57_5_4 h6.1 ⟨_, hT.ob, _, zc_tLen hT, by omega, fun q => by omega, fun _ => ⟨_, tk, by omega, fun q => by omega, fun q => by omega, fun _ => ⟨_, tn, w1, z1, _, _, _, _, _, _, _, _, _, s1.1, _, s1.2.1.ob, _, zc_allRooms s1.2.1, by omega, y1⟩, fun q => by omega, fun q => by omega, fun q => by omega, fun q => by omega⟩⟩, y2⟩
      · have z1 := zc_release_f_4 (sc := sc) h (n := d.2.1) (by omega) hno
        obtain ⟨sa, s1, s2, w', k', hn', cn', B', y1, y2⟩ := go w k hn cn B (zFm_refl _ _ _) h ⟨cLe_refl hc (by omega), Or.inr (Or.inl ⟨hd, rfl, rfl, Or.inl ⟨hno, rfl⟩⟩)⟩
        exact ⟨w', k', hn', cn', B', V57_5_4 h6.1 ⟨_, hT.ob, _, zc_tLen hT, by omega, fun q => by omega, fun _ => ⟨_, tk, by omega, fun q => by omega, fun q => by omega, fun _ => ⟨_, tn, w, z1, _, _, _, _, _, _, _, _, _, s1.1, _, s1.2.1.ob, _, zc_allRooms s1.2.1, by omega, y1⟩, fun q => by omega, fun q => by omega, fun q => by omega, fun q => by omega⟩⟩, y2⟩
    · -- resizing
      rcases bcase B d.2.1 with ⟨b, hb, eb⟩ | hno
      · obtain ⟨X, Y, rfl⟩ := List.append_of_mem hb
        obtain ⟨w1, hn1, cn1, B1, z1, z2, z3, z4, z5⟩ := zc_resettle_4 (sc := sc) h (by omega) (fun x hx => by have := q3 x hx; omega) (z := d.2.2) (by omega)
        rw [eb] at z1
        obtain ⟨sa, s1, s2, w', k', hn', cn', B', y1, y2⟩ := go w1 k hn1 cn1 B1 z2 z3 ⟨cLe_mono z4 (by omega), Or.inr (Or.inr (Or.inl ⟨hd, rfl, Or.inr ⟨b, eb, z5⟩⟩))⟩
        exact ⟨w', k', hn', cn', B', V57_5_4 h6.1 ⟨_, hT.ob, _, zc_tLen hT, by omega, fun q => by omega, fun _ => ⟨_, tk, by omega, fun q => by omega, fun q => by omega, fun q => by omega, fun _ => ⟨_, tn, _, tz, w1, z1, _, _, _, _, _, _, _, _, _, s1.1, _, s1.2.1.ob, _, zc_allRooms s1.2.1, by omega, y1⟩, fun q => by omega, fun q => by omega, fun q => by omega⟩⟩, y2⟩
      · have z1 := zc_resettle_f_4 (sc := sc) h (n := d.2.1) (z := d.2.2) (by omega) hno
        obtain ⟨sa, s1, s2, w', k', hn', cn', B', y1, y2⟩ := go w k hn cn B (zFm_refl _ _ _) h ⟨cLe_refl hc (by omega), Or.inr (Or.inr (Or.inl ⟨hd, rfl, Or.inl ⟨hno, rfl, rfl⟩⟩))⟩
        exact ⟨w', k', hn', cn', B', V57_5_4 h6.1 ⟨_, hT.ob, _, zc_tLen hT, by omega, fun q => by omega, fun _ => ⟨_, tk, by omega, fun q => by omega, fun q => by omega, fun q => by omega, fun _ => ⟨_, tn, _, tz, w, z1, _, _, _, _, _, _, _, _, _, s1.1, _, s1.2.1.ob, _, zc_allRooms s1.2.1, by omega, y1⟩, fun q => by omega, fun q => by omega, fun q => by omega⟩⟩, y2⟩
    · -- packing
      have z1 : Zc sc 96 [zp m] w none w 0 0 := Zc_of rfl rfl (V96_0_4 ⟨rfl, rfl, rfl, rfl⟩)
      obtain ⟨sa, s1, s2, w', k', hn', cn', B', y1, y2⟩ := go w k hn cn B (zFm_refl _ _ _) h ⟨cLe_refl hc (by omega), Or.inr (Or.inr (Or.inr (Or.inl ⟨hd, rfl, Or.inl ⟨by decide, rfl, rfl, rfl⟩⟩)))⟩
      exact ⟨w', k', hn', cn', B', V57_5_4 s1.1 ⟨_, hT.ob, _, zc_tLen hT, by omega, fun q => by omega, fun _ => ⟨_, tk, by omega, fun q => by omega, fun q => by omega, fun q => by omega, fun q => by omega, fun _ => ⟨z1, _, s1.2.1.ob, _, zc_allRooms s1.2.1, by omega, y1⟩, fun q => by omega, fun q => by omega⟩⟩, y2⟩
    · -- opening
      obtain ⟨r1, f1⟩ := sR_obj (k' := arF k (k.2.2.2.2.1 + 1)) (hn' := hn) (sn' := sn) h6 rfl
      have hq1 : sQ _ 4 m (arF k (k.2.2.2.2.1 + 1)) hn cn B := ⟨hc, ⟨k1, k2, k3, k4, by show 0 ≤ k.2.2.2.2.1 + 1 + 200 ∧ k.2.2.2.2.1 + 1 ≤ 200; omega, k6, k7, k8, k9⟩, hh, hg, sn, hs, r1⟩
      obtain ⟨sa, s1, s2, w', k', hn', cn', B', y1, y2⟩ := go _ _ hn cn B f1 hq1 ⟨cLe_refl hc (by omega), Or.inr (Or.inr (Or.inr (Or.inr (Or.inl ⟨hd, rfl, rfl, rfl, rfl⟩))))⟩
      have s2' : ((0 ≤ k.2.2.2.2.2.1 ∧ k.2.2.2.2.2.1 ≤ 1024) ∧ 0 ≤ sumR B ∧ sumR B ≤ 1024) := s2
      have esn : zj sa = zj sn := by
        have := s1.1.symm.trans (zw_s h6.1)
        injection this with this
        unfold mobj zob at this
        injection this with this
        injection this with this
        injection this with _ this
        simp only [List.cons_append, List.cons.injEq] at this
        exact this.2.2.2.2.2.2.1
      refine ⟨w', k', hn', cn', B', V57_5_4 h6.1 ⟨_, hT.ob, _, zc_tLen hT, by omega, fun q => by omega, fun _ => ⟨_, tk, by omega, fun q => by omega, fun q => by omega, fun q => by omega, fun q => by omega, fun q => by omega, fun _ => ⟨_, h6.2.1.ob, _, zc_allRooms r1.2.1, by omega, ?_⟩, fun q => by omega⟩⟩, y2⟩
      unfold mobj at y1
      rw [esn] at y1
      exact y1
    · -- closing
      obtain ⟨w1, cn1, z1, z2, z3, z4⟩ := zc_leave_4 (sc := sc) h q3 (by omega)
      obtain ⟨sa, s1, s2, w', k', hn', cn', B', y1, y2⟩ := go w1 _ hn cn1 _ z2 z3 ⟨cLe_mono z4 (by omega), Or.inr (Or.inr (Or.inr (Or.inr (Or.inr ⟨hd, rfl, rfl, rfl⟩))))⟩
      exact ⟨w', k', hn', cn', B', V57_5_4 h6.1 ⟨_, hT.ob, _, zc_tLen hT, by omega, fun q => by omega, fun _ => ⟨_, tk, by omega, fun q => by omega, fun q => by omega, fun q => by omega, fun q => by omega, fun q => by omega, fun q => by omega, fun _ => ⟨w1, z1, _, _, _, _, _, _, _, _, _, s1.1, _, s1.2.1.ob, _, zc_allRooms s1.2.1, ⟨⟨by omega, by omega⟩, by omega⟩, y1⟩⟩⟩, y2⟩
theorem zc_follow_4 {D1 D2 : List dd_T} (ht : t + 4 ≤ m ∨ m + msz 4 ≤ t) (hT : sT w t (D1 ++ D2)) (h : sQ w 4 m k hn cn B) (hw : wfM 4 D1.length k cn B) (hd : k.2.2.2.2.2.2.1 = D1.length) :
    ∃ w' k' hn' cn' B', Zc sc 57 [zp m, zp t] w (some (zp m)) w' 0 0 ∧ zFm w w' m (msz 4) ∧ sQ w' 4 m (dnF k' (D1 ++ D2).length) hn' cn' B' ∧ fol 4 D2 k hn cn B k' hn' cn' B' ∧ wfM 4 (D1 ++ D2).length k' cn' B' := by
  obtain ⟨w', k', hn', cn', B', z1, z2⟩ := follow_key_4 (sc := sc) ht D2 D1 k hn cn B w rfl hT h hw
  rw [← hd] at z1
  obtain ⟨hc, hk, hh, hg, sn, hs, h6⟩ := id h
  exact ⟨w', k', hn', cn', B', Zc_of rfl rfl (V57_0_4 h6.1 z1), z2⟩
theorem zc_placeFor_1 (h : sQ w 1 m k hn cn B) {z : Int} (hz : 1 ≤ z ∧ z ≤ 300) : ∃ p w', Zc sc 38 [zp m, zj z] w (some (zj p)) w' 0 0 ∧ zFm w w' m (msz 1) ∧ sQ w' 1 m k hn cn B ∧ selP 1 (k.1) hn (holF 1 B) (rmF 1 k z) p ∧ -1 ≤ p ∧ p ≤ 1024 := by
  obtain ⟨hc, hk, hh, hg, sn, hs, h6⟩ := h
  have hrm := zc_room_1 (sc := sc) h6 hk hz
  have hr := rOK_rg (c := 1) (by omega) (rOK_room (c := 1) (by omega) hk.2.1 hk.2.2.1 hz)
  obtain ⟨r, w1, sn1, z1, z2, z3, z4, z5⟩ := zc_search_1 (sc := sc) h6 hs hk hh (room := roomF 1 (k.2.1) (k.2.2.1) z) (by omega)
  rcases selF_hit (by omega) z5 with e | ⟨j, x, e, hx, hhit⟩
  · subst e
    exact ⟨-1, w1, Zc_of rfl rfl (V38_0_1 h6.1 ⟨_, hrm, _, w1, z1, _, z3.2.2.1.ob, _, zc_hPlace_f z3.2.2.1 (by omega) (Or.inl (by omega)), rfl, rfl, rfl, rfl⟩), z2, ⟨hc, hk, hh, hg, sn1, z4, z3⟩, ⟨-1, z5, Or.inl ⟨rfl, rfl⟩⟩, by omega, by omega⟩
  · subst e
    have gx := z3.2.2.1.1 x (List.mem_of_getElem? hx)
    exact ⟨x.1, w1, Zc_of rfl rfl (V38_0_1 h6.1 ⟨_, hrm, _, w1, z1, _, z3.2.2.1.ob, _, zc_hPlace_t z3.2.2.1 hx, rfl, rfl, rfl, rfl⟩), z2, ⟨hc, hk, hh, hg, sn1, z4, z3⟩, ⟨j, z5, Or.inr ⟨j, x, rfl, hx, hhit, rfl⟩⟩, by omega, by omega⟩
def grN_1 (k : mk_T) (hn : Int) (B : List bk_T) (z : Int) : Prop := maxH (holF 1 B) < rmF 1 k z ∨ ∃ p, p < 0 ∧ selP 1 (k.1) hn (holF 1 B) (rmF 1 k z) p
theorem zc_greatest_1 (h : sQ w 1 m k hn cn B) : ∃ g w', Zc sc 54 [zp m] w (some (zj g)) w' 0 0 ∧ zFm w w' m (msz 1) ∧ sQ w' 1 m k hn cn B ∧ (0 ≤ g ∧ g ≤ 300) ∧ (1 ≤ g → rmF 1 k g ≤ maxH (holF 1 B) ∧ ∃ p, 0 ≤ p ∧ selP 1 (k.1) hn (holF 1 B) (rmF 1 k g) p) ∧ ∀ z, g < z → z ≤ 300 → grN_1 k hn B z := by
  have key : ∀ (n : Nat) (w : List zE), n ≤ 300 → sQ w 1 m k hn cn B → (∀ z : Int, n < z → z ≤ 300 → grN_1 k hn B z) → ∃ g w', Zr sc 54 12 [zp m, zj (maxH (holF 1 B)), zj n] [] w (some (zj g)) w' 0 0 ∧ zFm w w' m (msz 1) ∧ sQ w' 1 m k hn cn B ∧ (0 ≤ g ∧ g ≤ 300) ∧ (1 ≤ g → rmF 1 k g ≤ maxH (holF 1 B) ∧ ∃ p, 0 ≤ p ∧ selP 1 (k.1) hn (holF 1 B) (rmF 1 k g) p) ∧ ∀ z, g < z → z ≤ 300 → grN_1 k hn B z := by
    intro n
    induction n with
    | zero =>
      intro w hn3 h q
      obtain ⟨sn, hs, h6⟩ := h.2.2.2.2
      exact ⟨0, w, V54_12_1 h6.1 ⟨by omega, fun _ => ⟨rfl, rfl, rfl, rfl⟩, fun q => by omega⟩, zFm_refl _ _ _, h, by omega, fun q => by omega, q⟩
    | succ n ih =>
      intro w hn3 h q
      obtain ⟨sn, hs, h6⟩ := h.2.2.2.2
      have hk := h.2.1
      have hrm := zc_room_1 (sc := sc) h6 hk (z := ((n + 1 : Nat) : Int)) (by omega)
      have hr := rOK_rg (c := 1) (by omega) (rOK_room (c := 1) (by omega) hk.2.1 hk.2.2.1 (z := ((n + 1 : Nat) : Int)) (by omega))
      have hm := maxH_rg h6.2.2.1.1
      by_cases c1 : maxH (holF 1 B) < roomF 1 (k.2.1) (k.2.2.1) ((n + 1 : Nat) : Int)
      · obtain ⟨g, w', z1, z2⟩ := ih w (by omega) h (fun z z0 z1 => by
          by_cases e : z = ((n + 1 : Nat) : Int)
          · rw [e]; exact Or.inl c1
          · exact q z (by omega) z1)
        rw [show ((n : Nat) : Int) = ((n + 1 : Nat) : Int) + -1 by omega] at z1
        exact ⟨g, w', V54_12_1 h6.1 ⟨by omega, fun q => by omega, fun _ => ⟨_, hrm, by omega, fun _ => z1, fun q => absurd c1 q⟩⟩, z2⟩
      · obtain ⟨p, w1, y1, y2, y3, y4, y5, y6⟩ := zc_placeFor_1 (sc := sc) h (z := ((n + 1 : Nat) : Int)) (by omega)
        by_cases c2 : p < 0
        · obtain ⟨g, w', z1, z2, z3⟩ := ih w1 (by omega) y3 (fun z z0 z1 => by
            by_cases e : z = ((n + 1 : Nat) : Int)
            · rw [e]; exact Or.inr ⟨p, c2, y4⟩
            · exact q z (by omega) z1)
          rw [show ((n : Nat) : Int) = ((n + 1 : Nat) : Int) + -1 by omega] at z1
          exact ⟨g, w', V54_12_1 h6.1 ⟨by omega, fun q => by omega, fun _ => ⟨_, hrm, by omega, fun q => absurd q c1, fun _ => ⟨p, w1, y1, by omega, fun _ => z1, fun q => absurd c2 q⟩⟩⟩, zFm_trans y2 z2, z3⟩
        · exact ⟨((n + 1 : Nat) : Int), w1, V54_12_1 h6.1 ⟨by omega, fun q => by omega, fun _ => ⟨_, hrm, by omega, fun q => absurd q c1, fun _ => ⟨p, w1, y1, by omega, fun q => absurd q c2, fun _ => ⟨rfl, rfl, rfl, rfl⟩⟩⟩⟩, y2, y3, by omega, fun _ => ⟨by unfold rmF; omega, p, by omega, y4⟩, q⟩
  obtain ⟨sn, hs, h6⟩ := h.2.2.2.2
  obtain ⟨g, w', z1, z2⟩ := key 300 w (by omega) h (fun z z0 z1 => by omega)
  exact ⟨g, w', Zc_of rfl rfl (V54_0_1 h6.1 ⟨_, h6.2.2.1.ob, _, zc_hLargest h6.2.2.1, z1⟩), z2⟩
theorem zc_begin_1 (h : sQ w 1 m k hn cn B) {x y : Int} (hx : x = 1 ∨ x = 2 ∨ x = 4 ∨ x = 8) (hy : 0 ≤ y ∧ y ≤ 8) : ∃ w', Zc sc 121 [zp m, zj x, zj y] w none w' 0 0 ∧ zFm w w' m (msz 1) ∧ sQ w' 1 m (k.1, x, y, 0, 0, 0, 0, k.2.2.2.2.2.2.2) 0 (List.replicate 5 0) [] := by
  obtain ⟨hc, hk, hh, hg, sn, hs, h6⟩ := h
  obtain ⟨k1, k2, k3, k4, k5, k6, k7, k8, k9⟩ := hk
  obtain ⟨r1, f1⟩ := sR_obj (k' := (k.1, x, y, 0, 0, 0, 0, k.2.2.2.2.2.2.2)) (hn' := 0) (sn' := sn) h6 rfl
  have z1 := zc_fill (sc := sc) (v := 0) (by omega) r1.2.2.2.1
  rw [hc] at z1
  have f2 : zFm (w.set m (mobj 1 m (k.1, x, y, 0, 0, 0, 0, k.2.2.2.2.2.2.2) 0 sn)) ((w.set m (mobj 1 m (k.1, x, y, 0, 0, 0, 0, k.2.2.2.2.2.2.2) 0 sn)).set (m + 9) (za (List.replicate 5 0))) (m + 9) 1 := zFm_set (by omega) (by omega)
  have r2 : sR ((w.set m (mobj 1 m (k.1, x, y, 0, 0, 0, 0, k.2.2.2.2.2.2.2) 0 sn)).set (m + 9) (za (List.replicate 5 0))) 1 m (k.1, x, y, 0, 0, 0, 0, k.2.2.2.2.2.2.2) 0 sn (List.replicate 5 0) B (holF 1 B) (pgF B) := ⟨zFm_get f2 r1.1 (by omega), sB_fm f2 (by omega) r1.2.1, sH_fm f2 (by omega) r1.2.2.1, zw_s r1.2.2.2.1, zFm_get f2 r1.2.2.2.2.1 (by omega), fun e => zFm_get f2 (r1.2.2.2.2.2 e) (by omega)⟩
  obtain ⟨w3, y1, y2, y3⟩ := zc_removeAll (sc := sc) r2.2.1
  have r3 := sR_B r2 y2 y3
  have g0 : gcB 1 [] := by
    exact fun b hb => (by cases hb)
  obtain ⟨w4, x1, x2, x3⟩ := zc_layOut_1 (sc := sc) r3 (pgF_len _) g0
  refine ⟨w4, Zc_of rfl rfl (V121_0_1 h6.1 ⟨_, ?_, _, _, _, _, _, _, _, _, _, r2.1, _, r2.2.1.ob, w3, y1, _, r3.1, w4, x1, rfl, rfl, rfl, rfl⟩), zFm_trans f1 (zFm_trans (zFm_mono f2 (by omega) (by have := msz_ge 1; omega)) (zFm_trans (zFm_B y2) x2)), ⟨by decide, ⟨k1, hx, hy, by dsimp only; omega, by dsimp only; omega, by dsimp only; omega, by dsimp only; omega, k8, k9⟩, by decide, g0, sn, hs, x3⟩⟩
  rw [List.set_set, List.set_set, List.set_set, List.set_set, List.set_set, List.set_set]
  exact z1
theorem zc_placeFor_2 (h : sQ w 2 m k hn cn B) {z : Int} (hz : 1 ≤ z ∧ z ≤ 300) : ∃ p w', Zc sc 38 [zp m, zj z] w (some (zj p)) w' 0 0 ∧ zFm w w' m (msz 2) ∧ sQ w' 2 m k hn cn B ∧ selP 2 (k.1) hn (holF 2 B) (rmF 2 k z) p ∧ -1 ≤ p ∧ p ≤ 1024 := by
  obtain ⟨hc, hk, hh, hg, sn, hs, h6⟩ := h
  have hrm := zc_room_2 (sc := sc) h6 hk hz
  have hr := rOK_rg (c := 2) (by omega) (rOK_room (c := 2) (by omega) hk.2.1 hk.2.2.1 hz)
  obtain ⟨r, w1, sn1, z1, z2, z3, z4, z5⟩ := zc_search_2 (sc := sc) h6 hs hk hh (room := roomF 2 (k.2.1) (k.2.2.1) z) (by omega)
  rcases selF_hit (by omega) z5 with e | ⟨j, x, e, hx, hhit⟩
  · subst e
    exact ⟨-1, w1, Zc_of rfl rfl (V38_0_2 h6.1 ⟨_, hrm, _, w1, z1, _, z3.2.2.1.ob, _, zc_hPlace_f z3.2.2.1 (by omega) (Or.inl (by omega)), rfl, rfl, rfl, rfl⟩), z2, ⟨hc, hk, hh, hg, sn1, z4, z3⟩, ⟨-1, z5, Or.inl ⟨rfl, rfl⟩⟩, by omega, by omega⟩
  · subst e
    have gx := z3.2.2.1.1 x (List.mem_of_getElem? hx)
    exact ⟨x.1, w1, Zc_of rfl rfl (V38_0_2 h6.1 ⟨_, hrm, _, w1, z1, _, z3.2.2.1.ob, _, zc_hPlace_t z3.2.2.1 hx, rfl, rfl, rfl, rfl⟩), z2, ⟨hc, hk, hh, hg, sn1, z4, z3⟩, ⟨j, z5, Or.inr ⟨j, x, rfl, hx, hhit, rfl⟩⟩, by omega, by omega⟩
def grN_2 (k : mk_T) (hn : Int) (B : List bk_T) (z : Int) : Prop := maxH (holF 2 B) < rmF 2 k z ∨ ∃ p, p < 0 ∧ selP 2 (k.1) hn (holF 2 B) (rmF 2 k z) p
theorem zc_greatest_2 (h : sQ w 2 m k hn cn B) : ∃ g w', Zc sc 54 [zp m] w (some (zj g)) w' 0 0 ∧ zFm w w' m (msz 2) ∧ sQ w' 2 m k hn cn B ∧ (0 ≤ g ∧ g ≤ 300) ∧ (1 ≤ g → rmF 2 k g ≤ maxH (holF 2 B) ∧ ∃ p, 0 ≤ p ∧ selP 2 (k.1) hn (holF 2 B) (rmF 2 k g) p) ∧ ∀ z, g < z → z ≤ 300 → grN_2 k hn B z := by
  have key : ∀ (n : Nat) (w : List zE), n ≤ 300 → sQ w 2 m k hn cn B → (∀ z : Int, n < z → z ≤ 300 → grN_2 k hn B z) → ∃ g w', Zr sc 54 12 [zp m, zj (maxH (holF 2 B)), zj n] [] w (some (zj g)) w' 0 0 ∧ zFm w w' m (msz 2) ∧ sQ w' 2 m k hn cn B ∧ (0 ≤ g ∧ g ≤ 300) ∧ (1 ≤ g → rmF 2 k g ≤ maxH (holF 2 B) ∧ ∃ p, 0 ≤ p ∧ selP 2 (k.1) hn (holF 2 B) (rmF 2 k g) p) ∧ ∀ z, g < z → z ≤ 300 → grN_2 k hn B z := by
    intro n
    induction n with
    | zero =>
      intro w hn3 h q
      obtain ⟨sn, hs, h6⟩ := h.2.2.2.2
      exact ⟨0, w, V54_12_2 h6.1 ⟨by omega, fun _ => ⟨rfl, rfl, rfl, rfl⟩, fun q => by omega⟩, zFm_refl _ _ _, h, by omega, fun q => by omega, q⟩
    | succ n ih =>
      intro w hn3 h q
      obtain ⟨sn, hs, h6⟩ := h.2.2.2.2
      have hk := h.2.1
      have hrm := zc_room_2 (sc := sc) h6 hk (z := ((n + 1 : Nat) : Int)) (by omega)
      have hr := rOK_rg (c := 2) (by omega) (rOK_room (c := 2) (by omega) hk.2.1 hk.2.2.1 (z := ((n + 1 : Nat) : Int)) (by omega))
      have hm := maxH_rg h6.2.2.1.1
      by_cases c1 : maxH (holF 2 B) < roomF 2 (k.2.1) (k.2.2.1) ((n + 1 : Nat) : Int)
      · obtain ⟨g, w', z1, z2⟩ := ih w (by omega) h (fun z z0 z1 => by
          by_cases e : z = ((n + 1 : Nat) : Int)
          · rw [e]; exact Or.inl c1
          · exact q z (by omega) z1)
        rw [show ((n : Nat) : Int) = ((n + 1 : Nat) : Int) + -1 by omega] at z1
        exact ⟨g, w', V54_12_2 h6.1 ⟨by omega, fun q => by omega, fun _ => ⟨_, hrm, by omega, fun _ => z1, fun q => absurd c1 q⟩⟩, z2⟩
      · obtain ⟨p, w1, y1, y2, y3, y4, y5, y6⟩ := zc_placeFor_2 (sc := sc) h (z := ((n + 1 : Nat) : Int)) (by omega)
        by_cases c2 : p < 0
        · obtain ⟨g, w', z1, z2, z3⟩ := ih w1 (by omega) y3 (fun z z0 z1 => by
            by_cases e : z = ((n + 1 : Nat) : Int)
            · rw [e]; exact Or.inr ⟨p, c2, y4⟩
            · exact q z (by omega) z1)
          rw [show ((n : Nat) : Int) = ((n + 1 : Nat) : Int) + -1 by omega] at z1
          exact ⟨g, w', V54_12_2 h6.1 ⟨by omega, fun q => by omega, fun _ => ⟨_, hrm, by omega, fun q => absurd q c1, fun _ => ⟨p, w1, y1, by omega, fun _ => z1, fun q => absurd c2 q⟩⟩⟩, zFm_trans y2 z2, z3⟩
        · exact ⟨((n + 1 : Nat) : Int), w1, V54_12_2 h6.1 ⟨by omega, fun q => by omega, fun _ => ⟨_, hrm, by omega, fun q => absurd q c1, fun _ => ⟨p, w1, y1, by omega, fun q => absurd q c2, fun _ => ⟨rfl, rfl, rfl, rfl⟩⟩⟩⟩, y2, y3, by omega, fun _ => ⟨by unfold rmF; omega, p, by omega, y4⟩, q⟩
  obtain ⟨sn, hs, h6⟩ := h.2.2.2.2
  obtain ⟨g, w', z1, z2⟩ := key 300 w (by omega) h (fun z z0 z1 => by omega)
  exact ⟨g, w', Zc_of rfl rfl (V54_0_2 h6.1 ⟨_, h6.2.2.1.ob, _, zc_hLargest h6.2.2.1, z1⟩), z2⟩
theorem zc_begin_2 (h : sQ w 2 m k hn cn B) {x y : Int} (hx : x = 1 ∨ x = 2 ∨ x = 4 ∨ x = 8) (hy : 0 ≤ y ∧ y ≤ 8) : ∃ w', Zc sc 121 [zp m, zj x, zj y] w none w' 0 0 ∧ zFm w w' m (msz 2) ∧ sQ w' 2 m (k.1, x, y, 0, 0, 0, 0, k.2.2.2.2.2.2.2) 0 (List.replicate 5 0) [] := by
  obtain ⟨hc, hk, hh, hg, sn, hs, h6⟩ := h
  obtain ⟨k1, k2, k3, k4, k5, k6, k7, k8, k9⟩ := hk
  obtain ⟨r1, f1⟩ := sR_obj (k' := (k.1, x, y, 0, 0, 0, 0, k.2.2.2.2.2.2.2)) (hn' := 0) (sn' := sn) h6 rfl
  have z1 := zc_fill (sc := sc) (v := 0) (by omega) r1.2.2.2.1
  rw [hc] at z1
  have f2 : zFm (w.set m (mobj 2 m (k.1, x, y, 0, 0, 0, 0, k.2.2.2.2.2.2.2) 0 sn)) ((w.set m (mobj 2 m (k.1, x, y, 0, 0, 0, 0, k.2.2.2.2.2.2.2) 0 sn)).set (m + 9) (za (List.replicate 5 0))) (m + 9) 1 := zFm_set (by omega) (by omega)
  have r2 : sR ((w.set m (mobj 2 m (k.1, x, y, 0, 0, 0, 0, k.2.2.2.2.2.2.2) 0 sn)).set (m + 9) (za (List.replicate 5 0))) 2 m (k.1, x, y, 0, 0, 0, 0, k.2.2.2.2.2.2.2) 0 sn (List.replicate 5 0) B (holF 2 B) (pgF B) := ⟨zFm_get f2 r1.1 (by omega), sB_fm f2 (by omega) r1.2.1, sH_fm f2 (by omega) r1.2.2.1, zw_s r1.2.2.2.1, zFm_get f2 r1.2.2.2.2.1 (by omega), fun e => zFm_get f2 (r1.2.2.2.2.2 e) (by omega)⟩
  obtain ⟨w3, y1, y2, y3⟩ := zc_removeAll (sc := sc) r2.2.1
  have r3 := sR_B r2 y2 y3
  have g0 : gcB 2 [] := by
    trivial
  obtain ⟨w4, x1, x2, x3⟩ := zc_layOut_2 (sc := sc) r3 (pgF_len _) g0
  refine ⟨w4, Zc_of rfl rfl (V121_0_2 h6.1 ⟨_, ?_, _, _, _, _, _, _, _, _, _, r2.1, _, r2.2.1.ob, w3, y1, _, r3.1, w4, x1, rfl, rfl, rfl, rfl⟩), zFm_trans f1 (zFm_trans (zFm_mono f2 (by omega) (by have := msz_ge 2; omega)) (zFm_trans (zFm_B y2) x2)), ⟨by decide, ⟨k1, hx, hy, by dsimp only; omega, by dsimp only; omega, by dsimp only; omega, by dsimp only; omega, k8, k9⟩, by decide, g0, sn, hs, x3⟩⟩
  rw [List.set_set, List.set_set, List.set_set, List.set_set, List.set_set, List.set_set]
  exact z1
theorem zc_placeFor_4 (h : sQ w 4 m k hn cn B) {z : Int} (hz : 1 ≤ z ∧ z ≤ 300) : ∃ p w', Zc sc 38 [zp m, zj z] w (some (zj p)) w' 0 0 ∧ zFm w w' m (msz 4) ∧ sQ w' 4 m k hn cn B ∧ selP 4 (k.1) hn (holF 4 B) (rmF 4 k z) p ∧ -1 ≤ p ∧ p ≤ 1024 := by
  obtain ⟨hc, hk, hh, hg, sn, hs, h6⟩ := h
  have hrm := zc_room_4 (sc := sc) h6 hk hz
  have hr := rOK_rg (c := 4) (by omega) (rOK_room (c := 4) (by omega) hk.2.1 hk.2.2.1 hz)
  obtain ⟨r, w1, sn1, z1, z2, z3, z4, z5⟩ := zc_search_4 (sc := sc) h6 hs (pgF_ok h6.2.1.1) (room := roomF 4 (k.2.1) (k.2.2.1) z) (by omega)
  rcases selF_hit (by omega) z5 with e | ⟨j, x, e, hx, hhit⟩
  · subst e
    exact ⟨-1, w1, Zc_of rfl rfl (V38_0_4 h6.1 ⟨_, hrm, _, w1, z1, _, z3.2.2.1.ob, _, zc_hPlace_f z3.2.2.1 (by omega) (Or.inl (by omega)), rfl, rfl, rfl, rfl⟩), z2, ⟨hc, hk, hh, hg, sn1, z4, z3⟩, ⟨-1, z5, Or.inl ⟨rfl, rfl⟩⟩, by omega, by omega⟩
  · subst e
    have gx := z3.2.2.1.1 x (List.mem_of_getElem? hx)
    exact ⟨x.1, w1, Zc_of rfl rfl (V38_0_4 h6.1 ⟨_, hrm, _, w1, z1, _, z3.2.2.1.ob, _, zc_hPlace_t z3.2.2.1 hx, rfl, rfl, rfl, rfl⟩), z2, ⟨hc, hk, hh, hg, sn1, z4, z3⟩, ⟨j, z5, Or.inr ⟨j, x, rfl, hx, hhit, rfl⟩⟩, by omega, by omega⟩
def grN_4 (k : mk_T) (hn : Int) (B : List bk_T) (z : Int) : Prop := maxH (holF 4 B) < rmF 4 k z ∨ ∃ p, p < 0 ∧ selP 4 (k.1) hn (holF 4 B) (rmF 4 k z) p
theorem zc_greatest_4 (h : sQ w 4 m k hn cn B) : ∃ g w', Zc sc 54 [zp m] w (some (zj g)) w' 0 0 ∧ zFm w w' m (msz 4) ∧ sQ w' 4 m k hn cn B ∧ (0 ≤ g ∧ g ≤ 300) ∧ (1 ≤ g → rmF 4 k g ≤ maxH (holF 4 B) ∧ ∃ p, 0 ≤ p ∧ selP 4 (k.1) hn (holF 4 B) (rmF 4 k g) p) ∧ ∀ z, g < z → z ≤ 300 → grN_4 k hn B z := by
  have key : ∀ (n : Nat) (w : List zE), n ≤ 300 → sQ w 4 m k hn cn B → (∀ z : Int, n < z → z ≤ 300 → grN_4 k hn B z) → ∃ g w', Zr sc 54 12 [zp m, zj (maxH (holF 4 B)), zj n] [] w (some (zj g)) w' 0 0 ∧ zFm w w' m (msz 4) ∧ sQ w' 4 m k hn cn B ∧ (0 ≤ g ∧ g ≤ 300) ∧ (1 ≤ g → rmF 4 k g ≤ maxH (holF 4 B) ∧ ∃ p, 0 ≤ p ∧ selP 4 (k.1) hn (holF 4 B) (rmF 4 k g) p) ∧ ∀ z, g < z → z ≤ 300 → grN_4 k hn B z := by
    intro n
    induction n with
    | zero =>
      intro w hn3 h q
      obtain ⟨sn, hs, h6⟩ := h.2.2.2.2
      exact ⟨0, w, V54_12_4 h6.1 ⟨by omega, fun _ => ⟨rfl, rfl, rfl, rfl⟩, fun q => by omega⟩, zFm_refl _ _ _, h, by omega, fun q => by omega, q⟩
    | succ n ih =>
      intro w hn3 h q
      obtain ⟨sn, hs, h6⟩ := h.2.2.2.2
      have hk := h.2.1
      have hrm := zc_room_4 (sc := sc) h6 hk (z := ((n + 1 : Nat) : Int)) (by omega)
      have hr := rOK_rg (c := 4) (by omega) (rOK_room (c := 4) (by omega) hk.2.1 hk.2.2.1 (z := ((n + 1 : Nat) : Int)) (by omega))
      have hm := maxH_rg h6.2.2.1.1
      by_cases c1 : maxH (holF 4 B) < roomF 4 (k.2.1) (k.2.2.1) ((n + 1 : Nat) : Int)
      · obtain ⟨g, w', z1, z2⟩ := ih w (by omega) h (fun z z0 z1 => by
          by_cases e : z = ((n + 1 : Nat) : Int)
          · rw [e]; exact Or.inl c1
          · exact q z (by omega) z1)
        rw [show ((n : Nat) : Int) = ((n + 1 : Nat) : Int) + -1 by omega] at z1
        exact ⟨g, w', V54_12_4 h6.1 ⟨by omega, fun q => by omega, fun _ => ⟨_, hrm, by omega, fun _ => z1, fun q => absurd c1 q⟩⟩, z2⟩
      · obtain ⟨p, w1, y1, y2, y3, y4, y5, y6⟩ := zc_placeFor_4 (sc := sc) h (z := ((n + 1 : Nat) : Int)) (by omega)
        by_cases c2 : p < 0
        · obtain ⟨g, w', z1, z2, z3⟩ := ih w1 (by omega) y3 (fun z z0 z1 => by
            by_cases e : z = ((n + 1 : Nat) : Int)
            · rw [e]; exact Or.inr ⟨p, c2, y4⟩
            · exact q z (by omega) z1)
          rw [show ((n : Nat) : Int) = ((n + 1 : Nat) : Int) + -1 by omega] at z1
          exact ⟨g, w', V54_12_4 h6.1 ⟨by omega, fun q => by omega, fun _ => ⟨_, hrm, by omega, fun q => absurd q c1, fun _ => ⟨p, w1, y1, by omega, fun _ => z1, fun q => absurd c2 q⟩⟩⟩, zFm_trans y2 z2, z3⟩
        · exact ⟨((n + 1 : Nat) : Int), w1, V54_12_4 h6.1 ⟨by omega, fun q => by omega, fun _ => ⟨_, hrm, by omega, fun q => absurd q c1, fun _ => ⟨p, w1, y1, by omega, fun q => absurd q c2, fun _ => ⟨rfl, rfl, rfl, rfl⟩⟩⟩⟩, y2, y3, by omega, fun _ => ⟨by unfold rmF; omega, p, by omega, y4⟩, q⟩
  obtain ⟨sn, hs, h6⟩ := h.2.2.2.2
  obtain ⟨g, w', z1, z2⟩ := key 300 w (by omega) h (fun z z0 z1 => by omega)
  exact ⟨g, w', Zc_of rfl rfl (V54_0_4 h6.1 ⟨_, h6.2.2.1.ob, _, zc_hLargest h6.2.2.1, z1⟩), z2⟩
theorem zc_begin_4 (h : sQ w 4 m k hn cn B) {x y : Int} (hx : x = 1 ∨ x = 2 ∨ x = 4 ∨ x = 8) (hy : 0 ≤ y ∧ y ≤ 8) : ∃ w', Zc sc 121 [zp m, zj x, zj y] w none w' 0 0 ∧ zFm w w' m (msz 4) ∧ sQ w' 4 m (k.1, x, y, 0, 0, 0, 0, k.2.2.2.2.2.2.2) 0 (List.replicate 5 0) [] := by
  obtain ⟨hc, hk, hh, hg, sn, hs, h6⟩ := h
  obtain ⟨k1, k2, k3, k4, k5, k6, k7, k8, k9⟩ := hk
  obtain ⟨r1, f1⟩ := sR_obj (k' := (k.1, x, y, 0, 0, 0, 0, k.2.2.2.2.2.2.2)) (hn' := 0) (sn' := sn) h6 rfl
  have z1 := zc_fill (sc := sc) (v := 0) (by omega) r1.2.2.2.1
  rw [hc] at z1
  have f2 : zFm (w.set m (mobj 4 m (k.1, x, y, 0, 0, 0, 0, k.2.2.2.2.2.2.2) 0 sn)) ((w.set m (mobj 4 m (k.1, x, y, 0, 0, 0, 0, k.2.2.2.2.2.2.2) 0 sn)).set (m + 9) (za (List.replicate 5 0))) (m + 9) 1 := zFm_set (by omega) (by omega)
  have r2 : sR ((w.set m (mobj 4 m (k.1, x, y, 0, 0, 0, 0, k.2.2.2.2.2.2.2) 0 sn)).set (m + 9) (za (List.replicate 5 0))) 4 m (k.1, x, y, 0, 0, 0, 0, k.2.2.2.2.2.2.2) 0 sn (List.replicate 5 0) B (holF 4 B) (pgF B) := ⟨zFm_get f2 r1.1 (by omega), sB_fm f2 (by omega) r1.2.1, sH_fm f2 (by omega) r1.2.2.1, zw_s r1.2.2.2.1, zFm_get f2 r1.2.2.2.2.1 (by omega), fun e => zFm_get f2 (r1.2.2.2.2.2 e) (by omega)⟩
  obtain ⟨w3, y1, y2, y3⟩ := zc_removeAll (sc := sc) r2.2.1
  have r3 := sR_B r2 y2 y3
  have g0 : gcB 4 [] := by
    exact ⟨fun b hb => (by cases hb), fun b hb => (by cases hb)⟩
  obtain ⟨w4, x1, x2, x3⟩ := zc_layOut_4 (sc := sc) r3 (pgF_len _) g0
  refine ⟨w4, Zc_of rfl rfl (V121_0_4 h6.1 ⟨_, ?_, _, _, _, _, _, _, _, _, _, r2.1, _, r2.2.1.ob, w3, y1, _, r3.1, w4, x1, rfl, rfl, rfl, rfl⟩), zFm_trans f1 (zFm_trans (zFm_mono f2 (by omega) (by have := msz_ge 4; omega)) (zFm_trans (zFm_B y2) x2)), ⟨by decide, ⟨k1, hx, hy, by dsimp only; omega, by dsimp only; omega, by dsimp only; omega, by dsimp only; omega, k8, k9⟩, by decide, g0, sn, hs, x3⟩⟩
  rw [List.set_set, List.set_set, List.set_set, List.set_set, List.set_set, List.set_set]
  exact z1
end FOL
