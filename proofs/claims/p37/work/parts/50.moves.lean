/-! ===== resizing, packing, naming, arenas ===== -/
def fitB (c : Nat) (room : Int) (b : bk_T) (Y : List bk_T) : Prop := c = 2 ∧ (room < b.2.2.2 ∨ (b.2.1 + room ≤ 1024 ∧ ∀ y ∈ Y, b.2.1 + room ≤ y.2.1))
def rzR (c : Nat) (k : mk_T) (hn : Int) (B : List bk_T) (b : bk_T) (z : Int) (hn' : Int) (B' : List bk_T) : Prop :=
  ∃ X Y, B = X ++ b :: Y ∧
    ((hn' = hn ∧ B' = X ++ (b.1, b.2.1, z, roomF c (k.2.1) (k.2.2.1) z) :: Y ∧ (roomF c (k.2.1) (k.2.2.1) z = b.2.2.2 ∨ fitB c (roomF c (k.2.1) (k.2.2.1) z) b Y)) ∨
    (roomF c (k.2.1) (k.2.2.1) z ≠ b.2.2.2 ∧ ¬ fitB c (roomF c (k.2.1) (k.2.2.1) z) b Y ∧
      ((B' = B ∧ hn' = hn ∧ selP c (k.1) hn (holF c B) (roomF c (k.2.1) (k.2.2.1) z) (-1)) ∨
      (∃ p Z1 Z2, 0 ≤ p ∧ selP c (k.1) hn (holF c B) (roomF c (k.2.1) (k.2.2.1) z) p ∧ X ++ Y = Z1 ++ Z2 ∧ B' = Z1 ++ (b.1, p, z, roomF c (k.2.1) (k.2.2.1) z) :: Z2 ∧ hn' = hnF (k.1) hn p (roomF c (k.2.1) (k.2.2.1) z)))))
def packF : List bk_T → Int → List bk_T
  | [], _ => []
  | b :: Y, to => (b.1, to, b.2.2.1, b.2.2.2) :: packF Y (to + b.2.2.2)
def pkM : List bk_T → Int → Int
  | [], _ => 0
  | b :: Y, to => (if b.2.1 = to then 0 else b.2.2.2) + pkM Y (to + b.2.2.2)
theorem sumR_cons (b : bk_T) (Y : List bk_T) : sumR (b :: Y) = b.2.2.2 + sumR Y := rfl
theorem sumR_snoc (X : List bk_T) (b : bk_T) : sumR (X ++ [b]) = sumR X + b.2.2.2 := by rw [sumR_mid, List.append_nil]
theorem packF_len : ∀ (X : List bk_T) (to : Int), (packF X to).length = X.length := by
  intro X
  induction X with
  | nil => intro to; rfl
  | cons b X ih => intro to; show (packF X _).length + 1 = X.length + 1; rw [ih]
theorem packF_sum : ∀ (X : List bk_T) (to : Int), sumR (packF X to) = sumR X := by
  intro X
  induction X with
  | nil => intro to; rfl
  | cons b X ih => intro to; show b.2.2.2 + sumR (packF X _) = b.2.2.2 + sumR X; rw [ih]
theorem packF_snoc : ∀ (X : List bk_T) (b : bk_T) (to : Int), packF (X ++ [b]) to = packF X to ++ [(b.1, to + sumR X, b.2.2.1, b.2.2.2)] := by
  intro X
  induction X with
  | nil => intro b to; show [_] = [_]; rw [show sumR [] = 0 from rfl, Int.add_zero]
  | cons x X ih =>
    intro b to
    show _ :: packF (X ++ [b]) _ = _ :: (packF X _ ++ _)
    rw [ih, sumR_cons, Int.add_assoc]
theorem pkM_snoc : ∀ (X : List bk_T) (b : bk_T) (to : Int), pkM (X ++ [b]) to = pkM X to + (if b.2.1 = to + sumR X then 0 else b.2.2.2) := by
  intro X
  induction X with
  | nil =>
    intro b to
    show (if b.2.1 = to then 0 else b.2.2.2) + 0 = 0 + (if b.2.1 = to + 0 then 0 else b.2.2.2)
    rw [Int.add_zero, Int.zero_add, Int.add_zero]
  | cons x X ih =>
    intro b to
    show (if x.2.1 = to then 0 else x.2.2.2) + pkM (X ++ [b]) _ = ((if x.2.1 = to then 0 else x.2.2.2) + pkM X _) + _
    rw [ih, sumR_cons, Int.add_assoc, Int.add_assoc]
theorem pkM_rg : ∀ (X : List bk_T) (to : Int), (∀ b ∈ X, 1 ≤ b.2.2.2) → 0 ≤ pkM X to ∧ pkM X to ≤ sumR X := by
  intro X
  induction X with
  | nil => intro to _; exact ⟨Int.le_refl _, Int.le_refl _⟩
  | cons x X ih =>
    intro to h
    have i := ih (to + x.2.2.2) (fun b hb => h b (List.mem_cons_of_mem _ hb))
    have hx := h x List.mem_cons_self
    rw [sumR_cons]
    show 0 ≤ (if x.2.1 = to then 0 else x.2.2.2) + pkM X (to + x.2.2.2) ∧ (if x.2.1 = to then 0 else x.2.2.2) + pkM X (to + x.2.2.2) ≤ _
    split <;> omega
theorem packF_ok : ∀ (X Y : List bk_T) (to : Int), okB (X ++ Y) → (∀ b ∈ X, to ≤ b.2.1) → 0 ≤ to → okB (packF X to ++ Y) ∧ (∀ b ∈ packF X to, to ≤ b.2.1) ∧ ∀ b' ∈ packF X to, ∃ b ∈ X, b'.1 = b.1 := by
  intro X
  induction X with
  | nil => intro Y to h _ _; exact ⟨h, fun b hb => (by cases hb), fun b hb => (by cases hb)⟩
  | cons x X ih =>
    intro Y to h h1 h2
    have h' := (okB_mid (X := []) (b := x) (Y := X ++ Y)).mp h
    have gx := h'.2.2.2
    have hx := h1 x List.mem_cons_self
    obtain ⟨i1, i2, i3⟩ := ih Y (to + x.2.2.2) h'.1 (fun b hb => by have := (h'.2.2.1 b (by simp [hb])).2; omega) (by omega)
    refine ⟨(okB_mid (X := []) (b := (x.1, to, x.2.2.1, x.2.2.2)) (Y := packF X (to + x.2.2.2) ++ Y)).mpr ⟨i1, fun y hy => (by cases hy), fun y hy => ?_, by dsimp only; omega⟩, fun b hb => ?_, fun b hb => ?_⟩
    · dsimp only
      rcases List.mem_append.mp hy with hy | hy
      · obtain ⟨y', q1, q2⟩ := i3 y hy
        have := (h'.2.2.1 y' (by simp [q1])).1
        have := i2 y hy
        exact ⟨by rw [q2]; assumption, by omega⟩
      · have := h'.2.2.1 y (by simp [hy])
        exact ⟨this.1, by omega⟩
    · rcases List.mem_cons.mp hb with rfl | hb
      · exact Int.le_refl _
      · have := i2 b hb; omega
    · rcases List.mem_cons.mp hb with rfl | hb
      · exact ⟨x, List.mem_cons_self, rfl⟩
      · obtain ⟨y, q1, q2⟩ := i3 b hb
        exact ⟨y, List.mem_cons_of_mem _ q1, q2⟩
theorem sumR_pre : ∀ (X : List bk_T) (b : bk_T) (Y : List bk_T) (f : Int), okB (X ++ b :: Y) → (∀ x ∈ X ++ b :: Y, f ≤ x.2.1) → f + sumR X ≤ b.2.1 := by
  intro X
  induction X with
  | nil => intro b Y f h hf; have := hf b (by simp); rw [show sumR [] = 0 from rfl]; omega
  | cons x X ih =>
    intro b Y f h hf
    have h' := (okB_mid (X := []) (b := x) (Y := X ++ b :: Y)).mp h
    have := ih b Y (x.2.1 + x.2.2.2) h'.1 (fun y hy => (h'.2.2.1 y hy).2)
    have := hf x (by simp)
    rw [sumR_cons]
    omega
theorem filter_mid {α : Type} (p : α → Bool) (X Y : List α) (b : α) (h : p b = false) : (X ++ b :: Y).filter p = (X ++ Y).filter p := by
  simp [List.filter_append, List.filter_cons, h]
section MVT
variable {sc : List Value} {w w' : List zE} {m : Nat} {k k' : mk_T} {hn sn : Int} {cn : List Int} {B B' X Y : List bk_T} {H : List hl_T} {pg : List Int} {b : bk_T}
theorem zc_stretches_2 (h : sQ w 2 m k hn cn (X ++ b :: Y)) {r : Int} (hr : 1 ≤ r ∧ r ≤ 1024) (hne : r ≠ b.2.2.2) :
    (fitB 2 r b Y ∧ ∃ w' cn', Zc sc 89 [zp m, zj b.1, zj r] w (some (zj 1)) w' 0 0 ∧ zFm w w' m (msz 2) ∧ sQ w' 2 m k hn cn' (X ++ (b.1, b.2.1, b.2.2.1, r) :: Y) ∧ cLe cn cn' 10) ∨
    (¬ fitB 2 r b Y ∧ Zc sc 89 [zp m, zj b.1, zj r] w (some (zj 0)) w 0 0) := by
  obtain ⟨hc, hk, hh, hg, sn, hs, h6⟩ := h
  have hb : b ∈ X ++ b :: Y := by simp
  have hok := h6.2.1.1
  have gb := hok.2 b hb
  have hm := okB_mid.mp hok
  have hl : (holF 2 (X ++ b :: Y)).length ≤ 128 := h6.2.2.1.2.1
  by_cases c1 : r < b.2.2.2
  · left
    refine ⟨⟨rfl, Or.inl c1⟩, ?_⟩
    have hok2 : okB (X ++ (b.1, b.2.1, b.2.2.1, r) :: Y) := okB_mid.mpr ⟨hm.1, hm.2.1, fun y hy => ⟨(hm.2.2.1 y hy).1, by have := (hm.2.2.1 y hy).2; dsimp only; omega⟩, by dsimp only; omega⟩
    obtain ⟨w1, z1, z2, z3⟩ := zc_setRoom (sc := sc) h6.2.1 hok2
    have r1 := sR_B h6 z2 z3
    obtain ⟨w2, y1, y2, y3⟩ := zc_layOut_2 (sc := sc) r1 (pgF_len _) trivial
    obtain ⟨v, v1, v2, v3⟩ := zc_joins_2 (sc := sc) y3 (p := b.2.1 + b.2.2.2 + (r - b.2.2.2)) (r := -(r - b.2.2.2)) (by omega) (by omega)
    obtain ⟨w3, x1, x2, x3⟩ := zc_count_2 (sc := sc) y3 hc (x := 2) (v := v) (by omega)
    exact ⟨w3, _, Zc_of rfl rfl (V89_0 h6.1 ⟨_, h6.2.1.ob, _, zc_endOf_t h6.2.1 hb, _, zc_roomOf_t h6.2.1 hb, by omega, fun q => by omega, fun _ => ⟨w1, z1, _, r1.1, w2, y1, _, y3.1, v, v1, w3, x1, rfl, rfl, rfl, rfl⟩⟩), zFm_trans (zFm_B z2) (zFm_trans y2 x2), ⟨by rw [zsi_len]; exact hc, hk, hh, trivial, sn, hs, x3⟩, cLe_set hc (by omega) (by omega)⟩
  · obtain ⟨q, q1, q2⟩ := zc_firstReaching (sc := sc) h6.2.2.1 (p := b.2.1 + b.2.2.2) (by omega)
    rcases fits_behind hok q2 with ⟨j, x, e, hx, e1, e2, e3⟩ | ⟨e1, e2⟩
    · subst e
      have gx := h6.2.2.1.1 x (List.mem_of_getElem? hx)
      have p1 := zc_hPlace_t (sc := sc) h6.2.2.1 hx
      have p2 := zc_hSize_t (sc := sc) h6.2.2.1 hx
      have hjl := (List.getElem?_eq_some_iff.mp hx).1
      by_cases c2 : r - b.2.2.2 ≤ x.2
      · left
        have hfit : fitB 2 r b Y := ⟨rfl, Or.inr ⟨by omega, fun y hy => by have := e2 y hy; omega⟩⟩
        refine ⟨hfit, ?_⟩
        have hok2 : okB (X ++ (b.1, b.2.1, b.2.2.1, r) :: Y) := okB_mid.mpr ⟨hm.1, hm.2.1, fun y hy => ⟨(hm.2.2.1 y hy).1, by have := e2 y hy; dsimp only; omega⟩, by dsimp only; omega⟩
        obtain ⟨sp, s1, s2, s3⟩ := zc_splits_2 (sc := sc) (w := w) (m := m) (x := x.2) (y := r - b.2.2.2) (by omega) (by omega)
        obtain ⟨w1, x1, x2, x3⟩ := zc_count_2 (sc := sc) h6 hc (x := 1) (v := sp) (by omega)
        obtain ⟨w2, z1, z2, z3⟩ := zc_setRoom (sc := sc) x3.2.1 hok2
        have r1 := sR_B x3 z2 z3
        obtain ⟨w3, y1, y2, y3⟩ := zc_layOut_2 (sc := sc) r1 (pgF_len _) trivial
        exact ⟨w3, _, Zc_of rfl rfl (V89_0 h6.1 ⟨_, h6.2.1.ob, _, zc_endOf_t h6.2.1 hb, _, zc_roomOf_t h6.2.1 hb, by omega, fun _ => ⟨_, h6.2.2.1.ob, _, q1, _, p1, by omega, fun q => absurd e1 q, fun _ => ⟨_, p2, by omega, fun _ => ⟨_, p2, sp, s1, w1, x1, _, _, _, _, _, _, _, _, _, x3.1, _, x3.2.1.ob, w2, z1, _, r1.1, w3, y1, rfl, rfl, rfl, rfl⟩, fun q => by omega⟩⟩, fun q => by omega⟩), zFm_trans x2 (zFm_trans (zFm_B z2) y2), ⟨by rw [zsi_len]; exact hc, hk, hh, trivial, sn, hs, y3⟩, cLe_set hc (by omega) (by omega)⟩
      · right
        refine ⟨fun ⟨_, q⟩ => ?_, Zc_of rfl rfl (V89_0 h6.1 ⟨_, h6.2.1.ob, _, zc_endOf_t h6.2.1 hb, _, zc_roomOf_t h6.2.1 hb, by omega, fun _ => ⟨_, h6.2.2.1.ob, _, q1, _, p1, by omega, fun q => absurd e1 q, fun _ => ⟨_, p2, by omega, fun q => by omega, fun _ => ⟨rfl, rfl, rfl, rfl⟩⟩⟩, fun q => by omega⟩)⟩
        rcases q with q | ⟨q, q'⟩
        · omega
        · rcases e3 with ⟨y, hy, e3⟩ | e3
          · have := q' y hy; omega
          · omega
    · right
      have hnf : ¬ fitB 2 r b Y := fun ⟨_, q⟩ => by
        rcases q with q | ⟨q, q'⟩
        · omega
        · rcases e2 with ⟨y, hy, e3⟩ | e3
          · have := q' y hy; omega
          · omega
      rcases e1 with e | ⟨j, x, e, hx, e1⟩
      · subst e
        exact ⟨hnf, Zc_of rfl rfl (V89_0 h6.1 ⟨_, h6.2.1.ob, _, zc_endOf_t h6.2.1 hb, _, zc_roomOf_t h6.2.1 hb, by omega, fun _ => ⟨_, h6.2.2.1.ob, _, q1, _, zc_hPlace_f h6.2.2.1 (by omega) (Or.inl (by omega)), by omega, fun q => ⟨rfl, rfl, rfl, rfl⟩, fun q => absurd (show (-1 : Int) ≠ b.2.1 + b.2.2.2 by omega) q⟩, fun q => by omega⟩)⟩
      · subst e
        have gx := h6.2.2.1.1 x (List.mem_of_getElem? hx)
        exact ⟨hnf, Zc_of rfl rfl (V89_0 h6.1 ⟨_, h6.2.1.ob, _, zc_endOf_t h6.2.1 hb, _, zc_roomOf_t h6.2.1 hb, by omega, fun _ => ⟨_, h6.2.2.1.ob, _, q1, _, zc_hPlace_t h6.2.2.1 hx, by omega, fun q => ⟨rfl, rfl, rfl, rfl⟩, fun q => absurd e1 q⟩, fun q => by omega⟩)⟩
-- the way on behind a failed stretch
theorem rs_move_1 (h : sQ w 1 m k hn cn (X ++ b :: Y)) (hB : (X ++ b :: Y).length ≤ 80) (hn9 : ∀ x ∈ X ++ b :: Y, x.1 ≤ 79) {z room : Int} (hz : 1 ≤ z ∧ z ≤ 300) (hr : rOK 1 room) :
    (∃ w' cn', Zc sc 63 [zp m, zj 80, zj z, zj room] w (some (zj 0)) w' 0 0 ∧ zFm w w' m (msz 1) ∧ sQ w' 1 m k hn cn' (X ++ b :: Y) ∧ cLe cn cn' 150 ∧ selP 1 (k.1) hn (holF 1 (X ++ b :: Y)) room (-1)) ∨
    (∃ w1 w2 w3 w4 sn1 sn2 sn3 hn1 cn1 cn2 cn3 B1 B2 B3 H1 H2 H3 pg1 pg2 pg3 p Z1 Z2, Zc sc 63 [zp m, zj 80, zj z, zj room] w (some (zj 1)) w1 0 0 ∧ sR w1 1 m k hn1 sn1 cn1 B1 H1 pg1 ∧ Zc sc 83 [zp m, zj b.1] w1 none w2 0 0 ∧ sR w2 1 m k hn1 sn2 cn2 B2 H2 pg2 ∧ Zc sc 93 [zp (m + 1), zj 80, zj b.1] w2 none w3 0 0 ∧ sR w3 1 m k hn1 sn3 cn2 B3 H3 pg3 ∧ Zc sc 64 [zp m, zj 3, zj (min z b.2.2.1)] w3 none w4 0 0 ∧ zFm w w4 m (msz 1) ∧ sQ w4 1 m k (hnF (k.1) hn p room) cn3 (Z1 ++ (b.1, p, z, room) :: Z2) ∧ cLe cn cn3 500 ∧ 0 ≤ p ∧ selP 1 (k.1) hn (holF 1 (X ++ b :: Y)) room p ∧ X ++ Y = Z1 ++ Z2) := by
  have gb0 := h.2.2.2.2
  rcases zc_settle_1 (sc := sc) h hB (n := 80) (by omega) (fun x hx => by have := hn9 x hx; omega) hz hr with h1 | ⟨w1, cn1, U, V, p, e0, z1, z2, z3, z4, z5, z6⟩
  · exact Or.inl h1
  · right
    obtain ⟨hc1, hk1, hh1, hg1, sn1, hs1, r1⟩ := id z3
    have hok0 := gb0.choose_spec.2.2.1.1
    have hbm : b ∈ U ++ V := e0 ▸ (by simp : b ∈ X ++ b :: Y)
    have gb := hok0.2 b (by simp)
    have hb79 := hn9 b (by simp)
    -- where the old block stands beside the new one
    have cut : ∃ P Q, U ++ (80, p, z, room) :: V = P ++ b :: Q ∧ ∃ Z1 Z2, P ++ Q = Z1 ++ (80, p, z, room) :: Z2 ∧ X ++ Y = Z1 ++ Z2 := by
      have uniq : ∀ P Q : List bk_T, X ++ b :: Y = P ++ b :: Q → X ++ Y = P ++ Q := fun P Q e => by
        have hm1 := okB_mid.mp hok0
        have hm2 := okB_mid.mp (e ▸ hok0)
        rcases List.append_eq_append_iff.mp e with ⟨a, e1, e2⟩ | ⟨a, e1, e2⟩
        · cases a with
          | nil => simp only [List.nil_append, List.append_nil, List.cons.injEq, true_and] at e1 e2; rw [e1, e2]
          | cons y a =>
            simp only [List.cons_append, List.cons.injEq] at e2
            exact absurd rfl (hm2.2.1 b (by rw [e1, e2.1]; simp)).1
        · cases a with
          | nil => simp only [List.nil_append, List.append_nil, List.cons.injEq, true_and] at e1 e2; rw [e1, e2]
          | cons y a =>
            simp only [List.cons_append, List.cons.injEq] at e2
            exact absurd rfl (hm1.2.1 b (by rw [e1, e2.1]; simp)).1
      rcases List.mem_append.mp hbm with hb | hb
      · obtain ⟨U1, U2, rfl⟩ := List.append_of_mem hb
        refine ⟨U1, U2 ++ (80, p, z, room) :: V, by simp, U1 ++ U2, V, by simp, ?_⟩
        rw [List.append_assoc]
        exact uniq U1 (U2 ++ V) (by rw [e0]; simp)
      · obtain ⟨V1, V2, rfl⟩ := List.append_of_mem hb
        refine ⟨U ++ (80, p, z, room) :: V1, V2, by simp, U, V1 ++ V2, by simp, ?_⟩
        rw [← List.append_assoc]
        exact uniq (U ++ V1) V2 (by rw [e0]; simp)
    obtain ⟨P, Q, c1, Z1, Z2, c2, c3⟩ := cut
    obtain ⟨w2, cn2, y1, y2, y3, y4⟩ := zc_release_1 (sc := sc) (c1 ▸ z3)
    rw [c2] at y3
    obtain ⟨hc2, hk2, hh2, hg2, sn2, hs2, r2⟩ := id y3
    have hmQ := okB_mid.mp (c1 ▸ r1.2.1.1 : okB (P ++ b :: Q))
    obtain ⟨w3, x1, x2, x3⟩ := zc_rename (sc := sc) r2.2.1 (n := b.1) (by omega) (fun y hy => by
      rw [← c2] at hy
      rcases List.mem_append.mp hy with hy | hy
      · exact (hmQ.2.1 y hy).1
      · exact fun e => (hmQ.2.2.1 y hy).1 e.symm)
    have r3 := sR_B r2 x2 x3
    obtain ⟨w4, u1, u2, u3⟩ := zc_count_1 (sc := sc) r3 hc2 (x := 3) (v := min z b.2.2.1) (by omega)
    -- the names alone have changed: holes, pages and order are the same
    have gap : ∀ (part : Int → Int → Int) (f : Int), holL part (Z1 ++ (b.1, p, z, room) :: Z2) f = holL part (Z1 ++ (80, p, z, room) :: Z2) f := by
      intro part f
      rw [holL_G, holL_G, holG_mid, holG_mid]
    have epg : pgF (Z1 ++ (b.1, p, z, room) :: Z2) = pgF (Z1 ++ (80, p, z, room) :: Z2) := by
      refine pg_ext (pgF_len _) (pgF_len _) fun q q0 q1 => ?_
      rw [pgF_get _ q0 q1, pgF_get _ q0 q1]
      unfold lastK
      rw [List.foldl_append, List.foldl_append]
      rfl
    have eh : holF 1 (Z1 ++ (b.1, p, z, room) :: Z2) = holF 1 (Z1 ++ (80, p, z, room) :: Z2) := by
      unfold holF
      rw [epg, gap]
    have hg3 : gcB 1 (Z1 ++ (b.1, p, z, room) :: Z2) := by
      have ren : ∀ {y : bk_T}, y ∈ Z1 ++ (b.1, p, z, room) :: Z2 → ∃ y' ∈ Z1 ++ (80, p, z, room) :: Z2, y'.2 = y.2 := fun {y} hy => by
        rcases mem_mid.mp hy with hy | rfl
        · exact ⟨y, mem_mid.mpr (Or.inl hy), rfl⟩
        · exact ⟨_, mem_mid.mpr (Or.inr rfl), rfl⟩
      exact fun y hy => by obtain ⟨y', h1, h2⟩ := ren hy; rw [← h2]; exact hg2 y' h1
    have e80 : ((80, p, z, room) : bk_T).1 = 80 := rfl
    exact ⟨w1, w2, w3, w4, sn1, sn2, sn2, _, cn1, cn2, zsi cn2 3 (zgi cn2 3 + min z b.2.2.1), _, _, _, _, _, _, _, _, _, p, Z1, Z2, z1, r1, y1, r2, x1, r3, u1, zFm_trans z2 (zFm_trans y2 (zFm_trans (zFm_B x2) u2)), ⟨by rw [zsi_len]; exact hc2, hk2, hh2, hg3, sn2, hs2, by rw [eh, epg]; exact u3⟩, cLe_trans z4 (cLe_trans y4 (cLe_set hc2 (by omega) (by omega : 0 ≤ min z b.2.2.1 ∧ min z b.2.2.1 ≤ 300)) (by omega : (10 : Int) + 300 ≤ 350)) (by omega), z6, z5, c3⟩
theorem rs_move_2 (h : sQ w 2 m k hn cn (X ++ b :: Y)) (hB : (X ++ b :: Y).length ≤ 80) (hn9 : ∀ x ∈ X ++ b :: Y, x.1 ≤ 79) {z room : Int} (hz : 1 ≤ z ∧ z ≤ 300) (hr : rOK 2 room) :
    (∃ w' cn', Zc sc 63 [zp m, zj 80, zj z, zj room] w (some (zj 0)) w' 0 0 ∧ zFm w w' m (msz 2) ∧ sQ w' 2 m k hn cn' (X ++ b :: Y) ∧ cLe cn cn' 150 ∧ selP 2 (k.1) hn (holF 2 (X ++ b :: Y)) room (-1)) ∨
    (∃ w1 w2 w3 w4 sn1 sn2 sn3 hn1 cn1 cn2 cn3 B1 B2 B3 H1 H2 H3 pg1 pg2 pg3 p Z1 Z2, Zc sc 63 [zp m, zj 80, zj z, zj room] w (some (zj 1)) w1 0 0 ∧ sR w1 2 m k hn1 sn1 cn1 B1 H1 pg1 ∧ Zc sc 83 [zp m, zj b.1] w1 none w2 0 0 ∧ sR w2 2 m k hn1 sn2 cn2 B2 H2 pg2 ∧ Zc sc 93 [zp (m + 1), zj 80, zj b.1] w2 none w3 0 0 ∧ sR w3 2 m k hn1 sn3 cn2 B3 H3 pg3 ∧ Zc sc 64 [zp m, zj 3, zj (min z b.2.2.1)] w3 none w4 0 0 ∧ zFm w w4 m (msz 2) ∧ sQ w4 2 m k (hnF (k.1) hn p room) cn3 (Z1 ++ (b.1, p, z, room) :: Z2) ∧ cLe cn cn3 500 ∧ 0 ≤ p ∧ selP 2 (k.1) hn (holF 2 (X ++ b :: Y)) room p ∧ X ++ Y = Z1 ++ Z2) := by
  have gb0 := h.2.2.2.2
  rcases zc_settle_2 (sc := sc) h hB (n := 80) (by omega) (fun x hx => by have := hn9 x hx; omega) hz hr with h1 | ⟨w1, cn1, U, V, p, e0, z1, z2, z3, z4, z5, z6⟩
  · exact Or.inl h1
  · right
    obtain ⟨hc1, hk1, hh1, hg1, sn1, hs1, r1⟩ := id z3
    have hok0 := gb0.choose_spec.2.2.1.1
    have hbm : b ∈ U ++ V := e0 ▸ (by simp : b ∈ X ++ b :: Y)
    have gb := hok0.2 b (by simp)
    have hb79 := hn9 b (by simp)
    -- where the old block stands beside the new one
    have cut : ∃ P Q, U ++ (80, p, z, room) :: V = P ++ b :: Q ∧ ∃ Z1 Z2, P ++ Q = Z1 ++ (80, p, z, room) :: Z2 ∧ X ++ Y = Z1 ++ Z2 := by
      have uniq : ∀ P Q : List bk_T, X ++ b :: Y = P ++ b :: Q → X ++ Y = P ++ Q := fun P Q e => by
        have hm1 := okB_mid.mp hok0
        have hm2 := okB_mid.mp (e ▸ hok0)
        rcases List.append_eq_append_iff.mp e with ⟨a, e1, e2⟩ | ⟨a, e1, e2⟩
        · cases a with
          | nil => simp only [List.nil_append, List.append_nil, List.cons.injEq, true_and] at e1 e2; rw [e1, e2]
          | cons y a =>
            simp only [List.cons_append, List.cons.injEq] at e2
            exact absurd rfl (hm2.2.1 b (by rw [e1, e2.1]; simp)).1
        · cases a with
          | nil => simp only [List.nil_append, List.append_nil, List.cons.injEq, true_and] at e1 e2; rw [e1, e2]
          | cons y a =>
            simp only [List.cons_append, List.cons.injEq] at e2
            exact absurd rfl (hm1.2.1 b (by rw [e1, e2.1]; simp)).1
      rcases List.mem_append.mp hbm with hb | hb
      · obtain ⟨U1, U2, rfl⟩ := List.append_of_mem hb
        refine ⟨U1, U2 ++ (80, p, z, room) :: V, by simp, U1 ++ U2, V, by simp, ?_⟩
        rw [List.append_assoc]
        exact uniq U1 (U2 ++ V) (by rw [e0]; simp)
      · obtain ⟨V1, V2, rfl⟩ := List.append_of_mem hb
        refine ⟨U ++ (80, p, z, room) :: V1, V2, by simp, U, V1 ++ V2, by simp, ?_⟩
        rw [← List.append_assoc]
        exact uniq (U ++ V1) V2 (by rw [e0]; simp)
    obtain ⟨P, Q, c1, Z1, Z2, c2, c3⟩ := cut
    obtain ⟨w2, cn2, y1, y2, y3, y4⟩ := zc_release_2 (sc := sc) (c1 ▸ z3)
    rw [c2] at y3
    obtain ⟨hc2, hk2, hh2, hg2, sn2, hs2, r2⟩ := id y3
    have hmQ := okB_mid.mp (c1 ▸ r1.2.1.1 : okB (P ++ b :: Q))
    obtain ⟨w3, x1, x2, x3⟩ := zc_rename (sc := sc) r2.2.1 (n := b.1) (by omega) (fun y hy => by
      rw [← c2] at hy
      rcases List.mem_append.mp hy with hy | hy
      · exact (hmQ.2.1 y hy).1
      · exact fun e => (hmQ.2.2.1 y hy).1 e.symm)
    have r3 := sR_B r2 x2 x3
    obtain ⟨w4, u1, u2, u3⟩ := zc_count_2 (sc := sc) r3 hc2 (x := 3) (v := min z b.2.2.1) (by omega)
    -- the names alone have changed: holes, pages and order are the same
    have gap : ∀ (part : Int → Int → Int) (f : Int), holL part (Z1 ++ (b.1, p, z, room) :: Z2) f = holL part (Z1 ++ (80, p, z, room) :: Z2) f := by
      intro part f
      rw [holL_G, holL_G, holG_mid, holG_mid]
    have epg : pgF (Z1 ++ (b.1, p, z, room) :: Z2) = pgF (Z1 ++ (80, p, z, room) :: Z2) := by
      refine pg_ext (pgF_len _) (pgF_len _) fun q q0 q1 => ?_
      rw [pgF_get _ q0 q1, pgF_get _ q0 q1]
      unfold lastK
      rw [List.foldl_append, List.foldl_append]
      rfl
    have eh : holF 2 (Z1 ++ (b.1, p, z, room) :: Z2) = holF 2 (Z1 ++ (80, p, z, room) :: Z2) := by
      unfold holF
      rw [epg, gap]
    have hg3 : gcB 2 (Z1 ++ (b.1, p, z, room) :: Z2) := by
      have ren : ∀ {y : bk_T}, y ∈ Z1 ++ (b.1, p, z, room) :: Z2 → ∃ y' ∈ Z1 ++ (80, p, z, room) :: Z2, y'.2 = y.2 := fun {y} hy => by
        rcases mem_mid.mp hy with hy | rfl
        · exact ⟨y, mem_mid.mpr (Or.inl hy), rfl⟩
        · exact ⟨_, mem_mid.mpr (Or.inr rfl), rfl⟩
      trivial
    have e80 : ((80, p, z, room) : bk_T).1 = 80 := rfl
    exact ⟨w1, w2, w3, w4, sn1, sn2, sn2, _, cn1, cn2, zsi cn2 3 (zgi cn2 3 + min z b.2.2.1), _, _, _, _, _, _, _, _, _, p, Z1, Z2, z1, r1, y1, r2, x1, r3, u1, zFm_trans z2 (zFm_trans y2 (zFm_trans (zFm_B x2) u2)), ⟨by rw [zsi_len]; exact hc2, hk2, hh2, hg3, sn2, hs2, by rw [eh, epg]; exact u3⟩, cLe_trans z4 (cLe_trans y4 (cLe_set hc2 (by omega) (by omega : 0 ≤ min z b.2.2.1 ∧ min z b.2.2.1 ≤ 300)) (by omega : (10 : Int) + 300 ≤ 350)) (by omega), z6, z5, c3⟩
theorem rs_move_4 (h : sQ w 4 m k hn cn (X ++ b :: Y)) (hB : (X ++ b :: Y).length ≤ 80) (hn9 : ∀ x ∈ X ++ b :: Y, x.1 ≤ 79) {z room : Int} (hz : 1 ≤ z ∧ z ≤ 300) (hr : rOK 4 room) :
    (∃ w' cn', Zc sc 63 [zp m, zj 80, zj z, zj room] w (some (zj 0)) w' 0 0 ∧ zFm w w' m (msz 4) ∧ sQ w' 4 m k hn cn' (X ++ b :: Y) ∧ cLe cn cn' 150 ∧ selP 4 (k.1) hn (holF 4 (X ++ b :: Y)) room (-1)) ∨
    (∃ w1 w2 w3 w4 sn1 sn2 sn3 hn1 cn1 cn2 cn3 B1 B2 B3 H1 H2 H3 pg1 pg2 pg3 p Z1 Z2, Zc sc 63 [zp m, zj 80, zj z, zj room] w (some (zj 1)) w1 0 0 ∧ sR w1 4 m k hn1 sn1 cn1 B1 H1 pg1 ∧ Zc sc 83 [zp m, zj b.1] w1 none w2 0 0 ∧ sR w2 4 m k hn1 sn2 cn2 B2 H2 pg2 ∧ Zc sc 93 [zp (m + 1), zj 80, zj b.1] w2 none w3 0 0 ∧ sR w3 4 m k hn1 sn3 cn2 B3 H3 pg3 ∧ Zc sc 64 [zp m, zj 3, zj (min z b.2.2.1)] w3 none w4 0 0 ∧ zFm w w4 m (msz 4) ∧ sQ w4 4 m k (hnF (k.1) hn p room) cn3 (Z1 ++ (b.1, p, z, room) :: Z2) ∧ cLe cn cn3 500 ∧ 0 ≤ p ∧ selP 4 (k.1) hn (holF 4 (X ++ b :: Y)) room p ∧ X ++ Y = Z1 ++ Z2) := by
  have gb0 := h.2.2.2.2
  rcases zc_settle_4 (sc := sc) h hB (n := 80) (by omega) (fun x hx => by have := hn9 x hx; omega) hz hr with h1 | ⟨w1, cn1, U, V, p, e0, z1, z2, z3, z4, z5, z6⟩
  · exact Or.inl h1
  · right
    obtain ⟨hc1, hk1, hh1, hg1, sn1, hs1, r1⟩ := id z3
    have hok0 := gb0.choose_spec.2.2.1.1
    have hbm : b ∈ U ++ V := e0 ▸ (by simp : b ∈ X ++ b :: Y)
    have gb := hok0.2 b (by simp)
    have hb79 := hn9 b (by simp)
    -- where the old block stands beside the new one
    have cut : ∃ P Q, U ++ (80, p, z, room) :: V = P ++ b :: Q ∧ ∃ Z1 Z2, P ++ Q = Z1 ++ (80, p, z, room) :: Z2 ∧ X ++ Y = Z1 ++ Z2 := by
      have uniq : ∀ P Q : List bk_T, X ++ b :: Y = P ++ b :: Q → X ++ Y = P ++ Q := fun P Q e => by
        have hm1 := okB_mid.mp hok0
        have hm2 := okB_mid.mp (e ▸ hok0)
        rcases List.append_eq_append_iff.mp e with ⟨a, e1, e2⟩ | ⟨a, e1, e2⟩
        · cases a with
          | nil => simp only [List.nil_append, List.append_nil, List.cons.injEq, true_and] at e1 e2; rw [e1, e2]
          | cons y a =>
            simp only [List.cons_append, List.cons.injEq] at e2
            exact absurd rfl (hm2.2.1 b (by rw [e1, e2.1]; simp)).1
        · cases a with
          | nil => simp only [List.nil_append, List.append_nil, List.cons.injEq, true_and] at e1 e2; rw [e1, e2]
          | cons y a =>
            simp only [List.cons_append, List.cons.injEq] at e2
            exact absurd rfl (hm1.2.1 b (by rw [e1, e2.1]; simp)).1
      rcases List.mem_append.mp hbm with hb | hb
      · obtain ⟨U1, U2, rfl⟩ := List.append_of_mem hb
        refine ⟨U1, U2 ++ (80, p, z, room) :: V, by simp, U1 ++ U2, V, by simp, ?_⟩
        rw [List.append_assoc]
        exact uniq U1 (U2 ++ V) (by rw [e0]; simp)
      · obtain ⟨V1, V2, rfl⟩ := List.append_of_mem hb
        refine ⟨U ++ (80, p, z, room) :: V1, V2, by simp, U, V1 ++ V2, by simp, ?_⟩
        rw [← List.append_assoc]
        exact uniq (U ++ V1) V2 (by rw [e0]; simp)
    obtain ⟨P, Q, c1, Z1, Z2, c2, c3⟩ := cut
    obtain ⟨w2, cn2, y1, y2, y3, y4⟩ := zc_release_4 (sc := sc) (c1 ▸ z3)
    rw [c2] at y3
    obtain ⟨hc2, hk2, hh2, hg2, sn2, hs2, r2⟩ := id y3
    have hmQ := okB_mid.mp (c1 ▸ r1.2.1.1 : okB (P ++ b :: Q))
    obtain ⟨w3, x1, x2, x3⟩ := zc_rename (sc := sc) r2.2.1 (n := b.1) (by omega) (fun y hy => by
      rw [← c2] at hy
      rcases List.mem_append.mp hy with hy | hy
      · exact (hmQ.2.1 y hy).1
      · exact fun e => (hmQ.2.2.1 y hy).1 e.symm)
    have r3 := sR_B r2 x2 x3
    obtain ⟨w4, u1, u2, u3⟩ := zc_count_4 (sc := sc) r3 hc2 (x := 3) (v := min z b.2.2.1) (by omega)
    -- the names alone have changed: holes, pages and order are the same
    have gap : ∀ (part : Int → Int → Int) (f : Int), holL part (Z1 ++ (b.1, p, z, room) :: Z2) f = holL part (Z1 ++ (80, p, z, room) :: Z2) f := by
      intro part f
      rw [holL_G, holL_G, holG_mid, holG_mid]
    have epg : pgF (Z1 ++ (b.1, p, z, room) :: Z2) = pgF (Z1 ++ (80, p, z, room) :: Z2) := by
      refine pg_ext (pgF_len _) (pgF_len _) fun q q0 q1 => ?_
      rw [pgF_get _ q0 q1, pgF_get _ q0 q1]
      unfold lastK
      rw [List.foldl_append, List.foldl_append]
      rfl
    have eh : holF 4 (Z1 ++ (b.1, p, z, room) :: Z2) = holF 4 (Z1 ++ (80, p, z, room) :: Z2) := by
      unfold holF
      rw [epg, gap]
    have hg3 : gcB 4 (Z1 ++ (b.1, p, z, room) :: Z2) := by
      have ren : ∀ {y : bk_T}, y ∈ Z1 ++ (b.1, p, z, room) :: Z2 → ∃ y' ∈ Z1 ++ (80, p, z, room) :: Z2, y'.2 = y.2 := fun {y} hy => by
        rcases mem_mid.mp hy with hy | rfl
        · exact ⟨y, mem_mid.mpr (Or.inl hy), rfl⟩
        · exact ⟨_, mem_mid.mpr (Or.inr rfl), rfl⟩
      exact ⟨fun y hy => by obtain ⟨y', h1, h2⟩ := ren hy; rw [← h2]; exact hg2.1 y' h1, fun y hy x hx => by obtain ⟨y', h1, h2⟩ := ren hy; obtain ⟨x', h3, h4⟩ := ren hx; rw [← h2, ← h4]; exact hg2.2 y' h1 x' h3⟩
    have e80 : ((80, p, z, room) : bk_T).1 = 80 := rfl
    exact ⟨w1, w2, w3, w4, sn1, sn2, sn2, _, cn1, cn2, zsi cn2 3 (zgi cn2 3 + min z b.2.2.1), _, _, _, _, _, _, _, _, _, p, Z1, Z2, z1, r1, y1, r2, x1, r3, u1, zFm_trans z2 (zFm_trans y2 (zFm_trans (zFm_B x2) u2)), ⟨by rw [zsi_len]; exact hc2, hk2, hh2, hg3, sn2, hs2, by rw [eh, epg]; exact u3⟩, cLe_trans z4 (cLe_trans y4 (cLe_set hc2 (by omega) (by omega : 0 ≤ min z b.2.2.1 ∧ min z b.2.2.1 ≤ 300)) (by omega : (10 : Int) + 300 ≤ 350)) (by omega), z6, z5, c3⟩
end MVT
