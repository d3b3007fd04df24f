/-! ===== Blocks: what changes them ===== -/
theorem mid_lt {α : Type} {X Y : List α} {b : α} {k : Nat} (h : k < X.length) : (X ++ b :: Y)[k]? = X[k]? := List.getElem?_append_left h
theorem mid_eq {α : Type} {X Y : List α} {b : α} : (X ++ b :: Y)[X.length]? = some b := by simp
theorem mid_gt {α : Type} {X Y : List α} {b : α} {k : Nat} (h : X.length < k) : (X ++ b :: Y)[k]? = Y[k - X.length - 1]? := by
  rw [List.getElem?_append_right (by omega)]
  obtain ⟨j, hj⟩ : ∃ j, k - X.length = j + 1 := ⟨k - X.length - 1, by omega⟩
  rw [hj, List.getElem?_cons_succ]
  congr 1
theorem app_ge {α : Type} {X Y : List α} {k : Nat} (h : X.length ≤ k) : (X ++ Y)[k]? = Y[k - X.length]? := List.getElem?_append_right h
theorem len_mid {α : Type} {X Y : List α} (b' b : α) : (X ++ b' :: Y).length = (X ++ b :: Y).length := by simp
theorem zsi_same {l : List Int} {x v : Int} (h0 : 0 ≤ x) (h1 : x < (l.length : Int)) (h : zgi l x = v) : zsi l x v = l := by
  have hx : x.toNat < l.length := by omega
  unfold zgi at h
  rw [List.getD_eq_getElem?_getD, List.getElem?_eq_getElem hx] at h
  unfold zsi
  rw [← h]
  exact List.set_getElem_self hx
theorem RB_upd {pl sz rm bp : List Int} {X Y : List bk_T} {b b' : bk_T} (hok : okB (X ++ b :: Y)) (h : RB pl sz rm bp (X ++ b :: Y)) (e : b'.1 = b.1) : RB (zsi pl b.1 b'.2.1) (zsi sz b.1 b'.2.2.1) (zsi rm b.1 b'.2.2.2) bp (X ++ b' :: Y) := by
  obtain ⟨hln, ho, hc, ha⟩ := h
  have hm := okB_mid.mp hok
  have g := hm.2.2.2
  refine ⟨by simp only [zsi_len]; exact hln, fun k c hk => ?_, fun c hcm => ?_, fun n hn1 hn2 hn3 => ?_⟩
  · rcases Nat.lt_trichotomy k X.length with hlt | rfl | hgt
    · exact ho k c (by rw [mid_lt hlt] at hk ⊢; exact hk)
    · rw [mid_eq] at hk
      cases hk
      rw [e]
      exact ho _ b mid_eq
    · exact ho k c (by rw [mid_gt hgt] at hk ⊢; exact hk)
  · simp only [List.mem_append, List.mem_cons] at hcm
    have other : ∀ c : bk_T, c ∈ X ++ b :: Y → c.1 ≠ b.1 → 0 ≤ c.1 → zgi (zsi pl b.1 b'.2.1) c.1 = c.2.1 ∧ zgi (zsi sz b.1 b'.2.2.1) c.1 = c.2.2.1 ∧ zgi (zsi rm b.1 b'.2.2.2) c.1 = c.2.2.2 := by
      intro c h1 h2 h3
      rw [zgi_set (by omega) (by omega) h3, zgi_set (by omega) (by omega) h3, zgi_set (by omega) (by omega) h3, if_neg h2, if_neg h2, if_neg h2]
      exact hc c h1
    rcases hcm with hx | rfl | hy
    · exact other c (by simp [hx]) (hm.2.1 c hx).1 (hm.1.2 c (by simp [hx])).1
    · rw [e, zgi_set (by omega) (by omega) (by omega), zgi_set (by omega) (by omega) (by omega), zgi_set (by omega) (by omega) (by omega), if_pos rfl, if_pos rfl, if_pos rfl]
      exact ⟨rfl, rfl, rfl⟩
    · exact other c (by simp [hy]) (fun h9 => (hm.2.2.1 c hy).1 h9.symm) (hm.1.2 c (by simp [hy])).1
  · have hne : n ≠ b.1 := fun h9 => hn3 b' (by simp) (by rw [e, h9])
    rw [zgi_set (by omega) (by omega) hn1, if_neg hne]
    refine ha n hn1 hn2 fun c hcm => ?_
    simp only [List.mem_append, List.mem_cons] at hcm
    rcases hcm with hx | rfl | hy
    · exact hn3 c (by simp [hx])
    · exact fun h9 => hne h9.symm
    · exact hn3 c (by simp [hy])
theorem RB_rem {pl sz rm bp bp' : List Int} {X Y : List bk_T} {b : bk_T} (hok : okB (X ++ b :: Y)) (h : RB pl sz rm bp (X ++ b :: Y)) (hb : bp'.length = 81) (hb2 : ∀ (k : Nat) c, (X ++ Y)[k]? = some c → zgi bp' k = c.1) : RB pl sz (zsi rm b.1 0) bp' (X ++ Y) := by
  obtain ⟨hln, ho, hc, ha⟩ := h
  have hm := okB_mid.mp hok
  have g := hm.2.2.2
  refine ⟨by simp only [zsi_len]; omega, hb2, fun c hcm => ?_, fun n hn1 hn2 hn3 => ?_⟩
  · have hcm' : c ∈ X ++ b :: Y := by
      simp only [List.mem_append, List.mem_cons] at hcm ⊢
      rcases hcm with h | h
      · exact Or.inl h
      · exact Or.inr (Or.inr h)
    have hne : c.1 ≠ b.1 := by
      rcases List.mem_append.mp hcm with h | h
      · exact (hm.2.1 c h).1
      · exact fun h9 => (hm.2.2.1 c h).1 h9.symm
    have := hc c hcm'
    have g2 := hm.1.2 c hcm
    rw [zgi_set (by omega) (by omega) (by omega), if_neg hne]
    exact this
  · rw [zgi_set (by omega) (by omega) hn1]
    by_cases hne : n = b.1
    · rw [if_pos hne]
    · rw [if_neg hne]
      refine ha n hn1 hn2 fun c hcm => ?_
      simp only [List.mem_append, List.mem_cons] at hcm
      rcases hcm with hx | rfl | hy
      · exact hn3 c (by simp [hx])
      · exact fun h9 => hne h9.symm
      · exact hn3 c (by simp [hy])
theorem RB_put {pl sz rm bp bp' : List Int} {X Y : List bk_T} {b : bk_T} (hok : okB (X ++ b :: Y)) (h : RB pl sz rm bp (X ++ Y)) (hb : bp'.length = 81) (hb2 : ∀ (k : Nat) c, (X ++ b :: Y)[k]? = some c → zgi bp' k = c.1) : RB (zsi pl b.1 b.2.1) (zsi sz b.1 b.2.2.1) (zsi rm b.1 b.2.2.2) bp' (X ++ b :: Y) := by
  obtain ⟨hln, ho, hc, ha⟩ := h
  have hm := okB_mid.mp hok
  have g := hm.2.2.2
  refine ⟨by simp only [zsi_len]; omega, hb2, fun c hcm => ?_, fun n hn1 hn2 hn3 => ?_⟩
  · simp only [List.mem_append, List.mem_cons] at hcm
    have other : ∀ c : bk_T, c ∈ X ++ Y → c.1 ≠ b.1 → 0 ≤ c.1 → zgi (zsi pl b.1 b.2.1) c.1 = c.2.1 ∧ zgi (zsi sz b.1 b.2.2.1) c.1 = c.2.2.1 ∧ zgi (zsi rm b.1 b.2.2.2) c.1 = c.2.2.2 := by
      intro c h1 h2 h3
      rw [zgi_set (by omega) (by omega) h3, zgi_set (by omega) (by omega) h3, zgi_set (by omega) (by omega) h3, if_neg h2, if_neg h2, if_neg h2]
      exact hc c h1
    rcases hcm with hx | rfl | hy
    · exact other c (by simp [hx]) (hm.2.1 c hx).1 (hm.1.2 c (by simp [hx])).1
    · rw [zgi_set (by omega) (by omega) (by omega), zgi_set (by omega) (by omega) (by omega), zgi_set (by omega) (by omega) (by omega), if_pos rfl, if_pos rfl, if_pos rfl]
      exact ⟨rfl, rfl, rfl⟩
    · exact other c (by simp [hy]) (fun h9 => (hm.2.2.1 c hy).1 h9.symm) (hm.1.2 c (by simp [hy])).1
  · have hne : n ≠ b.1 := fun h9 => hn3 b (by simp) h9.symm
    rw [zgi_set (by omega) (by omega) hn1, if_neg hne]
    refine ha n hn1 hn2 fun c hcm => hn3 c ?_
    simp only [List.mem_append, List.mem_cons] at hcm ⊢
    rcases hcm with h | h
    · exact Or.inl h
    · exact Or.inr (Or.inr h)
section BLC
variable {sc : List Value} {w : List zE} {a : Nat} {X Y : List bk_T} {b : bk_T}
theorem zc_placeOf_r {ct rt n : Int} {pl rm : List Int} (h0 : w[a]? = some (bobj a ct rt)) (h1 : w[a + 1]? = some (za pl)) (h3 : w[a + 3]? = some (za rm)) (hl : pl.length = 81 ∧ rm.length = 81) (hn : 0 ≤ n ∧ n ≤ 80) (hr : 1 ≤ zgi rm n ∧ zgi rm n ≤ 1024) : Zc sc 9 [zp a, zj n] w (some (zj (zgi pl n))) w 0 0 := by
  have hh : Zc sc 7 [zp a, zj n] w (some (zj 1)) w 0 0 := Zc_of rfl rfl (V7_0 h0 h3 ⟨by omega, fun _ => by omega, fun _ => ⟨by omega, fun _ => by omega, fun _ => ⟨by omega, by omega, fun _ => by omega, fun _ => ⟨rfl, rfl, rfl, rfl⟩⟩⟩⟩)
  exact Zc_of rfl rfl (V9_0 h0 h1 ⟨_, hh, by omega, fun _ => by omega, fun _ => ⟨by omega, rfl, rfl, rfl, rfl⟩⟩)
theorem zw_same {w : List zE} {a : Nat} {X : zE} (h : w[a]? = some X) : w.set a X = w := by
  obtain ⟨h1, h2⟩ := List.getElem?_eq_some_iff.mp h
  rw [← h2]
  exact List.set_getElem_self h1
theorem zc_fill {l : List Int} {v : Int} (hl : l.length ≤ 60000) (h : w[a]? = some (za l)) : Zc sc 71 [zp a, zj v] w none (w.set a (za (List.replicate l.length v))) 0 0 := by
  have key : ∀ (m k : Nat) (w0 : List zE) (l' : List Int), k + m = l.length → w0[a]? = some (za l') → l'.length = l.length → (∀ i, i < k → l'[i]? = some v) → Zr sc 71 5 [zp a, zj v, zj k, zj (l.length : Int)] [] w0 none (w0.set a (za (List.replicate l.length v))) 0 0 := by
    intro m
    induction m with
    | zero =>
      intro k w0 l' hk h0 e q
      have : l' = List.replicate l.length v := by
        apply List.ext_getElem?
        intro i
        rw [List.getElem?_replicate]
        by_cases hi : i < l.length
        · rw [if_pos hi]; exact q i (by omega)
        · rw [if_neg hi]; exact List.getElem?_eq_none (by omega)
      rw [← this, zw_same h0]
      exact V71_5 ⟨by omega, fun _ => ⟨rfl, rfl, rfl, rfl⟩, fun _ => by omega⟩
    | succ m ih =>
      intro k w0 l' hk h0 e q
      have := ih (k + 1) (w0.set a (za (zsi l' k v))) _ (by omega) (zw_s h0) (by rw [zsi_len]; exact e) (fun i hi => by
        unfold zsi
        rw [List.getElem?_set]
        by_cases hik : k = i
        · subst hik
          rw [if_pos (by omega), if_pos (by omega)]
        · rw [if_neg (by omega)]
          exact q i (by omega))
      rw [List.set_set] at this
      exact V71_5 ⟨by omega, fun _ => by omega, fun _ => ⟨_, h0, by omega, this⟩⟩
  exact Zc_of rfl rfl (V71_0 ⟨_, h, key l.length 0 w l (by omega) h rfl (fun i hi => by omega)⟩)
theorem zgi_rep (n : Nat) (x : Int) : zgi (List.replicate n 0) x = 0 := by
  unfold zgi
  rw [List.getD_eq_getElem?_getD, List.getElem?_replicate]
  split <;> rfl
theorem zc_removeAll {B : List bk_T} (h : sB w a B) : ∃ w', Zc sc 122 [zp a] w none w' 0 0 ∧ zFm w w' a 5 ∧ sB w' a [] := by
  obtain ⟨hok, hl, h0, pl, sz, rm, bp, hR, h1, h2, h3, h4⟩ := h
  have hln := hR.1
  have hf := zc_fill (sc := sc) (v := 0) (by omega) h3
  have k0 : (w.set (a + 3) (za (List.replicate rm.length 0)))[a]? = some (bobj a B.length (sumR B)) := zw_o (by omega) h0
  refine ⟨_, Zc_of rfl rfl (V122_0 h0 ⟨_, hf, _, _, k0, rfl, rfl, rfl, rfl⟩), zFm_st (zFm_st (zFm_set (by omega) (by omega)) (by omega) (by omega)) (by omega) (by omega), okB_nil, by decide, ?_, pl, sz, List.replicate rm.length 0, bp, ?_, ?_, ?_, ?_, ?_⟩
  · exact zw_s (zw_s k0)
  · exact ⟨by rw [List.length_replicate]; exact hln, fun k c hk => (by simp at hk), fun c hc => (by cases hc), fun n h1 h2 _ => zgi_rep _ _⟩
  · exact zw_o (by omega) (zw_o (by omega) (zw_o (by omega) h1))
  · exact zw_o (by omega) (zw_o (by omega) (zw_o (by omega) h2))
  · exact zw_o (by omega) (zw_o (by omega) (zw_s h3))
  · exact zw_o (by omega) (zw_o (by omega) (zw_o (by omega) h4))
theorem zc_setSize (h : sB w a (X ++ b :: Y)) {s : Int} (hs : 1 ≤ s ∧ s ≤ 300) : ∃ w', Zc sc 92 [zp a, zj b.1, zj s] w none w' 0 0 ∧ zFm w w' a 5 ∧ sB w' a (X ++ (b.1, b.2.1, s, b.2.2.2) :: Y) := by
  have hh := zc_has_t (sc := sc) h (b := b) (by simp)
  obtain ⟨hok, hl, h0, pl, sz, rm, bp, hR, h1, h2, h3, h4⟩ := id h; have hln := hR.1; have hm := okB_mid.mp hok; have g := hm.2.2.2; have gb := hR.2.2.1 b (by simp)
  have hU := RB_upd (b' := (b.1, b.2.1, s, b.2.2.2)) hok hR rfl
  rw [zsi_same (by omega) (by omega) gb.1, zsi_same (by omega) (by omega) gb.2.2] at hU
  have e1 := sumR_mid X Y b
  have e2 := sumR_mid X Y (b.1, b.2.1, s, b.2.2.2)
  have e3 : sumR (X ++ (b.1, b.2.1, s, b.2.2.2) :: Y) = sumR (X ++ b :: Y) := by rw [e1, e2]
  refine ⟨_, Zc_of rfl rfl (V92_0 h0 h2 ⟨_, hh, by omega, fun _ => by omega, fun _ => ⟨by omega, rfl, rfl, rfl, rfl⟩⟩), zFm_set (by omega) (by omega), okB_mid.mpr ⟨hm.1, hm.2.1, hm.2.2.1, g.1, g.2.1, g.2.2.1, hs.1, hs.2, g.2.2.2.2.2.1, g.2.2.2.2.2.2⟩, by simpa using hl, ?_, pl, zsi sz b.1 s, rm, bp, hU, zw_o (by omega) h1, zw_s h2, zw_o (by omega) h3, zw_o (by omega) h4⟩
  rw [e3, len_mid _ b]
  exact zw_o (show a + 2 ≠ a by omega) h0
theorem zc_setPlace (h : sB w a (X ++ b :: Y)) {p : Int} (hp : okB (X ++ (b.1, p, b.2.2) :: Y)) : ∃ w', Zc sc 95 [zp a, zj b.1, zj p] w none w' 0 0 ∧ zFm w w' a 5 ∧ sB w' a (X ++ (b.1, p, b.2.2) :: Y) := by
  have hh := zc_has_t (sc := sc) h (b := b) (by simp)
  obtain ⟨hok, hl, h0, pl, sz, rm, bp, hR, h1, h2, h3, h4⟩ := id h; have hln := hR.1; have hm := okB_mid.mp hok; have g := hm.2.2.2; have gb := hR.2.2.1 b (by simp)
  have hU := RB_upd (b' := (b.1, p, b.2.2)) hok hR rfl
  rw [zsi_same (by omega) (by omega) gb.2.1, zsi_same (by omega) (by omega) gb.2.2] at hU
  have e1 := sumR_mid X Y b
  have e2 := sumR_mid X Y (b.1, p, b.2.2)
  have e3 : sumR (X ++ (b.1, p, b.2.2) :: Y) = sumR (X ++ b :: Y) := by rw [e1, e2]
  refine ⟨_, Zc_of rfl rfl (V95_0 h0 h1 ⟨_, hh, by omega, fun _ => by omega, fun _ => ⟨by omega, rfl, rfl, rfl, rfl⟩⟩), zFm_set (by omega) (by omega), hp, by simpa using hl, ?_, zsi pl b.1 p, sz, rm, bp, hU, zw_s h1, zw_o (by omega) h2, zw_o (by omega) h3, zw_o (by omega) h4⟩
  rw [e3, len_mid _ b]
  exact zw_o (show a + 1 ≠ a by omega) h0
theorem zc_setRoom (h : sB w a (X ++ b :: Y)) {r : Int} (hp : okB (X ++ (b.1, b.2.1, b.2.2.1, r) :: Y)) : ∃ w', Zc sc 90 [zp a, zj b.1, zj r] w none w' 0 0 ∧ zFm w w' a 5 ∧ sB w' a (X ++ (b.1, b.2.1, b.2.2.1, r) :: Y) := by
  have hh := zc_has_t (sc := sc) h (b := b) (by simp)
  obtain ⟨hok, hl, h0, pl, sz, rm, bp, hR, h1, h2, h3, h4⟩ := id h; have hln := hR.1; have hm := okB_mid.mp hok; have g := hm.2.2.2; have gb := hR.2.2.1 b (by simp)
  have hU := RB_upd (b' := (b.1, b.2.1, b.2.2.1, r)) hok hR rfl
  rw [zsi_same (by omega) (by omega) gb.2.1, zsi_same (by omega) (by omega) gb.1] at hU
  have e1 := sumR_mid X Y b
  have e2 := sumR_mid X Y (b.1, b.2.1, b.2.2.1, r)
  have e3 : sumR (X ++ b :: Y) + (r - zgi rm b.1) = sumR (X ++ (b.1, b.2.1, b.2.2.1, r) :: Y) := by rw [e1, e2, gb.2.2]; show _ = _ + r; omega
  refine ⟨_, Zc_of rfl rfl (V90_0 h0 h3 ⟨_, hh, by omega, fun _ => by omega, fun _ => ⟨by omega, by omega, rfl, rfl, rfl, rfl⟩⟩), zFm_st (zFm_set (by omega) (by omega)) (by omega) (by omega), hp, by simpa using hl, ?_, pl, sz, zsi rm b.1 r, bp, hU, zw_o (by omega) (zw_o (by omega) h1), zw_o (by omega) (zw_o (by omega) h2), zw_s (zw_o (by omega) h3), zw_o (by omega) (zw_o (by omega) h4)⟩
  rw [← e3, len_mid (b.1, b.2.1, b.2.2.1, r) b]
  exact zw_o (show a + 3 ≠ a by omega) (zw_s h0)
theorem zc_indexOf (h : sB w a (X ++ b :: Y)) : Zc sc 85 [zp a, zj b.1] w (some (zj X.length)) w 0 0 := by
  have hz := h
  have key : ∀ (m k : Nat), k + m = X.length → Zr sc 85 2 [zp a, zj b.1, zj k] [] w (some (zj X.length)) w 0 0 := by
    intro m
    induction m with
    | zero =>
      intro k hk
      obtain rfl : k = X.length := by omega
      obtain ⟨hok, hl, h0, pl, sz, rm, bp, hR, h1, h2, h3, h4⟩ := id h; have hln := hR.1; have hm := okB_mid.mp hok; have g := hm.2.2.2; have gb := hR.2.2.1 b (by simp)
      have e := hR.2.1 X.length b mid_eq
      have hlen : ((X ++ b :: Y).length : Int) = X.length + Y.length + 1 := by simp; omega
      refine V85_2 h0 h4 ⟨by omega, fun _ => ⟨by omega, fun _ => by omega, fun _ => ⟨zj_e (by omega), rfl, rfl, rfl⟩⟩, fun _ => ⟨by omega, by omega, fun hq => absurd e hq, fun _ => ⟨rfl, rfl, rfl, rfl⟩⟩⟩
    | succ m ih =>
      intro k hk
      have hkX : k < X.length := by omega
      obtain ⟨x, hx⟩ : ∃ x, X[k]? = some x := ⟨_, List.getElem?_eq_getElem hkX⟩
      have step : Zr sc 85 2 [zp a, zj b.1, zj ((k : Int) + 1)] [] w (some (zj X.length)) w 0 0 := ih (k + 1) (by omega)
      obtain ⟨hok, hl, h0, pl, sz, rm, bp, hR, h1, h2, h3, h4⟩ := id h; have hln := hR.1; have hm := okB_mid.mp hok; have g := hm.2.2.2; have gb := hR.2.2.1 b (by simp)
      have e := hR.2.1 k x (by rw [mid_lt hkX]; exact hx)
      have hne := (hm.2.1 x (List.mem_of_getElem? hx)).1
      have g2 := hok.2 x (by simp [List.mem_of_getElem? hx])
      have hlen : ((X ++ b :: Y).length : Int) = X.length + Y.length + 1 := by simp; omega
      exact V85_2 h0 h4 ⟨by omega, fun _ => by omega, fun _ => ⟨by omega, by omega, fun _ => step, fun hq => by omega⟩⟩
  exact Zc_of rfl rfl (V85_0 (key X.length 0 (by omega)))
theorem zc_remove (h : sB w a (X ++ b :: Y)) : ∃ w', Zc sc 84 [zp a, zj b.1] w none w' 0 0 ∧ zFm w w' a 5 ∧ sB w' a (X ++ Y) := by
  have hh := zc_has_t (sc := sc) h (b := b) (by simp)
  have hi := zc_indexOf (sc := sc) h
  obtain ⟨hok, hl, h0, pl, sz, rm, bp, hR, h1, h2, h3, h4⟩ := id h; have hln := hR.1; have hm := okB_mid.mp hok; have g := hm.2.2.2; have gb := hR.2.2.1 b (by simp)
  have hlen : ((X ++ b :: Y).length : Int) = X.length + Y.length + 1 := by simp; omega
  have key : ∀ (m j : Nat) (w' : List zE) (bp' : List Int), j + m = Y.length → w'[a]? = some (bobj a (X ++ b :: Y).length (sumR (X ++ b :: Y))) → w'[a + 1]? = some (za pl) → w'[a + 2]? = some (za sz) → w'[a + 3]? = some (za rm) → w'[a + 4]? = some (za bp') → bp'.length = 81 → zFm w w' a 5 →
      (∀ (k : Nat) c, k < X.length + j → (X ++ Y)[k]? = some c → zgi bp' k = c.1) → (∀ k : Nat, X.length + j ≤ k → zgi bp' k = zgi bp k) → ∃ w'', Zr sc 84 15 [zp a, zj b.1, zj ((X.length : Int) + j)] [] w' none w'' 0 0 ∧ zFm w w'' a 5 ∧ sB w'' a (X ++ Y) := by
    intro m
    induction m with
    | zero =>
      intro j w' bp' hj k0 k1 k2 k3 k4 kl kf q1 q2
      have hRem := RB_rem (bp' := bp') hok hR kl (fun k c hk => q1 k c (by have := (List.getElem?_eq_some_iff.mp hk).1; rw [List.length_append] at this; omega) hk)
      have e1 := sumR_mid X Y b
      refine ⟨_, V84_15 k0 k3 k4 ⟨by omega, fun _ => ⟨by omega, by omega, rfl, rfl, rfl, rfl⟩, fun _ => by omega⟩, zFm_st (zFm_st (zFm_st kf (by omega) (by omega)) (by omega) (by omega)) (by omega) (by omega), hm.1, by rw [List.length_append] at *; simp at hl; omega, ?_, pl, sz, zsi rm b.1 0, bp', hRem, ?_, ?_, ?_, ?_⟩
      · have := zw_o (X := za (zsi rm b.1 0)) (show a + 3 ≠ a by omega) (zw_s (X := bobj a (((X ++ b :: Y).length : Int) - 1) (sumR (X ++ b :: Y) - zgi rm b.1)) (zw_s (X := bobj a (((X ++ b :: Y).length : Int) - 1) (sumR (X ++ b :: Y))) k0))
        rw [show ((X ++ Y).length : Int) = ((X ++ b :: Y).length : Int) - 1 by simp; omega, show sumR (X ++ Y) = sumR (X ++ b :: Y) - zgi rm b.1 by rw [e1, gb.2.2]; omega]
        exact this
      · exact zw_o (by omega) (zw_o (by omega) (zw_o (by omega) k1))
      · exact zw_o (by omega) (zw_o (by omega) (zw_o (by omega) k2))
      · exact zw_s (zw_o (by omega) (zw_o (by omega) k3))
      · exact zw_o (by omega) (zw_o (by omega) (zw_o (by omega) k4))
    | succ m ih =>
      intro j w' bp' hj k0 k1 k2 k3 k4 kl kf q1 q2
      have hX : (X ++ b :: Y).length ≤ 81 := hl
      have step := ih (j + 1) (w'.set (a + 4) (za (zsi bp' ((X.length : Int) + j) (zgi bp' ((X.length : Int) + j + 1))))) _ (by omega) (zw_o (by omega) k0) (zw_o (by omega) k1) (zw_o (by omega) k2) (zw_o (by omega) k3) (zw_s k4) (by rw [zsi_len]; exact kl) (zFm_st kf (by omega) (by omega)) ?_ ?_
      · obtain ⟨w'', z1, z2, z3⟩ := step
        refine ⟨w'', V84_15 k0 k3 k4 ⟨by omega, fun _ => by omega, fun _ => ⟨by omega, by omega, ?_⟩⟩, z2, z3⟩
        rw [show (X.length : Int) + j + 1 = (X.length : Int) + ((j + 1 : Nat) : Int) by omega]
        rw [show (X.length : Int) + j + 1 = (X.length : Int) + ((j + 1 : Nat) : Int) by omega] at z1
        exact z1
      · intro k c hk hc
        rw [zgi_set (by omega) (by omega) (by omega)]
        by_cases e : (k : Int) = (X.length : Int) + j
        · rw [if_pos e]
          have hk2 : k = X.length + j := by omega
          have := q2 (k + 1) (by omega)
          rw [show (X.length : Int) + j + 1 = ((k + 1 : Nat) : Int) by omega, this]
          refine hR.2.1 (k + 1) c ?_
          rw [mid_gt (by omega)]
          rw [app_ge (by omega)] at hc
          rw [← hc]
          congr 1
          omega
        · rw [if_neg e]
          exact q1 k c (by omega) hc
      · intro k hk
        rw [zgi_set (by omega) (by omega) (by omega), if_neg (by omega)]
        exact q2 k (by omega)
  obtain ⟨w'', z1, z2, z3⟩ := key Y.length 0 w bp (by omega) h0 h1 h2 h3 h4 (by omega) (zFm_refl _ _ _) (fun k c hk hc => by
    rw [List.getElem?_append_left (by omega)] at hc
    exact hR.2.1 k c (by rw [mid_lt (by omega)]; exact hc)) (fun _ _ => rfl)
  refine ⟨w'', Zc_of rfl rfl (V84_0 h0 ⟨_, hh, by omega, fun _ => ⟨_, hi, ?_⟩, fun hq => by omega⟩), z2, z3⟩
  simpa using z1
theorem zc_rename (h : sB w a (X ++ b :: Y)) {n : Int} (hn : 0 ≤ n ∧ n ≤ 80) (hf : ∀ c ∈ X ++ b :: Y, c.1 ≠ n) : ∃ w', Zc sc 93 [zp a, zj b.1, zj n] w none w' 0 0 ∧ zFm w w' a 5 ∧ sB w' a (X ++ (n, b.2) :: Y) := by
  have hh := zc_has_t (sc := sc) h (b := b) (by simp)
  have hh2 := zc_has_f (sc := sc) h (n := n) ⟨by omega, by omega⟩ hf
  have hi := zc_indexOf (sc := sc) h
  obtain ⟨hok, hl, h0, pl, sz, rm, bp, hR, h1, h2, h3, h4⟩ := id h; have hln := hR.1; have hm := okB_mid.mp hok; have g := hm.2.2.2; have gb := hR.2.2.1 b (by simp)
  have hlen : ((X ++ b :: Y).length : Int) = X.length + Y.length + 1 := by simp; omega
  have hne : n ≠ b.1 := fun h9 => hf b (by simp) h9.symm
  have hok1 : okB (X ++ Y) := hm.1
  have hok2 : okB (X ++ (n, b.2) :: Y) := okB_mid.mpr ⟨hm.1, fun x hx => ⟨hf x (by simp [hx]), (hm.2.1 x hx).2⟩, fun y hy => ⟨fun h9 => hf y (by simp [hy]) h9.symm, (hm.2.2.1 y hy).2⟩, by simpa using ⟨hn.1, hn.2, g.2.2⟩⟩
  have e1 := sumR_mid X Y b
  have e2 := sumR_mid X Y (n, b.2)
  have e3 : sumR (X ++ (n, b.2) :: Y) = sumR (X ++ b :: Y) := by rw [e1, e2]
  refine ⟨_, Zc_of rfl rfl (V93_0 h0 h3 h4 h1 h2 ⟨_, hh, by omega, fun _ => by omega, fun _ => ⟨_, hh2, by omega, fun hq => absurd rfl hq, fun _ => ⟨by omega, fun _ => by omega, fun _ => ⟨by omega, fun _ => ⟨_, hi, by omega, by omega, by omega, by omega, by omega, by omega, by omega, by rw [zsi_len]; omega, rfl, rfl, rfl, rfl⟩, fun _ => by omega⟩⟩⟩⟩), ?_, hok2, by simpa using hl, ?_, zsi pl n (zgi pl b.1), zsi sz n (zgi sz b.1), zsi (zsi rm n (zgi rm b.1)) b.1 0, zsi bp X.length n, ?_, ?_, ?_, ?_, ?_⟩
  · exact zFm_st (zFm_st (zFm_st (zFm_st (zFm_set (by omega) (by omega)) (by omega) (by omega)) (by omega) (by omega)) (by omega) (by omega)) (by omega) (by omega)
  · rw [e3, len_mid _ b]
    exact zw_o (show a + 3 ≠ a by omega) (zw_o (show a + 3 ≠ a by omega) (zw_o (show a + 2 ≠ a by omega) (zw_o (show a + 1 ≠ a by omega) (zw_o (show a + 4 ≠ a by omega) h0))))
  · refine ⟨by simp only [zsi_len]; exact hln, fun k c hk => ?_, fun c hcm => ?_, fun k k1 k2 k3 => ?_⟩
    · rw [zgi_set (by omega) (by omega) (by omega)]
      rcases Nat.lt_trichotomy k X.length with hlt | rfl | hgt
      · rw [if_neg (by omega)]
        exact hR.2.1 k c (by rw [mid_lt hlt] at hk ⊢; exact hk)
      · rw [mid_eq] at hk
        cases hk
        rw [if_pos rfl]
      · rw [if_neg (by omega)]
        exact hR.2.1 k c (by rw [mid_gt hgt] at hk ⊢; exact hk)
    · have other : ∀ c : bk_T, c ∈ X ++ b :: Y → c.1 ≠ b.1 → zgi (zsi pl n (zgi pl b.1)) c.1 = c.2.1 ∧ zgi (zsi sz n (zgi sz b.1)) c.1 = c.2.2.1 ∧ zgi (zsi (zsi rm n (zgi rm b.1)) b.1 0) c.1 = c.2.2.2 := by
        intro c hc hcb
        have hcn := hf c hc
        have gc := hok.2 c hc
        rw [zgi_set (by omega) (by omega) (by omega), if_neg hcn, zgi_set (by omega) (by omega) (by omega), if_neg hcn, zgi_set (by omega) (by rw [zsi_len]; omega) (by omega), if_neg hcb, zgi_set (by omega) (by omega) (by omega), if_neg hcn]
        exact hR.2.2.1 c hc
      simp only [List.mem_append, List.mem_cons] at hcm
      rcases hcm with hx | rfl | hy
      · exact other c (by simp [hx]) (hm.2.1 c hx).1
      · show zgi (zsi pl n (zgi pl b.1)) n = b.2.1 ∧ zgi (zsi sz n (zgi sz b.1)) n = b.2.2.1 ∧ zgi (zsi (zsi rm n (zgi rm b.1)) b.1 0) n = b.2.2.2
        rw [zgi_set (by omega) (by omega) (by omega), if_pos rfl, zgi_set (by omega) (by omega) (by omega), if_pos rfl, zgi_set (by omega) (by rw [zsi_len]; omega) (by omega), if_neg hne, zgi_set (by omega) (by omega) (by omega), if_pos rfl]
        exact gb
      · exact other c (by simp [hy]) (fun h9 => (hm.2.2.1 c hy).1 h9.symm)
    · have hkn : k ≠ n := fun h9 => k3 (n, b.2) (by simp) h9.symm
      rw [zgi_set (by omega) (by rw [zsi_len]; omega) (by omega)]
      by_cases hkb : k = b.1
      · rw [if_pos hkb]
      · rw [if_neg hkb, zgi_set (by omega) (by omega) (by omega), if_neg hkn]
        refine hR.2.2.2 k k1 k2 fun c hc => ?_
        simp only [List.mem_append, List.mem_cons] at hc
        rcases hc with hx | rfl | hy
        · exact k3 c (by simp [hx])
        · exact fun h9 => hkb h9.symm
        · exact k3 c (by simp [hy])
  · exact zw_o (by omega) (zw_o (by omega) (zw_o (by omega) (zw_s (zw_o (by omega) h1))))
  · exact zw_o (by omega) (zw_o (by omega) (zw_s (zw_o (by omega) (zw_o (by omega) h2))))
  · exact zw_s (zw_s (zw_o (by omega) (zw_o (by omega) (zw_o (by omega) h3))))
  · exact zw_o (by omega) (zw_o (by omega) (zw_o (by omega) (zw_o (by omega) (zw_s h4))))
theorem zc_put {B : List bk_T} (h : sB w a B) (hB : B.length ≤ 80) (hs : 0 ≤ b.1 ∧ b.1 ≤ 80 ∧ 0 ≤ b.2.1 ∧ 1 ≤ b.2.2.1 ∧ b.2.2.1 ≤ 300 ∧ 1 ≤ b.2.2.2 ∧ b.2.1 + b.2.2.2 ≤ 1024) (hd : ∀ c ∈ B, c.1 ≠ b.1 ∧ (c.2.1 + c.2.2.2 ≤ b.2.1 ∨ b.2.1 + b.2.2.2 ≤ c.2.1)) :
    ∃ w' X Y, B = X ++ Y ∧ Zc sc 68 [zp a, zj b.1, zj b.2.1, zj b.2.2.1, zj b.2.2.2] w none w' 0 0 ∧ zFm w w' a 5 ∧ sB w' a (X ++ b :: Y) := by
  have hh := zc_has_f (sc := sc) h (n := b.1) ⟨by omega, by omega⟩ (fun c hc => (hd c hc).1)
  obtain ⟨hok, hl, h0, pl, sz, rm, bp, hR, h1, h2, h3, h4⟩ := id h
  have hln := hR.1
  have key : ∀ (k : Nat) (w' : List zE) (bp' : List Int), k ≤ B.length → w'[a]? = some (bobj a B.length (sumR B)) → w'[a + 1]? = some (za pl) → w'[a + 2]? = some (za sz) → w'[a + 3]? = some (za rm) → w'[a + 4]? = some (za bp') → bp'.length = 81 → zFm w w' a 5 →
      (∀ (i : Nat) c, i < k → B[i]? = some c → zgi bp' i = c.1) → (∀ (i : Nat) c, k ≤ i → B[i]? = some c → zgi bp' ((i : Int) + 1) = c.1 ∧ b.2.1 < c.2.1) → ∃ w'' X Y, B = X ++ Y ∧ Zr sc 68 40 [zp a, zj b.1, zj b.2.1, zj b.2.2.1, zj b.2.2.2, zj k] [] w' none w'' 0 0 ∧ zFm w w'' a 5 ∧ sB w'' a (X ++ b :: Y) := by
    intro k
    induction k with
    | zero =>
      intro w' bp' hk k0 k1 k2 k3 k4 kl kf q1 q2
      have hok2 : okB ([] ++ b :: B) := okB_mid.mpr ⟨hok, fun x hx => (by cases hx), fun y hy => by
        obtain ⟨i, hi⟩ := List.getElem?_of_mem hy
        have := q2 i y (by omega) hi
        have d := hd y hy
        have g := hok.2 y hy
        exact ⟨fun e => d.1 e.symm, by omega⟩, hs⟩
      have hP := RB_put (bp' := zsi bp' 0 b.1) hok2 hR (by rw [zsi_len]; exact kl) (fun k c hk => by
        rw [zgi_set (by omega) (by omega) (by omega)]
        cases k with
        | zero => cases hk; rw [if_pos (by omega)]
        | succ k =>
          rw [if_neg (by omega)]
          exact (q2 k c (by omega) hk).1)
      have e1 := sumR_mid [] B b
      refine ⟨_, [], B, rfl, V68_40 k0 k4 k1 k2 k3 ⟨by omega, fun _ => ⟨by omega, by omega, by omega, by omega, rfl, rfl, rfl, rfl⟩, fun _ => by omega⟩, ?_, hok2, by simp; omega, ?_, zsi pl b.1 b.2.1, zsi sz b.1 b.2.2.1, zsi rm b.1 b.2.2.2, zsi bp' 0 b.1, hP, ?_, ?_, ?_, ?_⟩
      · exact zFm_st (zFm_st (zFm_st (zFm_st (zFm_st (zFm_st kf (by omega) (by omega)) (by omega) (by omega)) (by omega) (by omega)) (by omega) (by omega)) (by omega) (by omega)) (by omega) (by omega)
      · rw [e1, show ((([] ++ b :: B : List bk_T).length : Nat) : Int) = (B.length : Int) + 1 by simp]
        exact zw_s (zw_o (show a + 3 ≠ a by omega) (zw_o (show a + 2 ≠ a by omega) (zw_o (show a + 1 ≠ a by omega) (zw_s (zw_o (show a + 4 ≠ a by omega) k0)))))
      · exact zw_o (by omega) (zw_o (by omega) (zw_o (by omega) (zw_s (zw_o (by omega) (zw_o (by omega) k1)))))
      · exact zw_o (by omega) (zw_o (by omega) (zw_s (zw_o (by omega) (zw_o (by omega) (zw_o (by omega) k2)))))
      · exact zw_o (by omega) (zw_s (zw_o (by omega) (zw_o (by omega) (zw_o (by omega) (zw_o (by omega) k3)))))
      · exact zw_o (by omega) (zw_o (by omega) (zw_o (by omega) (zw_o (by omega) (zw_o (by omega) (zw_s k4)))))
    | succ k ih =>
      intro w' bp' hk k0 k1 k2 k3 k4 kl kf q1 q2
      have hkB : k < B.length := by omega
      obtain ⟨x, hx⟩ : ∃ x, B[k]? = some x := ⟨_, List.getElem?_eq_getElem hkB⟩
      have hxB : x ∈ B := List.mem_of_getElem? hx
      have gx := hok.2 x hxB
      have cx := hR.2.2.1 x hxB
      have dx := hd x hxB
      have ex := q1 k x (by omega) hx
      have hp := zc_placeOf_r (sc := sc) k0 k1 k3 ⟨hln.1, hln.2.2.1⟩ (n := x.1) ⟨by omega, by omega⟩ ⟨by omega, by omega⟩
      have ez : ((k + 1 : Nat) : Int) - 1 = (k : Int) := by omega
      by_cases hle : x.2.1 ≤ b.2.1
      · -- the place is found
        have hsp : B = B.take (k + 1) ++ B.drop (k + 1) := (List.take_append_drop _ _).symm
        have hln2 : (B.take (k + 1)).length = k + 1 := by rw [List.length_take]; omega
        have hok2 : okB (B.take (k + 1) ++ b :: B.drop (k + 1)) := okB_mid.mpr ⟨by rw [← hsp]; exact hok, fun y hy => by
            obtain ⟨i, hi⟩ := List.getElem?_of_mem hy
            have hi2 : i < k + 1 := by have := (List.getElem?_eq_some_iff.mp hi).1; omega
            rw [List.getElem?_take_of_lt hi2] at hi
            have hyB := List.mem_of_getElem? hi
            have d := hd y hyB
            have g := hok.2 y hyB
            refine ⟨d.1, ?_⟩
            have hyx : y.2.1 ≤ x.2.1 := by
              by_cases e : i = k
              · subst e; rw [hx] at hi; cases hi; omega
              · have := (List.pairwise_iff_getElem.mp hok.1 i k (by omega) hkB (by omega)).2
                rw [(List.getElem?_eq_some_iff.mp hi).2, (List.getElem?_eq_some_iff.mp hx).2] at this
                omega
            omega, fun y hy => by
            obtain ⟨i, hi⟩ := List.getElem?_of_mem hy
            rw [List.getElem?_drop] at hi
            have := q2 (k + 1 + i) y (by omega) hi
            have hyB := List.mem_of_getElem? hi
            have d := hd y hyB
            have g := hok.2 y hyB
            exact ⟨fun e => d.1 e.symm, by omega⟩, hs⟩
        have hP := RB_put (bp' := zsi bp' ((k + 1 : Nat) : Int) b.1) hok2 (by rw [← hsp]; exact hR) (by rw [zsi_len]; exact kl) (fun i c hi => by
          rw [zgi_set (by omega) (by omega) (by omega)]
          rcases Nat.lt_trichotomy i (B.take (k + 1)).length with hlt | e | hgt
          · rw [if_neg (by omega)]
            rw [mid_lt hlt, List.getElem?_take_of_lt (by omega)] at hi
            exact q1 i c (by omega) hi
          · rw [e, mid_eq] at hi
            cases hi
            rw [if_pos (by omega)]
          · rw [if_neg (by omega)]
            rw [mid_gt hgt, List.getElem?_drop] at hi
            have := (q2 _ c (by omega) hi).1
            rw [← this]
            congr 1
            omega)
        have e1 := sumR_mid (B.take (k + 1)) (B.drop (k + 1)) b
        rw [← hsp] at e1
        refine ⟨_, B.take (k + 1), B.drop (k + 1), hsp, V68_40 k0 k4 k1 k2 k3 ⟨by omega, fun _ => by omega, fun _ => ⟨by omega, zgi pl x.1, by rw [ez, ex]; exact hp, by omega, fun _ => ⟨by omega, by omega, by omega, by omega, rfl, rfl, rfl, rfl⟩, fun hq => by omega⟩⟩, ?_, hok2, by rw [List.length_append, List.length_cons, hln2, List.length_drop]; omega, ?_, zsi pl b.1 b.2.1, zsi sz b.1 b.2.2.1, zsi rm b.1 b.2.2.2, zsi bp' ((k + 1 : Nat) : Int) b.1, hP, ?_, ?_, ?_, ?_⟩
        · exact zFm_st (zFm_st (zFm_st (zFm_st (zFm_st (zFm_st kf (by omega) (by omega)) (by omega) (by omega)) (by omega) (by omega)) (by omega) (by omega)) (by omega) (by omega)) (by omega) (by omega)
        · rw [e1, show (((B.take (k + 1) ++ b :: B.drop (k + 1) : List bk_T).length : Nat) : Int) = (B.length : Int) + 1 by rw [List.length_append, List.length_cons, hln2, List.length_drop]; omega]
          exact zw_s (zw_o (show a + 3 ≠ a by omega) (zw_o (show a + 2 ≠ a by omega) (zw_o (show a + 1 ≠ a by omega) (zw_s (zw_o (show a + 4 ≠ a by omega) k0)))))
        · exact zw_o (by omega) (zw_o (by omega) (zw_o (by omega) (zw_s (zw_o (by omega) (zw_o (by omega) k1)))))
        · exact zw_o (by omega) (zw_o (by omega) (zw_s (zw_o (by omega) (zw_o (by omega) (zw_o (by omega) k2)))))
        · exact zw_o (by omega) (zw_s (zw_o (by omega) (zw_o (by omega) (zw_o (by omega) (zw_o (by omega) k3)))))
        · exact zw_o (by omega) (zw_o (by omega) (zw_o (by omega) (zw_o (by omega) (zw_o (by omega) (zw_s k4)))))
      · -- one on
        obtain ⟨w'', X, Y, z0, z1, z2, z3⟩ := ih (w'.set (a + 4) (za (zsi bp' ((k + 1 : Nat) : Int) (zgi bp' (((k + 1 : Nat) : Int) - 1))))) _ (by omega) (zw_o (by omega) k0) (zw_o (by omega) k1) (zw_o (by omega) k2) (zw_o (by omega) k3) (zw_s k4) (by rw [zsi_len]; exact kl) (zFm_st kf (by omega) (by omega))
          (fun i c hi hc => by rw [zgi_set (by omega) (by omega) (by omega), if_neg (by omega)]; exact q1 i c (by omega) hc)
          (fun i c hi hc => by
            rw [zgi_set (by omega) (by omega) (by omega)]
            by_cases e : i = k
            · subst e
              rw [hx] at hc
              cases hc
              rw [if_pos (by omega), ez]
              exact ⟨ex, by omega⟩
            · rw [if_neg (by omega)]
              exact q2 i c (by omega) hc)
        refine ⟨w'', X, Y, z0, V68_40 k0 k4 k1 k2 k3 ⟨by omega, fun _ => by omega, fun _ => ⟨by omega, zgi pl x.1, by rw [ez, ex]; exact hp, by omega, fun _ => by omega, fun hq => ⟨by omega, by omega, ?_⟩⟩⟩, z2, z3⟩
        rw [show ((k + 1 : Nat) : Int) + (-1) = (k : Int) by omega]
        exact z1
  obtain ⟨w'', X, Y, z0, z1, z2, z3⟩ := key B.length w bp (Nat.le_refl _) h0 h1 h2 h3 h4 hln.2.2.2 (zFm_refl _ _ _) (fun i c _ hc => hR.2.1 i c hc) (fun i c hi hc => by have := (List.getElem?_eq_some_iff.mp hc).1; omega)
  exact ⟨w'', X, Y, z0, Zc_of rfl rfl (V68_0 h0 h3 h4 ⟨by omega, fun _ => by omega, fun _ => ⟨by omega, fun _ => by omega, fun _ => ⟨_, hh, by omega, fun hq => absurd rfl hq, fun _ => ⟨by omega, fun _ => z1, fun _ => by omega⟩⟩⟩⟩), z2, z3⟩
end BLC
