/-! ===== Blocks: a list of blocks by their places ===== -/
abbrev bk_T : Type := Int × Int × Int × Int
def okB (B : List bk_T) : Prop := B.Pairwise (fun x y => x.1 ≠ y.1 ∧ x.2.1 + x.2.2.2 ≤ y.2.1) ∧ ∀ b ∈ B, 0 ≤ b.1 ∧ b.1 ≤ 80 ∧ 0 ≤ b.2.1 ∧ 1 ≤ b.2.2.1 ∧ b.2.2.1 ≤ 300 ∧ 1 ≤ b.2.2.2 ∧ b.2.1 + b.2.2.2 ≤ 1024
def sumR (B : List bk_T) : Int := (B.map (fun b => b.2.2.2)).sum
def sumS (B : List bk_T) : Int := (B.map (fun b => b.2.2.1)).sum
def RB (pl sz rm bp : List Int) (B : List bk_T) : Prop := (pl.length = 81 ∧ sz.length = 81 ∧ rm.length = 81 ∧ bp.length = 81) ∧ (∀ (k : Nat) b, B[k]? = some b → zgi bp k = b.1) ∧ (∀ b ∈ B, zgi pl b.1 = b.2.1 ∧ zgi sz b.1 = b.2.2.1 ∧ zgi rm b.1 = b.2.2.2) ∧ (∀ n : Int, 0 ≤ n → n ≤ 80 → (∀ b ∈ B, b.1 ≠ n) → zgi rm n = 0)
def bobj (a : Nat) (ct rt : Int) : zE := zob 0 [zp (a + 1), zp (a + 2), zp (a + 3), zp (a + 4), zj ct, zj rt]
def sB (w : List zE) (a : Nat) (B : List bk_T) : Prop := okB B ∧ B.length ≤ 81 ∧ w[a]? = some (bobj a B.length (sumR B)) ∧ ∃ pl sz rm bp : List Int, RB pl sz rm bp B ∧ w[a + 1]? = some (za pl) ∧ w[a + 2]? = some (za sz) ∧ w[a + 3]? = some (za rm) ∧ w[a + 4]? = some (za bp)
theorem sB_fm {w w' : List zE} {a n b : Nat} {B : List bk_T} (hf : zFm w w' a n) (ho : b + 5 ≤ a ∨ a + n ≤ b) (h : sB w b B) : sB w' b B := by
  obtain ⟨hok, hl, h0, pl, sz, rm, bp, hR, h1, h2, h3, h4⟩ := h
  exact ⟨hok, hl, zFm_get hf h0 (by omega), pl, sz, rm, bp, hR, zFm_get hf h1 (by omega), zFm_get hf h2 (by omega), zFm_get hf h3 (by omega), zFm_get hf h4 (by omega)⟩
theorem sB.ob {w : List zE} {a : Nat} {B : List bk_T} (h : sB w a B) : w[a]? = some (bobj a B.length (sumR B)) := h.2.2.1
theorem okB_nil : okB [] := ⟨List.Pairwise.nil, fun b h => by cases h⟩
theorem okB_mid {X Y : List bk_T} {b : bk_T} : okB (X ++ b :: Y) ↔ okB (X ++ Y) ∧ (∀ x ∈ X, x.1 ≠ b.1 ∧ x.2.1 + x.2.2.2 ≤ b.2.1) ∧ (∀ y ∈ Y, b.1 ≠ y.1 ∧ b.2.1 + b.2.2.2 ≤ y.2.1) ∧ (0 ≤ b.1 ∧ b.1 ≤ 80 ∧ 0 ≤ b.2.1 ∧ 1 ≤ b.2.2.1 ∧ b.2.2.1 ≤ 300 ∧ 1 ≤ b.2.2.2 ∧ b.2.1 + b.2.2.2 ≤ 1024) := by
  unfold okB
  simp only [List.pairwise_append, List.pairwise_cons, List.mem_append, List.mem_cons]
  constructor
  · rintro ⟨⟨h1, ⟨h2, h3⟩, h4⟩, h5⟩
    exact ⟨⟨⟨h1, h3, fun a ha c hc => h4 a ha c (Or.inr hc)⟩, fun c hc => h5 c (by rcases hc with h | h <;> simp [h])⟩, fun x hx => h4 x hx b (Or.inl rfl), fun y hy => h2 y hy, h5 b (Or.inr (Or.inl rfl))⟩
  · rintro ⟨⟨⟨h1, h3, h4⟩, h5⟩, h6, h7, h8⟩
    refine ⟨⟨h1, ⟨h7, h3⟩, fun a ha c hc => ?_⟩, fun c hc => ?_⟩
    · rcases hc with rfl | hc
      · exact h6 a ha
      · exact h4 a ha c hc
    · rcases hc with h | rfl | h
      · exact h5 c (Or.inl h)
      · exact h8
      · exact h5 c (Or.inr h)
theorem sumR_mid (X Y : List bk_T) (b : bk_T) : sumR (X ++ b :: Y) = sumR (X ++ Y) + b.2.2.2 := by
  unfold sumR
  simp only [List.map_append, List.map_cons, List.sum_append, List.sum_cons]
  omega
theorem sumS_mid (X Y : List bk_T) (b : bk_T) : sumS (X ++ b :: Y) = sumS (X ++ Y) + b.2.2.1 := by
  unfold sumS
  simp only [List.map_append, List.map_cons, List.sum_append, List.sum_cons]
  omega
theorem sumR_le {B : List bk_T} (h : okB B) (p : Int) (hp : ∀ b ∈ B, p ≤ b.2.1) : 0 ≤ sumR B ∧ (sumR B = 0 ∨ sumR B ≤ 1024 - p) := by
  induction B generalizing p with
  | nil => exact ⟨by decide, Or.inl rfl⟩
  | cons b t ih =>
    have h' := (okB_mid (X := [])).mp h
    have hb := h'.2.2.2
    have := ih h'.1 (b.2.1 + b.2.2.2) (fun y hy => (h'.2.2.1 y hy).2)
    have e := sumR_mid [] t b
    simp only [List.nil_append] at e
    have := hp b List.mem_cons_self
    omega
theorem sumR_rg {B : List bk_T} (h : okB B) : 0 ≤ sumR B ∧ sumR B ≤ 1024 := by
  have := sumR_le h 0 (fun b hb => (h.2 b hb).2.2.1)
  omega
theorem bcase (B : List bk_T) (n : Int) : (∃ b ∈ B, b.1 = n) ∨ ∀ b ∈ B, b.1 ≠ n := by
  by_cases h : ∃ b ∈ B, b.1 = n
  · exact Or.inl h
  · exact Or.inr fun b hb e => h ⟨b, hb, e⟩
theorem okB_inj {B : List bk_T} (h : okB B) {b b' : bk_T} (hb : b ∈ B) (hb' : b' ∈ B) (e : b.1 = b'.1) : b = b' := by
  obtain ⟨X, Y, rfl⟩ := List.append_of_mem hb
  have h' := okB_mid.mp h
  simp only [List.mem_append, List.mem_cons] at hb'
  rcases hb' with hx | rfl | hy
  · exact absurd e.symm (h'.2.1 b' hx).1
  · rfl
  · exact absurd e (h'.2.2.1 b' hy).1
section BLK
variable {sc : List Value} {w : List zE} {a : Nat} {B : List bk_T}
theorem zc_has_t (h : sB w a B) {b : bk_T} (hb : b ∈ B) : Zc sc 7 [zp a, zj b.1] w (some (zj 1)) w 0 0 := by
  obtain ⟨hok, hl, h0, pl, sz, rm, bp, hR, h1, h2, h3, h4⟩ := id h; have hln := hR.1; have g := hok.2 b hb; have g2 := hR.2.2.1 b hb
  exact Zc_of rfl rfl (V7_0 h0 h3 ⟨by omega, fun _ => by omega, fun _ => ⟨by omega, fun _ => by omega, fun _ => ⟨by omega, by omega, fun _ => by omega, fun _ => ⟨rfl, rfl, rfl, rfl⟩⟩⟩⟩)
theorem zc_has_f (h : sB w a B) {n : Int} (hn : zrg n) (hb : ∀ b ∈ B, b.1 ≠ n) : Zc sc 7 [zp a, zj n] w (some (zj 0)) w 0 0 := by
  obtain ⟨hok, hl, h0, pl, sz, rm, bp, hR, h1, h2, h3, h4⟩ := id h; have hln := hR.1; have hn2 := hR.2.2.2 n
  refine Zc_of rfl rfl (V7_0 h0 h3 ⟨hn, fun _ => ⟨rfl, rfl, rfl, rfl⟩, fun _ => ⟨by omega, fun _ => ⟨rfl, rfl, rfl, rfl⟩, fun _ => ?_⟩⟩)
  have := hn2 (by omega) (by omega) hb
  exact ⟨by omega, by omega, fun _ => ⟨rfl, rfl, rfl, rfl⟩, fun _ => by omega⟩
theorem zc_placeOf_t (h : sB w a B) {b : bk_T} (hb : b ∈ B) : Zc sc 9 [zp a, zj b.1] w (some (zj b.2.1)) w 0 0 := by
  have hh := zc_has_t (sc := sc) h hb
  obtain ⟨hok, hl, h0, pl, sz, rm, bp, hR, h1, h2, h3, h4⟩ := id h; have hln := hR.1; have g := hok.2 b hb; have g2 := hR.2.2.1 b hb
  exact Zc_of rfl rfl (V9_0 h0 h1 ⟨_, hh, by omega, fun _ => by omega, fun _ => ⟨by omega, zj_e (by omega), rfl, rfl, rfl⟩⟩)
theorem zc_placeOf_f (h : sB w a B) {n : Int} (hn : zrg n) (hb : ∀ b ∈ B, b.1 ≠ n) : Zc sc 9 [zp a, zj n] w (some (zj (-1))) w 0 0 := by
  have hh := zc_has_f (sc := sc) h hn hb
  obtain ⟨hok, hl, h0, pl, sz, rm, bp, hR, h1, h2, h3, h4⟩ := id h; have hln := hR.1
  exact Zc_of rfl rfl (V9_0 h0 h1 ⟨_, hh, by omega, fun _ => ⟨rfl, rfl, rfl, rfl⟩, fun _ => by omega⟩)
theorem zc_sizeOf_t (h : sB w a B) {b : bk_T} (hb : b ∈ B) : Zc sc 11 [zp a, zj b.1] w (some (zj b.2.2.1)) w 0 0 := by
  have hh := zc_has_t (sc := sc) h hb
  obtain ⟨hok, hl, h0, pl, sz, rm, bp, hR, h1, h2, h3, h4⟩ := id h; have hln := hR.1; have g := hok.2 b hb; have g2 := hR.2.2.1 b hb
  exact Zc_of rfl rfl (V11_0 h0 h2 ⟨_, hh, by omega, fun _ => by omega, fun _ => ⟨by omega, zj_e (by omega), rfl, rfl, rfl⟩⟩)
theorem zc_sizeOf_f (h : sB w a B) {n : Int} (hn : zrg n) (hb : ∀ b ∈ B, b.1 ≠ n) : Zc sc 11 [zp a, zj n] w (some (zj (-1))) w 0 0 := by
  have hh := zc_has_f (sc := sc) h hn hb
  obtain ⟨hok, hl, h0, pl, sz, rm, bp, hR, h1, h2, h3, h4⟩ := id h; have hln := hR.1
  exact Zc_of rfl rfl (V11_0 h0 h2 ⟨_, hh, by omega, fun _ => ⟨rfl, rfl, rfl, rfl⟩, fun _ => by omega⟩)
theorem zc_roomOf_t (h : sB w a B) {b : bk_T} (hb : b ∈ B) : Zc sc 13 [zp a, zj b.1] w (some (zj b.2.2.2)) w 0 0 := by
  have hh := zc_has_t (sc := sc) h hb
  obtain ⟨hok, hl, h0, pl, sz, rm, bp, hR, h1, h2, h3, h4⟩ := id h; have hln := hR.1; have g := hok.2 b hb; have g2 := hR.2.2.1 b hb
  exact Zc_of rfl rfl (V13_0 h0 h3 ⟨_, hh, by omega, fun _ => by omega, fun _ => ⟨by omega, zj_e (by omega), rfl, rfl, rfl⟩⟩)
theorem zc_roomOf_f (h : sB w a B) {n : Int} (hn : zrg n) (hb : ∀ b ∈ B, b.1 ≠ n) : Zc sc 13 [zp a, zj n] w (some (zj (-1))) w 0 0 := by
  have hh := zc_has_f (sc := sc) h hn hb
  obtain ⟨hok, hl, h0, pl, sz, rm, bp, hR, h1, h2, h3, h4⟩ := id h; have hln := hR.1
  exact Zc_of rfl rfl (V13_0 h0 h3 ⟨_, hh, by omega, fun _ => ⟨rfl, rfl, rfl, rfl⟩, fun _ => by omega⟩)
theorem zc_endOf_t (h : sB w a B) {b : bk_T} (hb : b ∈ B) : Zc sc 16 [zp a, zj b.1] w (some (zj (b.2.1 + b.2.2.2))) w 0 0 := by
  have hh := zc_has_t (sc := sc) h hb
  obtain ⟨hok, hl, h0, pl, sz, rm, bp, hR, h1, h2, h3, h4⟩ := id h; have hln := hR.1; have g := hok.2 b hb; have g2 := hR.2.2.1 b hb
  exact Zc_of rfl rfl (V16_0 h0 h1 h3 ⟨_, hh, by omega, fun _ => by omega, fun _ => ⟨by omega, by omega, zj_e (by omega), rfl, rfl, rfl⟩⟩)
theorem zc_howMany (h : sB w a B) : Zc sc 18 [zp a] w (some (zj B.length)) w 0 0 :=
  Zc_of rfl rfl (V18_0 h.ob ⟨rfl, rfl, rfl, rfl⟩)
theorem zc_allRooms (h : sB w a B) : Zc sc 28 [zp a] w (some (zj (sumR B))) w 0 0 :=
  Zc_of rfl rfl (V28_0 h.ob ⟨rfl, rfl, rfl, rfl⟩)
theorem zc_inOrder (h : sB w a B) {k : Nat} {b : bk_T} (hb : B[k]? = some b) : Zc sc 72 [zp a, zj k] w (some (zj b.1)) w 0 0 := by
  obtain ⟨hok, hl, h0, pl, sz, rm, bp, hR, h1, h2, h3, h4⟩ := id h; have hln := hR.1
  have hk := (List.getElem?_eq_some_iff.mp hb).1
  have e := hR.2.1 k b hb
  exact Zc_of rfl rfl (V72_0 h0 h4 ⟨by omega, fun _ => by omega, fun _ => ⟨by omega, fun _ => by omega, fun _ => ⟨by omega, zj_e e.symm, rfl, rfl, rfl⟩⟩⟩)
theorem zc_allSizes (h : sB w a B) : Zc sc 30 [zp a] w (some (zj (sumS B))) w 0 0 := by
  have key : ∀ (Y X : List bk_T), B = X ++ Y → Zr sc 30 4 [zp a, zj (sumS X), zj X.length] [] w (some (zj (sumS B))) w 0 0 := by
    intro Y
    induction Y with
    | nil =>
      intro X e
      rw [List.append_nil] at e
      subst e
      obtain ⟨hok, hl, h0, pl, sz, rm, bp, hR, h1, h2, h3, h4⟩ := id h; have hln := hR.1
      exact V30_4 h0 h4 ⟨by omega, fun _ => ⟨rfl, rfl, rfl, rfl⟩, fun _ => by omega⟩
    | cons b Y ih =>
      intro X e
      have hb : b ∈ B := by rw [e]; simp
      have hk : B[X.length]? = some b := by rw [e]; simp
      have hs := zc_sizeOf_t (sc := sc) h hb
      obtain ⟨hok, hl, h0, pl, sz, rm, bp, hR, h1, h2, h3, h4⟩ := id h; have hln := hR.1
      have hlt := (List.getElem?_eq_some_iff.mp hk).1
      have e2 := hR.2.1 _ b hk
      refine V30_4 h0 h4 ⟨by omega, fun _ => by omega, fun _ => ⟨by omega, b.2.2.1, ?_, ?_⟩⟩
      · rw [e2]; exact hs
      · have := ih (X ++ [b]) (by rw [e]; simp)
        have e3 : sumS (X ++ [b]) = sumS X + b.2.2.1 := by rw [sumS_mid, List.append_nil]
        rw [e3, List.length_append] at this
        exact this
  exact Zc_of rfl rfl (V30_0 (key B [] rfl))
theorem zc_nameOver (h : sB w a B) {b : bk_T} (hb : b ∈ B) {u : Int} (hu : b.2.1 ≤ u) (hu2 : u < b.2.1 + b.2.2.2) : Zc sc 15 [zp a, zj u] w (some (zj b.1)) w 0 0 := by
  obtain ⟨X, Y, e⟩ := List.append_of_mem hb
  have hz : b ∈ B := hb
  have key : ∀ (m k : Nat), k + m = X.length → ∀ v, Zr sc 15 2 [zp a, zj u, zj k, v] [] w (some (zj b.1)) w 0 0 := by
    intro m
    induction m with
    | zero =>
      intro k hk v
      have hkb : B[k]? = some b := by rw [e]; simp [show k = X.length by omega]
      have p1 := zc_placeOf_t (sc := sc) h hb
      have p2 := zc_endOf_t (sc := sc) h hb
      obtain ⟨hok, hl, h0, pl, sz, rm, bp, hR, h1, h2, h3, h4⟩ := id h; have hln := hR.1; have g := hok.2 b hb; have g2 := hR.2.2.1 b hb
      have hlt := (List.getElem?_eq_some_iff.mp hkb).1
      have e2 := hR.2.1 _ b hkb
      refine V15_2 h0 h4 ⟨by omega, fun _ => by omega, fun _ => ⟨by omega, b.2.1, ?_, by omega, fun _ => by omega, fun _ => ⟨b.2.1 + b.2.2.2, ?_, by omega, fun _ => by omega, fun _ => ⟨zj_e e2.symm, rfl, rfl, rfl⟩⟩⟩⟩
      · rw [e2]; exact p1
      · rw [e2]; exact p2
    | succ m ih =>
      intro k hk v
      have hkX : k < X.length := by omega
      obtain ⟨x, hx⟩ : ∃ x, X[k]? = some x := ⟨_, List.getElem?_eq_getElem hkX⟩
      have hkb : B[k]? = some x := by rw [e, List.getElem?_append_left hkX]; exact hx
      have hxX : x ∈ X := List.mem_of_getElem? hx
      have hxB : x ∈ B := List.mem_of_getElem? hkb
      have p1 := zc_placeOf_t (sc := sc) h hxB
      have p2 := zc_endOf_t (sc := sc) h hxB
      obtain ⟨hok, hl, h0, pl, sz, rm, bp, hR, h1, h2, h3, h4⟩ := id h; have hln := hR.1
      have g := hok.2 x hxB
      have gb := hok.2 b hz
      have hd := ((okB_mid (X := X)).mp (e ▸ hok)).2.1 x hxX
      have hlt := (List.getElem?_eq_some_iff.mp hkb).1
      have e2 := hR.2.1 _ x hkb
      have step : Zr sc 15 2 [zp a, zj u, zj ((k : Int) + 1), zj (zgi bp k)] [] w (some (zj b.1)) w 0 0 := ih (k + 1) (by omega) _
      refine V15_2 h0 h4 ⟨by omega, fun _ => by omega, fun _ => ⟨by omega, x.2.1, ?_, by omega, fun _ => step, fun _ => ⟨x.2.1 + x.2.2.2, ?_, by omega, fun _ => step, fun _ => by omega⟩⟩⟩
      · rw [e2]; exact p1
      · rw [e2]; exact p2
  exact Zc_of rfl rfl (V15_0 (key X.length 0 (by omega) _))
end BLK
