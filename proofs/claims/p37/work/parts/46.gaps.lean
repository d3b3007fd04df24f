/-! ===== gaps and the holes in them, in numbers alone ===== -/
def pS (r : Int) : Prop := r = 8 ∨ r = 16 ∨ r = 32 ∨ r = 64 ∨ r = 128
def pP (r : Int) : Prop := r = 8 ∨ r = 16 ∨ r = 32 ∨ r = 64 ∨ r = 128 ∨ r = 256 ∨ r = 512 ∨ r = 1024
def parF (f t : Int) : Int := t - f
def parB (f t : Int) : Int := if f % 1024 = 0 ∧ 1024 ≤ t - f then 1024 else if f % 512 = 0 ∧ 512 ≤ t - f then 512 else if f % 256 = 0 ∧ 256 ≤ t - f then 256 else if f % 128 = 0 ∧ 128 ≤ t - f then 128 else if f % 64 = 0 ∧ 64 ≤ t - f then 64 else if f % 32 = 0 ∧ 32 ≤ t - f then 32 else if f % 16 = 0 ∧ 16 ≤ t - f then 16 else 8
def clsF (pg : List Int) (p : Int) : Int := if 0 ≤ p ∧ p < 8 then zgi pg p else -1
def parS (pg : List Int) (f t : Int) : Int := if f % 128 = 0 ∧ 128 ≤ t - f then (t - f) / 128 * 128 else max (clsF pg (f / 128)) 8
def partC (c : Nat) (pg : List Int) : Int → Int → Int := match c with
  | 2 => parF
  | 1 => parB
  | _ => parS pg
def gapL (part : Int → Int → Int) : Nat → Int → Int → List hl_T
  | 0, _, _ => []
  | n + 1, f, t => if f < t then (f, part f t) :: gapL part n (f + part f t) t else []
def holL (part : Int → Int → Int) : List bk_T → Int → List hl_T
  | [], f => gapL part 128 f 1024
  | b :: B, f => gapL part 128 f b.2.1 ++ holL part B (b.2.1 + b.2.2.2)
def gS (pg : List Int) (t x : Int) : Prop := 0 ≤ x ∧ x ≤ t ∧ t ≤ 1024 ∧ (x % 128 ≠ 0 → pS (zgi pg (x / 128)) ∧ x % zgi pg (x / 128) = 0 ∧ (t / 128 = x / 128 → t % zgi pg (x / 128) = 0)) ∧ (t % 128 ≠ 0 → pS (zgi pg (t / 128)) ∧ t % zgi pg (t / 128) = 0)
def QF (c : Nat) (pg : List Int) (f t : Int) : Prop := match c with
  | 2 => 0 ≤ f ∧ f ≤ t ∧ t ≤ 1024
  | 1 => 0 ≤ f ∧ f ≤ t ∧ t ≤ 1024 ∧ f % 8 = 0 ∧ t % 8 = 0
  | _ => gS pg t f
def gOK (Q : Int → Int → Prop) : List bk_T → Int → Prop
  | [], f => Q f 1024
  | b :: B, f => Q f b.2.1 ∧ gOK Q B (b.2.1 + b.2.2.2)
theorem parB_ok {f t : Int} (h0 : 0 ≤ f) (h1 : f < t) (hf : f % 8 = 0) (ht : t % 8 = 0) : pP (parB f t) ∧ parB f t ≤ t - f ∧ f % parB f t = 0 := by
  unfold parB pP
  split
  · next h => exact ⟨by omega, h.2, h.1⟩
  split
  · next h => exact ⟨by omega, h.2, h.1⟩
  split
  · next h => exact ⟨by omega, h.2, h.1⟩
  split
  · next h => exact ⟨by omega, h.2, h.1⟩
  split
  · next h => exact ⟨by omega, h.2, h.1⟩
  split
  · next h => exact ⟨by omega, h.2, h.1⟩
  split
  · next h => exact ⟨by omega, h.2, h.1⟩
  · exact ⟨by omega, by omega, hf⟩
theorem pP_8 {r : Int} (h : pP r) : 8 ≤ r ∧ r % 8 = 0 ∧ r ≤ 1024 := by
  unfold pP at h
  omega
theorem pS_8 {r : Int} (h : pS r) : 8 ≤ r ∧ r % 8 = 0 ∧ r ≤ 128 := by
  unfold pS at h
  omega
theorem parS_ok {pg : List Int} {x t : Int} (h : gS pg t x) (hx : x < t) : 8 ≤ parS pg x t ∧ x + parS pg x t ≤ t ∧ gS pg t (x + parS pg x t) ∧ ((x % 128 = 0 ∧ 128 ≤ parS pg x t ∧ parS pg x t % 128 = 0 ∧ parS pg x t = (t - x) / 128 * 128 ∧ 128 ≤ t - x) ∨ (¬ (x % 128 = 0 ∧ 128 ≤ t - x) ∧ pS (parS pg x t) ∧ parS pg x t = zgi pg (x / 128) ∧ x % parS pg x t = 0 ∧ (x + parS pg x t - 1) / 128 = x / 128)) := by
  obtain ⟨h0, h1, h2, h3, h4⟩ := id h
  by_cases c : x % 128 = 0 ∧ 128 ≤ t - x
  · have e : parS pg x t = (t - x) / 128 * 128 := by unfold parS; rw [if_pos c]
    rw [e]
    refine ⟨by omega, by omega, ⟨by omega, by omega, h2, fun g => ?_, h4⟩, Or.inl ⟨c.1, by omega, by omega, rfl, c.2⟩⟩
    exact absurd (show (x + (t - x) / 128 * 128) % 128 = 0 by omega) g
  · have hcl : clsF pg (x / 128) = zgi pg (x / 128) := by unfold clsF; rw [if_pos (by omega)]
    have key : pS (zgi pg (x / 128)) ∧ x % zgi pg (x / 128) = 0 ∧ (t / 128 = x / 128 → t % zgi pg (x / 128) = 0) := by
      by_cases g : x % 128 = 0
      · have e2 : t / 128 = x / 128 := by omega
        have h5 := h4 (by omega)
        rw [e2] at h5
        refine ⟨h5.1, ?_, fun _ => h5.2⟩
        rcases h5.1 with e | e | e | e | e <;> rw [e] <;> omega
      · exact h3 g
    obtain ⟨k1, k2, k3⟩ := key
    have e : parS pg x t = zgi pg (x / 128) := by
      unfold parS
      rw [if_neg c, hcl]
      have := pS_8 k1
      omega
    have hdv : (x + zgi pg (x / 128) - 1) / 128 = x / 128 := by
      rcases k1 with e | e | e | e | e <;> rw [e] at k2 ⊢ <;> omega
    have hle : x + zgi pg (x / 128) ≤ t := by
      by_cases g : t / 128 = x / 128
      · have k4 := k3 g
        rcases k1 with e | e | e | e | e <;> rw [e] at k2 k4 ⊢ <;> omega
      · have := pS_8 k1
        omega
    have h8 := pS_8 k1
    rw [e]
    refine ⟨h8.1, hle, ⟨by omega, hle, h2, fun g => ?_, h4⟩, Or.inr ⟨c, k1, rfl, k2, hdv⟩⟩
    have e3 : (x + zgi pg (x / 128)) / 128 = x / 128 := by omega
    rw [e3]
    refine ⟨k1, ?_, fun q => k3 q⟩
    rcases k1 with e | e | e | e | e <;> rw [e] at k2 ⊢ <;> omega
/-- a list that fills a stretch, one behind the other -/
def tl_P : List hl_T → Int → Int → Prop
  | [], f, t => f = t
  | h :: L, f, t => h.1 = f ∧ 1 ≤ h.2 ∧ tl_P L (f + h.2) t
theorem gapL_F {n : Nat} {f t : Int} : gapL parF (n + 1) f t = if f < t then [(f, t - f)] else [] := by
  show (if f < t then (f, t - f) :: gapL parF n (f + (t - f)) t else []) = _
  split
  · congr 1
    cases n with
    | zero => rfl
    | succ n =>
      show (if f + (t - f) < t then _ else _) = _
      rw [if_neg (by omega)]
  · rfl
theorem tl_B : ∀ (n : Nat) {f t : Int}, 0 ≤ f → f ≤ t → f % 8 = 0 → t % 8 = 0 → t - f ≤ 8 * n → tl_P (gapL parB n f t) f t ∧ (∀ h ∈ gapL parB n f t, pP h.2 ∧ h.1 % h.2 = 0) ∧ 8 * ((gapL parB n f t).length : Int) ≤ t - f := by
  intro n
  induction n with
  | zero =>
    intro f t h0 h1 h2 h3 h4
    exact ⟨show f = t by omega, fun h hh => (by cases hh), by simp [gapL]; omega⟩
  | succ n ih =>
    intro f t h0 h1 h2 h3 h4
    by_cases g : f < t
    · obtain ⟨p1, p2, p3⟩ := parB_ok h0 g h2 h3
      have p4 := pP_8 p1
      obtain ⟨i1, i2, i3⟩ := ih (f := f + parB f t) (t := t) (by omega) (by omega) (by omega) h3 (by omega)
      have e : gapL parB (n + 1) f t = (f, parB f t) :: gapL parB n (f + parB f t) t := by
        show (if f < t then _ else _) = _
        rw [if_pos g]
      rw [e]
      refine ⟨⟨rfl, by show 1 ≤ parB f t; omega, i1⟩, fun h hh => ?_, ?_⟩
      · rcases List.mem_cons.mp hh with rfl | hh
        · exact ⟨p1, p3⟩
        · exact i2 h hh
      · rw [List.length_cons]
        omega
    · have e : gapL parB (n + 1) f t = [] := by
        show (if f < t then _ else _) = _
        rw [if_neg g]
      rw [e]
      exact ⟨show f = t by omega, fun h hh => (by cases hh), by simp; omega⟩
theorem tl_S {pg : List Int} : ∀ (n : Nat) {f t : Int}, gS pg t f → t - f ≤ 8 * n → tl_P (gapL (parS pg) n f t) f t ∧ 8 * ((gapL (parS pg) n f t).length : Int) ≤ t - f ∧
    (∀ h ∈ gapL (parS pg) n f t, f ≤ h.1 ∧ h.1 + h.2 ≤ t ∧ ((h.1 % 128 = 0 ∧ 128 ≤ h.2 ∧ h.2 % 128 = 0) ∨ (pS h.2 ∧ h.2 = zgi pg (h.1 / 128) ∧ h.1 % h.2 = 0 ∧ (h.1 + h.2 - 1) / 128 = h.1 / 128 ∧ ¬ (h.1 % 128 = 0 ∧ 128 ≤ t - h.1)))) := by
  intro n
  induction n with
  | zero =>
    intro f t h h4
    obtain ⟨h0, h1, -⟩ := h
    exact ⟨show f = t by omega, by simp [gapL]; omega, fun h hh => (by cases hh)⟩
  | succ n ih =>
    intro f t h h4
    obtain ⟨h0, h1, -⟩ := id h
    by_cases g : f < t
    · obtain ⟨p1, p2, p3, p4⟩ := parS_ok h g
      obtain ⟨i1, i2, i3⟩ := ih p3 (by omega)
      have e : gapL (parS pg) (n + 1) f t = (f, parS pg f t) :: gapL (parS pg) n (f + parS pg f t) t := by
        show (if f < t then _ else _) = _
        rw [if_pos g]
      rw [e]
      refine ⟨⟨rfl, by show 1 ≤ parS pg f t; omega, i1⟩, ?_, fun h hh => ?_⟩
      · rw [List.length_cons]
        omega
      · rcases List.mem_cons.mp hh with rfl | hh
        · refine ⟨Int.le_refl _, p2, ?_⟩
          rcases p4 with p4 | p4
          · exact Or.inl ⟨p4.1, p4.2.1, p4.2.2.1⟩
          · exact Or.inr ⟨p4.2.1, p4.2.2.1, p4.2.2.2.1, p4.2.2.2.2, p4.1⟩
        · obtain ⟨j1, j2⟩ := i3 h hh
          exact ⟨by omega, j2⟩
    · have e : gapL (parS pg) (n + 1) f t = [] := by
        show (if f < t then _ else _) = _
        rw [if_neg g]
      rw [e]
      exact ⟨show f = t by omega, by simp; omega, fun h hh => (by cases hh)⟩
theorem tl_C {c : Nat} {pg : List Int} (hc : c = 1 ∨ c = 2 ∨ c = 4) {f t : Int} (h : QF c pg f t) : tl_P (gapL (partC c pg) 128 f t) f t := by
  rcases hc with rfl | rfl | rfl
  · obtain ⟨h0, h1, h2, h3, h4⟩ := h
    exact (tl_B 128 h0 h1 h3 h4 (by omega)).1
  · obtain ⟨h0, h1, h2⟩ := h
    show tl_P (gapL parF (127 + 1) f t) f t
    rw [gapL_F]
    split
    · exact ⟨rfl, by show 1 ≤ t - f; omega, by show f + (t - f) = t; omega⟩
    · show f = t
      omega
  · have h' : gS pg t f := h
    obtain ⟨h0, h1, h2, -⟩ := id h'
    exact (tl_S 128 h' (by omega)).1
-- the pages of the slabs
def kindB (b : bk_T) : Int := if b.2.2.2 ≤ 128 then b.2.2.2 else -1
def onPg (b : bk_T) (p : Int) : Prop := b.2.1 < 128 * (p + 1) ∧ 128 * p < b.2.1 + b.2.2.2
def lastK (B : List bk_T) (p : Int) : Int := B.foldl (fun v b => if b.2.1 < 128 * (p + 1) ∧ 128 * p < b.2.1 + b.2.2.2 then kindB b else v) 0
def pgF (B : List bk_T) : List Int := (List.range 8).map fun p => lastK B (p : Nat)
theorem lastK_snoc (X : List bk_T) (b : bk_T) (p : Int) : lastK (X ++ [b]) p = if b.2.1 < 128 * (p + 1) ∧ 128 * p < b.2.1 + b.2.2.2 then kindB b else lastK X p := by
  unfold lastK
  rw [List.foldl_append]
  rfl
theorem pgF_get (B : List bk_T) {p : Int} (h0 : 0 ≤ p) (h1 : p < 8) : zgi (pgF B) p = lastK B p := by
  unfold zgi pgF
  rw [List.getD_eq_getElem?_getD, List.getElem?_map, List.getElem?_range (by omega)]
  show lastK B ((p.toNat : Nat) : Int) = _
  rw [Int.toNat_of_nonneg h0]
theorem pgF_len (B : List bk_T) : (pgF B).length = 8 := by
  unfold pgF
  rw [List.length_map, List.length_range]
theorem pg_ext {a b : List Int} (ha : a.length = 8) (hb : b.length = 8) (h : ∀ p : Int, 0 ≤ p → p < 8 → zgi a p = zgi b p) : a = b := by
  apply List.ext_getElem?
  intro i
  by_cases hi : i < 8
  · have := h i (by omega) (by omega)
    unfold zgi at this
    rw [List.getD_eq_getElem?_getD, List.getD_eq_getElem?_getD, Int.toNat_natCast, List.getElem?_eq_getElem (by omega), List.getElem?_eq_getElem (by omega)] at this
    rw [List.getElem?_eq_getElem (by omega), List.getElem?_eq_getElem (by omega)]
    simpa using this
  · rw [List.getElem?_eq_none (by omega), List.getElem?_eq_none (by omega)]
theorem lastK_in {B : List bk_T} {p : Int} {v : Int} (hv : ∀ b ∈ B, onPg b p → kindB b = v) : lastK B p = v ∧ (∃ b ∈ B, onPg b p) ∨ lastK B p = 0 ∧ ∀ b ∈ B, ¬ onPg b p := by
  have key : ∀ (Y X : List bk_T), B = X ++ Y → (lastK X p = v ∧ (∃ b ∈ X, onPg b p) ∨ lastK X p = 0 ∧ ∀ b ∈ X, ¬ onPg b p) → lastK B p = v ∧ (∃ b ∈ B, onPg b p) ∨ lastK B p = 0 ∧ ∀ b ∈ B, ¬ onPg b p := by
    intro Y
    induction Y with
    | nil => intro X e q; rw [List.append_nil] at e; subst e; exact q
    | cons b Y ih =>
      intro X e q
      refine ih (X ++ [b]) (by rw [e]; simp) ?_
      rw [lastK_snoc]
      by_cases g : onPg b p
      · left
        rw [if_pos (show b.2.1 < 128 * (p + 1) ∧ 128 * p < b.2.1 + b.2.2.2 from g)]
        exact ⟨hv b (by rw [e]; simp) g, b, by simp, g⟩
      · rw [if_neg (show ¬ (b.2.1 < 128 * (p + 1) ∧ 128 * p < b.2.1 + b.2.2.2) from g)]
        rcases q with ⟨q1, x, q2, q3⟩ | ⟨q1, q2⟩
        · exact Or.inl ⟨q1, x, by simp [q2], q3⟩
        · refine Or.inr ⟨q1, fun x hx => ?_⟩
          rcases List.mem_append.mp hx with h | h
          · exact q2 x h
          · rw [List.mem_singleton.mp h]; exact g
  exact key B [] rfl (Or.inr ⟨rfl, fun x hx => by cases hx⟩)
def gcB (c : Nat) (B : List bk_T) : Prop := match c with
  | 2 => True
  | 1 => ∀ b ∈ B, pP b.2.2.2 ∧ b.2.1 % b.2.2.2 = 0
  | _ => (∀ b ∈ B, (pS b.2.2.2 ∧ b.2.1 % b.2.2.2 = 0) ∨ (128 < b.2.2.2 ∧ b.2.2.2 % 128 = 0 ∧ b.2.1 % 128 = 0)) ∧ ∀ b ∈ B, ∀ b' ∈ B, pS b.2.2.2 → b.2.1 / 128 = b'.2.1 / 128 → b'.2.2.2 = b.2.2.2
theorem pS_in {p r : Int} (h : pS r) (h2 : p % r = 0) : (p + r - 1) / 128 = p / 128 := by
  rcases h with rfl | rfl | rfl | rfl | rfl <;> omega
theorem okB_dis {B : List bk_T} (h : okB B) {b b' : bk_T} (hb : b ∈ B) (hb' : b' ∈ B) (e : b ≠ b') : b.2.1 + b.2.2.2 ≤ b'.2.1 ∨ b'.2.1 + b'.2.2.2 ≤ b.2.1 := by
  obtain ⟨X, Y, rfl⟩ := List.append_of_mem hb
  have h' := okB_mid.mp h
  simp only [List.mem_append, List.mem_cons] at hb'
  rcases hb' with hx | rfl | hy
  · exact Or.inr (h'.2.1 b' hx).2
  · exact absurd rfl e
  · exact Or.inl (h'.2.2.1 b' hy).2
/-- what kind a page has, on which a small block lies -/
theorem pgF_small {B : List bk_T} (hok : okB B) (hg : gcB 4 B) {b : bk_T} (hb : b ∈ B) (hs : pS b.2.2.2) {p : Int} (hp : onPg b p) : lastK B p = b.2.2.2 := by
  have g := hok.2 b hb
  have hal : b.2.1 % b.2.2.2 = 0 := by
    rcases hg.1 b hb with h | h
    · exact h.2
    · have := pS_8 hs; omega
  have hin := pS_in hs hal
  have hs8 := pS_8 hs
  have hpp : b.2.1 / 128 = p := by unfold onPg at hp; omega
  rcases lastK_in (B := B) (p := p) (v := b.2.2.2) (fun b' hb' ho => by
    have g' := hok.2 b' hb'
    rcases hg.1 b' hb' with h | h
    · have hin' := pS_in h.1 h.2
      have h8' := pS_8 h.1
      have : b'.2.1 / 128 = p := by unfold onPg at ho; omega
      have e := hg.2 b hb b' hb' hs (by omega)
      unfold kindB
      rw [if_pos (by omega), e]
    · by_cases e : b = b'
      · subst e; omega
      · have := okB_dis hok hb hb' e
        unfold onPg at ho
        omega) with ⟨h, -⟩ | ⟨-, h⟩
  · exact h
  · exact absurd hp (h b hb)
theorem pgF_large {B : List bk_T} (hok : okB B) (hg : gcB 4 B) {b : bk_T} (hb : b ∈ B) (hs : 128 < b.2.2.2) {p : Int} (hp : onPg b p) : lastK B p = -1 := by
  have g := hok.2 b hb
  have hal : b.2.2.2 % 128 = 0 ∧ b.2.1 % 128 = 0 := by
    rcases hg.1 b hb with h | h
    · have := pS_8 h.1; omega
    · exact h.2
  rcases lastK_in (B := B) (p := p) (v := -1) (fun b' hb' ho => by
    have g' := hok.2 b' hb'
    by_cases e : b = b'
    · subst e
      unfold kindB
      rw [if_neg (by omega)]
    · have := okB_dis hok hb hb' e
      unfold onPg at ho hp
      rcases hg.1 b' hb' with h | h
      · have hin' := pS_in h.1 h.2
        omega
      · omega) with ⟨h, -⟩ | ⟨-, h⟩
  · exact h
  · exact absurd hp (h b hb)
theorem pgF_none {B : List bk_T} {p : Int} (h : ∀ b ∈ B, ¬ onPg b p) : lastK B p = 0 := by
  rcases lastK_in (B := B) (p := p) (v := 0) (fun b hb ho => absurd ho (h b hb)) with h | h
  · exact h.1
  · exact h.1
theorem pgF_ok {B : List bk_T} (hok : okB B) : okPg (pgF B) := by
  refine ⟨pgF_len B, fun i => ?_⟩
  by_cases hi : 0 ≤ i ∧ i < 8
  · rw [pgF_get B hi.1 hi.2]
    have key : ∀ (Y : List bk_T), (∀ b ∈ Y, b ∈ B) → ∀ v, (-1 ≤ v ∧ v ≤ 128) → -1 ≤ Y.foldl (fun v b => if b.2.1 < 128 * (i + 1) ∧ 128 * i < b.2.1 + b.2.2.2 then kindB b else v) v ∧ Y.foldl (fun v b => if b.2.1 < 128 * (i + 1) ∧ 128 * i < b.2.1 + b.2.2.2 then kindB b else v) v ≤ 128 := by
      intro Y
      induction Y with
      | nil => intro _ v hv; exact hv
      | cons b Y ih =>
        intro hY v hv
        refine ih (fun x hx => hY x (List.mem_cons_of_mem _ hx)) _ ?_
        have g := hok.2 b (hY b List.mem_cons_self)
        dsimp only
        split
        · unfold kindB; split <;> omega
        · exact hv
    exact key B (fun _ h => h) 0 (by omega)
  · unfold zgi
    by_cases h0 : i < 0
    · have e : i.toNat = (0 : Int).toNat := by omega
      rw [e]
      have := pgF_get B (p := 0) (by omega) (by omega)
      unfold zgi at this
      rw [this]
      have key : ∀ (Y : List bk_T), (∀ b ∈ Y, b ∈ B) → ∀ v, (-1 ≤ v ∧ v ≤ 128) → -1 ≤ Y.foldl (fun v b => if b.2.1 < 128 * ((0 : Int) + 1) ∧ 128 * 0 < b.2.1 + b.2.2.2 then kindB b else v) v ∧ Y.foldl (fun v b => if b.2.1 < 128 * ((0 : Int) + 1) ∧ 128 * 0 < b.2.1 + b.2.2.2 then kindB b else v) v ≤ 128 := by
        intro Y
        induction Y with
        | nil => intro _ v hv; exact hv
        | cons b Y ih =>
          intro hY v hv
          refine ih (fun x hx => hY x (List.mem_cons_of_mem _ hx)) _ ?_
          have g := hok.2 b (hY b List.mem_cons_self)
          dsimp only
          split
          · unfold kindB; split <;> omega
          · exact hv
      exact key B (fun _ h => h) 0 (by omega)
    · rw [List.getD_eq_getElem?_getD, List.getElem?_eq_none (by rw [pgF_len]; omega)]
      decide
/-- between the blocks of a memory the gaps are as they should -/
theorem gOK_of {c : Nat} (hc : c = 1 ∨ c = 2 ∨ c = 4) {B : List bk_T} (hok : okB B) (hg : gcB c B) : gOK (QF c (pgF B)) B 0 := by
  rcases hc with rfl | rfl | rfl
  · have key : ∀ (Y : List bk_T), okB Y → (∀ b ∈ Y, pP b.2.2.2 ∧ b.2.1 % b.2.2.2 = 0) → ∀ f : Int, 0 ≤ f → f ≤ 1024 → f % 8 = 0 → (∀ b ∈ Y, f ≤ b.2.1) → gOK (QF 1 (pgF B)) Y f := by
      intro Y
      induction Y with
      | nil => intro _ _ f h0 h1 h2 _; exact ⟨h0, h1, by omega, h2, by decide⟩
      | cons b Y ih =>
        intro ho hq f h0 h1 h2 h3
        have ho' := (okB_mid (X := [])).mp ho
        have gb := ho'.2.2.2
        obtain ⟨q1, q2⟩ := hq b List.mem_cons_self
        have q3 := pP_8 q1
        have q4 : b.2.1 % 8 = 0 := by rcases q1 with e | e | e | e | e | e | e | e <;> rw [e] at q2 <;> omega
        have := h3 b List.mem_cons_self
        exact ⟨⟨h0, by omega, by omega, h2, q4⟩, ih ho'.1 (fun x hx => hq x (List.mem_cons_of_mem _ hx)) _ (by omega) (by omega) (by omega) (fun y hy => (ho'.2.2.1 y hy).2)⟩
    exact key B hok hg 0 (by omega) (by omega) (by omega) (fun b hb => (hok.2 b hb).2.2.1)
  · have key : ∀ (Y : List bk_T), okB Y → ∀ f : Int, 0 ≤ f → f ≤ 1024 → (∀ b ∈ Y, f ≤ b.2.1) → gOK (QF 2 (pgF B)) Y f := by
      intro Y
      induction Y with
      | nil => intro _ f h0 h1 _; exact ⟨h0, h1, by omega⟩
      | cons b Y ih =>
        intro ho f h0 h1 h3
        have ho' := (okB_mid (X := [])).mp ho
        have gb := ho'.2.2.2
        have := h3 b List.mem_cons_self
        exact ⟨⟨h0, by omega, by omega⟩, ih ho'.1 _ (by omega) (by omega) (fun y hy => (ho'.2.2.1 y hy).2)⟩
    exact key B hok 0 (by omega) (by omega) (fun b hb => (hok.2 b hb).2.2.1)
  · have small : ∀ b ∈ B, pS b.2.2.2 → b.2.1 % b.2.2.2 = 0 ∧ zgi (pgF B) (b.2.1 / 128) = b.2.2.2 := fun b hb hs => by
      have g := hok.2 b hb
      have h8 := pS_8 hs
      refine ⟨?_, ?_⟩
      · rcases hg.1 b hb with h | h
        · exact h.2
        · omega
      · rw [pgF_get B (by omega) (by omega)]
        exact pgF_small hok hg hb hs (by unfold onPg; omega)
    have key : ∀ (Y : List bk_T), okB Y → (∀ b ∈ Y, b ∈ B) → ∀ f : Int, 0 ≤ f → f ≤ 1024 → (∀ b ∈ Y, f ≤ b.2.1) → (f % 128 ≠ 0 → ∃ b ∈ B, pS b.2.2.2 ∧ f = b.2.1 + b.2.2.2 ∧ ∀ y ∈ Y, y ≠ b) → gOK (QF 4 (pgF B)) Y f := by
      intro Y
      have left : ∀ f t : Int, 0 ≤ f → f ≤ t → t ≤ 1024 → (f % 128 ≠ 0 → ∃ b ∈ B, pS b.2.2.2 ∧ f = b.2.1 + b.2.2.2) → (t % 128 ≠ 0 → ∃ b ∈ B, pS b.2.2.2 ∧ t = b.2.1) → gS (pgF B) t f := by
        intro f t h0 h1 h2 h3 h4
        refine ⟨h0, h1, h2, fun g => ?_, fun g => ?_⟩
        · obtain ⟨b, hb, hs, e⟩ := h3 g
          obtain ⟨s1, s2⟩ := small b hb hs
          have hin := pS_in hs s1
          have e2 : f / 128 = b.2.1 / 128 := by omega
          rw [e2, s2]
          have e3 : f % b.2.2.2 = 0 := by rcases hs with q | q | q | q | q <;> rw [q] at s1 e ⊢ <;> omega
          refine ⟨hs, e3, fun q => ?_⟩
          by_cases g2 : t % 128 = 0
          · omega
          · obtain ⟨b', hb', hs', e'⟩ := h4 g2
            obtain ⟨s1', s2'⟩ := small b' hb' hs'
            have := hg.2 b hb b' hb' hs (by omega)
            rw [e', ← this]
            exact s1'
        · obtain ⟨b', hb', hs', e'⟩ := h4 g
          obtain ⟨s1', s2'⟩ := small b' hb' hs'
          rw [e', s2']
          exact ⟨hs', s1'⟩
      induction Y with
      | nil => intro _ _ f h0 h1 _ h4; exact left f 1024 h0 h1 (by omega) (fun g => by obtain ⟨b, hb, hs, e, -⟩ := h4 g; exact ⟨b, hb, hs, e⟩) (fun g => absurd rfl g)
      | cons b Y ih =>
        intro ho hY f h0 h1 h3 h4
        have ho' := (okB_mid (X := [])).mp ho
        have gb := ho'.2.2.2
        have hbB := hY b List.mem_cons_self
        have hb3 := h3 b List.mem_cons_self
        have hcase := hg.1 b hbB
        refine ⟨left f b.2.1 h0 hb3 (by omega) (fun g => by obtain ⟨b, hb, hs, e, -⟩ := h4 g; exact ⟨b, hb, hs, e⟩) (fun g => ⟨b, hbB, by rcases hcase with h | h; exact h.1; exact absurd h.2.2 g, rfl⟩), ih ho'.1 (fun x hx => hY x (List.mem_cons_of_mem _ hx)) _ (by omega) (by omega) (fun y hy => (ho'.2.2.1 y hy).2) (fun g => ⟨b, hbB, by rcases hcase with h | h; exact h.1; omega, rfl, fun y hy e => (ho'.2.2.1 y hy).1 (by rw [e])⟩)⟩
    exact key B hok (fun _ h => h) 0 (by omega) (by omega) (fun b hb => (hok.2 b hb).2.2.1) (fun g => absurd rfl g)
