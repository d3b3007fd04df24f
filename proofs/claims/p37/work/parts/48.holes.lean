/-! ===== holes and blocks, in numbers alone ===== -/
theorem tl_in : ∀ {L : List hl_T} {f t : Int}, tl_P L f t → f ≤ t ∧ ∀ x ∈ L, f ≤ x.1 ∧ 1 ≤ x.2 ∧ x.1 + x.2 ≤ t := by
  intro L
  induction L with
  | nil => intro f t h; exact ⟨by have : f = t := h; omega, fun x hx => by cases hx⟩
  | cons y L ih =>
    intro f t h
    obtain ⟨h1, h2, h3⟩ := h
    obtain ⟨i1, i2⟩ := ih h3
    refine ⟨by omega, fun x hx => ?_⟩
    rcases List.mem_cons.mp hx with rfl | hx
    · omega
    · have := i2 x hx
      omega
theorem hol_in {c : Nat} (hc : c = 1 ∨ c = 2 ∨ c = 4) {pg : List Int} : ∀ (Y : List bk_T) (f : Int), okB Y → (∀ b ∈ Y, f ≤ b.2.1) → 0 ≤ f → gOK (QF c pg) Y f → ∀ x ∈ holL (partC c pg) Y f, ∃ f' t', QF c pg f' t' ∧ f ≤ f' ∧ x ∈ gapL (partC c pg) 128 f' t' ∧ ∀ b ∈ Y, b.2.1 + b.2.2.2 ≤ f' ∨ t' ≤ b.2.1 := by
  intro Y
  induction Y with
  | nil => intro f ho hf h0 hg x hx; exact ⟨f, 1024, hg, Int.le_refl _, hx, fun b hb => by cases hb⟩
  | cons b Y ih =>
    intro f ho hf h0 hg x hx
    have ho' := (okB_mid (X := [])).mp ho
    have gb := ho'.2.2.2
    have hfb := hf b List.mem_cons_self
    rcases List.mem_append.mp hx with h | h
    · refine ⟨f, b.2.1, hg.1, Int.le_refl _, h, fun y hy => ?_⟩
      rcases List.mem_cons.mp hy with rfl | hy
      · exact Or.inr (Int.le_refl _)
      · have := (ho'.2.2.1 y hy).2
        exact Or.inr (by omega)
    · obtain ⟨f', t', q1, q2, q3, q4⟩ := ih (b.2.1 + b.2.2.2) ho'.1 (fun y hy => (ho'.2.2.1 y hy).2) (by omega) hg.2 x h
      refine ⟨f', t', q1, by omega, q3, fun y hy => ?_⟩
      rcases List.mem_cons.mp hy with rfl | hy
      · exact Or.inl q2
      · exact q4 y hy
theorem QF_rg {c : Nat} (hc : c = 1 ∨ c = 2 ∨ c = 4) {pg : List Int} {f t : Int} (h : QF c pg f t) : 0 ≤ f ∧ f ≤ t ∧ t ≤ 1024 := by
  rcases hc with rfl | rfl | rfl
  · exact ⟨h.1, h.2.1, h.2.2.1⟩
  · exact h
  · exact ⟨h.1, h.2.1, h.2.2.1⟩
/-- a hole lies apart from all blocks -/
theorem hol_dis {c : Nat} (hc : c = 1 ∨ c = 2 ∨ c = 4) {B : List bk_T} (hok : okB B) (hg : gcB c B) {x : hl_T} (hx : x ∈ holF c B) : 0 ≤ x.1 ∧ 1 ≤ x.2 ∧ x.1 + x.2 ≤ 1024 ∧ ∀ b ∈ B, b.2.1 + b.2.2.2 ≤ x.1 ∨ x.1 + x.2 ≤ b.2.1 := by
  obtain ⟨f, t, q1, q2, q3, q4⟩ := hol_in hc B 0 hok (fun b hb => (hok.2 b hb).2.2.1) (Int.le_refl _) (gOK_of hc hok hg) x hx
  have r := QF_rg hc q1
  have := (tl_in (tl_C hc q1)).2 x q3
  refine ⟨by omega, by omega, by omega, fun b hb => ?_⟩
  have := q4 b hb
  omega
def rOK (c : Nat) (room : Int) : Prop := match c with
  | 2 => 1 ≤ room ∧ room ≤ 1024
  | 1 => pP room
  | _ => pS room ∨ (128 < room ∧ room % 128 = 0 ∧ room ≤ 1024)
theorem rOK_rg {c : Nat} (hc : c = 1 ∨ c = 2 ∨ c = 4) {room : Int} (h : rOK c room) : 1 ≤ room ∧ room ≤ 1024 := by
  rcases hc with rfl | rfl | rfl
  · have := pP_8 (r := room) h; omega
  · exact h
  · have h' : pS room ∨ (128 < room ∧ room % 128 = 0 ∧ room ≤ 1024) := h
    rcases h' with h | h
    · have := pS_8 h; omega
    · omega
theorem rOK_room {c : Nat} (hc : c = 1 ∨ c = 2 ∨ c = 4) {st hd z : Int} (hs : st = 1 ∨ st = 2 ∨ st = 4 ∨ st = 8) (hh : 0 ≤ hd ∧ hd ≤ 8) (hz : 1 ≤ z ∧ z ≤ 300) : rOK c (roomF c st hd z) := by
  rcases hc with rfl | rfl | rfl
  · show pP (pw2 (z + hd))
    unfold pw2 pP
    omega
  · show 1 ≤ upF (z + hd) st ∧ upF (z + hd) st ≤ 1024
    unfold upF
    rcases hs with rfl | rfl | rfl | rfl <;> omega
  · show pS (if z + hd ≤ 128 then pw2 (z + hd) else upF (z + hd) 128) ∨ _
    split
    · left; unfold pw2 pS; omega
    · right
      show 128 < (if z + hd ≤ 128 then pw2 (z + hd) else upF (z + hd) 128) ∧ (if z + hd ≤ 128 then pw2 (z + hd) else upF (z + hd) 128) % 128 = 0 ∧ (if z + hd ≤ 128 then pw2 (z + hd) else upF (z + hd) 128) ≤ 1024
      rw [if_neg (by omega)]
      unfold upF
      omega
/-- what a search finds -/
def hit (c : Nat) (room : Int) (x : hl_T) : Prop := room ≤ x.2 ∧ (c = 4 → x.2 = room ∨ 128 ≤ x.2)
theorem selF_hit {c : Nat} (hc : c = 1 ∨ c = 2 ∨ c = 4) {wy hn room r : Int} {H : List hl_T} (h : selF c wy hn H room r) : r = -1 ∨ ∃ (j : Nat) (x : hl_T), r = j ∧ H[j]? = some x ∧ hit c room x := by
  have fT : isT room H r → r = -1 ∨ ∃ (j : Nat) (x : hl_T), r = j ∧ H[j]? = some x ∧ room ≤ x.2 := fun h => by
    rcases h with ⟨h, -⟩ | ⟨X, x, Y, h1, h2, h3, -⟩
    · exact Or.inl h
    · exact Or.inr ⟨X.length, x, h2, by rw [h1]; exact mid_eq, h3⟩
  have fW : isW room H r → r = -1 ∨ ∃ (j : Nat) (x : hl_T), r = j ∧ H[j]? = some x ∧ room ≤ x.2 := fun h => by
    rcases h with ⟨h, -⟩ | ⟨X, x, Y, h1, h2, h3, -⟩
    · exact Or.inl h
    · exact Or.inr ⟨X.length, x, h2, by rw [h1]; exact mid_eq, h3⟩
  have fC : ∀ s, isC s room H r → r = -1 ∨ ∃ (j : Nat) (x : hl_T), r = j ∧ H[j]? = some x ∧ room ≤ x.2 := fun s h => by
    rcases h with ⟨h, -⟩ | ⟨i, h1, h2, ⟨x, h3, h4⟩, -⟩
    · exact Or.inl h
    · exact Or.inr ⟨_, x, h2, h3, h4⟩
  have fF : ∀ P : hl_T → Prop, isF P H r → r = -1 ∨ ∃ (j : Nat) (x : hl_T), r = j ∧ H[j]? = some x ∧ P x := fun P h => by
    rcases h with ⟨h, -⟩ | ⟨X, x, Y, h1, h2, h3, -⟩
    · exact Or.inl h
    · exact Or.inr ⟨X.length, x, h2, by rw [h1]; exact mid_eq, h3⟩
  have up : c ≠ 4 → (r = -1 ∨ ∃ (j : Nat) (x : hl_T), r = j ∧ H[j]? = some x ∧ room ≤ x.2) → r = -1 ∨ ∃ (j : Nat) (x : hl_T), r = j ∧ H[j]? = some x ∧ hit c room x := fun hc h => by
    rcases h with h | ⟨j, x, h1, h2, h3⟩
    · exact Or.inl h
    · exact Or.inr ⟨j, x, h1, h2, h3, fun e => absurd e hc⟩
  rcases hc with rfl | rfl | rfl
  · exact up (by decide) (fT h)
  · rcases h with ⟨-, h⟩ | ⟨-, s, -, h⟩ | ⟨-, h⟩ | ⟨-, h⟩
    · exact up (by decide) (fC _ h)
    · exact up (by decide) (fC _ h)
    · exact up (by decide) (fT h)
    · exact up (by decide) (fW h)
  · rcases h with ⟨h0, r0, h1, ⟨h2, rfl⟩ | ⟨h2, h3⟩⟩ | ⟨h0, h1⟩
    · rcases fF _ h1 with h | ⟨j, x, e1, e2, e3⟩
      · exact Or.inl h
      · exact Or.inr ⟨j, x, e1, e2, by omega, fun _ => Or.inl e3⟩
    · rcases fF _ h3 with h | ⟨j, x, e1, e2, e3⟩
      · exact Or.inl h
      · exact Or.inr ⟨j, x, e1, e2, by omega, fun _ => Or.inr e3⟩
    · rcases fF _ h1 with h | ⟨j, x, e1, e2, e3⟩
      · exact Or.inl h
      · exact Or.inr ⟨j, x, e1, e2, e3, fun _ => Or.inr (by omega)⟩
/-- the place that a search finds, -1 without any -/
def selP (c : Nat) (wy hn : Int) (H : List hl_T) (room p : Int) : Prop := ∃ r, selF c wy hn H room r ∧ ((r = -1 ∧ p = -1) ∨ ∃ (j : Nat) (x : hl_T), r = j ∧ H[j]? = some x ∧ hit c room x ∧ p = x.1)
theorem gc_sub {c : Nat} {B B' : List bk_T} (h : gcB c B) (hs : ∀ b ∈ B', b ∈ B) : gcB c B' := by
  unfold gcB at h ⊢
  split at h
  · trivial
  · exact fun b hb => h b (hs b hb)
  · exact ⟨fun b hb => h.1 b (hs b hb), fun b hb b' hb' => h.2 b (hs b hb) b' (hs b' hb')⟩
/-- a block at a hole that was found keeps the order of the memory -/
theorem gc_put {c : Nat} (hc : c = 1 ∨ c = 2 ∨ c = 4) {X Y : List bk_T} (hok : okB (X ++ Y)) (hg : gcB c (X ++ Y)) {x : hl_T} (hx : x ∈ holF c (X ++ Y)) {room : Int} (hr : rOK c room) (hh : hit c room x) {n z : Int} : gcB c (X ++ (n, x.1, z, room) :: Y) := by
  obtain ⟨d0, d1, d2, d3⟩ := hol_dis hc hok hg hx
  obtain ⟨f, t, q1, q2, q3, q4⟩ := hol_in hc (X ++ Y) 0 hok (fun b hb => (hok.2 b hb).2.2.1) (Int.le_refl _) (gOK_of hc hok hg) x hx
  have hmem : ∀ {P : bk_T → Prop}, (∀ b ∈ X ++ Y, P b) → P (n, x.1, z, room) → ∀ b ∈ X ++ (n, x.1, z, room) :: Y, P b := fun h1 h2 b hb => by
    simp only [List.mem_append, List.mem_cons] at hb
    rcases hb with h | rfl | h
    · exact h1 b (by simp [h])
    · exact h2
    · exact h1 b (by simp [h])
  rcases hc with rfl | rfl | rfl
  · refine hmem hg ⟨hr, ?_⟩
    obtain ⟨g0, g1, g2, g3, g4⟩ := q1
    have t1 := (tl_B 128 g0 g1 g3 g4 (by omega)).2.1 x q3
    obtain ⟨t2, t3⟩ := t1
    have hr' : pP room := hr
    have hle := hh.1
    show x.1 % room = 0
    rcases t2 with e | e | e | e | e | e | e | e <;> rw [e] at t3 hle <;> rcases hr' with e2 | e2 | e2 | e2 | e2 | e2 | e2 | e2 <;> rw [e2] at hle ⊢ <;> omega
  · trivial
  · have q1' : gS (pgF (X ++ Y)) t f := q1
    obtain ⟨g0, g1, g2, -⟩ := id q1'
    obtain ⟨t0, t1, t2⟩ := (tl_S 128 q1' (by omega)).2.2 x q3
    have hr' : pS room ∨ (128 < room ∧ room % 128 = 0 ∧ room ≤ 1024) := hr
    have hle := hh.1
    have hcase := hh.2 rfl
    rcases t2 with ⟨a1, a2, a3⟩ | ⟨a1, a2, a3, a4, a5⟩
    · -- free pages
      have nopg : ∀ b ∈ X ++ Y, b.2.1 / 128 ≠ x.1 / 128 := fun b hb e => by
        have := d3 b hb
        have gb := hok.2 b hb
        rcases hg.1 b hb with h | h
        · have := pS_in h.1 h.2; omega
        · omega
      refine ⟨hmem hg.1 ?_, hmem (fun b hb => hmem (fun b' hb' => hg.2 b hb b' hb') (fun hs e => absurd e (nopg b hb))) (hmem (fun b' hb' hs e => absurd e.symm (nopg b' hb')) (fun _ _ => rfl))⟩
      rcases hr' with h | h
      · left
        refine ⟨h, ?_⟩
        show x.1 % room = 0
        rcases h with e | e | e | e | e <;> rw [e] <;> omega
      · right
        exact ⟨h.1, h.2.1, a1⟩
    · have h8 := pS_8 a1
      have hlt : x.2 < 128 := by
        rcases a1 with e | e | e | e | e <;> rw [e] at a3 t1 ⊢ <;> omega
      have er : x.2 = room := by omega
      have hpg : zgi (pgF (X ++ Y)) (x.1 / 128) = lastK (X ++ Y) (x.1 / 128) := pgF_get _ (by omega) (by omega)
      have same : ∀ b ∈ X ++ Y, b.2.1 / 128 = x.1 / 128 → b.2.2.2 = room := fun b hb e => by
        have := d3 b hb
        have gb := hok.2 b hb
        rcases hg.1 b hb with h | h
        · have hin := pS_in h.1 h.2
          have := pgF_small hok hg hb h.1 (p := x.1 / 128) (by unfold onPg; omega)
          omega
        · omega
      refine ⟨hmem hg.1 (Or.inl ⟨er ▸ a1, by show x.1 % room = 0; rw [← er]; exact a3⟩), hmem (fun b hb => hmem (fun b' hb' => hg.2 b hb b' hb') (fun hs e => (same b hb e).symm)) (hmem (fun b' hb' hs e => same b' hb' e.symm) (fun _ _ => rfl))⟩
-- fits: the hole right behind a block
def holG (part : Int → Int → Int) : List bk_T → Int → Int → List hl_T
  | [], f, t => gapL part 128 f t
  | b :: B, f, t => gapL part 128 f b.2.1 ++ holG part B (b.2.1 + b.2.2.2) t
theorem holL_G (part : Int → Int → Int) : ∀ (B : List bk_T) (f : Int), holL part B f = holG part B f 1024 := by
  intro B
  induction B with
  | nil => intro f; rfl
  | cons b B ih => intro f; show _ ++ _ = _ ++ _; rw [ih]
theorem holG_mid (part : Int → Int → Int) : ∀ (X : List bk_T) (b : bk_T) (Y : List bk_T) (f t : Int), holG part (X ++ b :: Y) f t = holG part X f b.2.1 ++ holG part Y (b.2.1 + b.2.2.2) t := by
  intro X
  induction X with
  | nil => intro b Y f t; rfl
  | cons x X ih => intro b Y f t; show gapL part 128 f x.2.1 ++ holG part (X ++ b :: Y) (x.2.1 + x.2.2.2) t = (gapL part 128 f x.2.1 ++ holG part X (x.2.1 + x.2.2.2) b.2.1) ++ _; rw [ih, List.append_assoc]
theorem holG_le : ∀ (X : List bk_T) (f t : Int), okB X → (∀ x ∈ X, f ≤ x.2.1 ∧ x.2.1 + x.2.2.2 ≤ t) → f ≤ t → ∀ h ∈ holG parF X f t, f ≤ h.1 ∧ 1 ≤ h.2 ∧ h.1 + h.2 ≤ t := by
  intro X
  induction X with
  | nil =>
    intro f t ho hq hft h hh
    have e : holG parF [] f t = if f < t then [(f, t - f)] else [] := gapL_F
    rw [e] at hh
    split at hh
    · rw [List.mem_singleton.mp hh]
      dsimp only
      omega
    · cases hh
  | cons b X ih =>
    intro f t ho hq hft h hh
    have ho' := (okB_mid (X := [])).mp ho
    have gb := ho'.2.2.2
    have q := hq b List.mem_cons_self
    rcases List.mem_append.mp hh with hh | hh
    · have e : gapL parF 128 f b.2.1 = if f < b.2.1 then [(f, b.2.1 - f)] else [] := gapL_F
      rw [e] at hh
      split at hh
      · rw [List.mem_singleton.mp hh]
        dsimp only
        omega
      · cases hh
    · have := ih (b.2.1 + b.2.2.2) t ho'.1 (fun x hx => ⟨(ho'.2.2.1 x hx).2, (hq x (List.mem_cons_of_mem _ hx)).2⟩) (by omega) h hh
      omega
theorem isF_app {P : hl_T → Prop} {L M : List hl_T} {r : Int} (h : isF P (L ++ M) r) (hL : ∀ x ∈ L, ¬ P x) : (r = -1 ∧ ∀ x ∈ M, ¬ P x) ∨ ∃ U x V, M = U ++ x :: V ∧ r = (L.length : Int) + U.length ∧ P x ∧ ∀ u ∈ U, ¬ P u := by
  rcases h with ⟨h1, h2⟩ | ⟨X, x, Y, h1, h2, h3, h4⟩
  · exact Or.inl ⟨h1, fun x hx => h2 x (by simp [hx])⟩
  · right
    rcases List.append_eq_append_iff.mp h1 with ⟨a, e1, e2⟩ | ⟨a, e1, e2⟩
    · exact ⟨a, x, Y, e2, by rw [h2, e1, List.length_append]; omega, h3, fun u hu => h4 u (by rw [e1]; simp [hu])⟩
    · cases a with
      | nil =>
        simp only [List.nil_append, List.append_nil] at e1 e2
        exact ⟨[], x, Y, e2.symm, by rw [h2, e1]; simp, h3, fun u hu => by cases hu⟩
      | cons y a =>
        simp only [List.cons_append, List.cons.injEq] at e2
        exact absurd h3 (hL x (by rw [e1, e2.1]; simp))
/-- the first hole that reaches behind a block's end, of fits -/
theorem fits_behind {X Y : List bk_T} {b : bk_T} (hok : okB (X ++ b :: Y)) {r : Int} (h : isF (fun x => b.2.1 + b.2.2.2 < x.1 + x.2) (holF 2 (X ++ b :: Y)) r) :
    (∃ (j : Nat) (x : hl_T), r = j ∧ (holF 2 (X ++ b :: Y))[j]? = some x ∧ x.1 = b.2.1 + b.2.2.2 ∧ (∀ y ∈ Y, x.1 + x.2 ≤ y.2.1) ∧ ((∃ y ∈ Y, y.2.1 = x.1 + x.2) ∨ x.1 + x.2 = 1024)) ∨
    ((r = -1 ∨ ∃ (j : Nat) (x : hl_T), r = j ∧ (holF 2 (X ++ b :: Y))[j]? = some x ∧ x.1 ≠ b.2.1 + b.2.2.2) ∧ ((∃ y ∈ Y, y.2.1 = b.2.1 + b.2.2.2) ∨ b.2.1 + b.2.2.2 = 1024)) := by
  have h' := okB_mid.mp hok
  have gb := h'.2.2.2
  have eH : holF 2 (X ++ b :: Y) = holG parF X 0 b.2.1 ++ holG parF Y (b.2.1 + b.2.2.2) 1024 := by
    show holL parF (X ++ b :: Y) 0 = _
    rw [holL_G, holG_mid]
  have hokX : okB X := ⟨(List.pairwise_append.mp h'.1.1).1, fun x hx => h'.1.2 x (by simp [hx])⟩
  have hokY : okB Y := ⟨(List.pairwise_append.mp h'.1.1).2.1, fun x hx => h'.1.2 x (by simp [hx])⟩
  have hL : ∀ x ∈ holG parF X 0 b.2.1, ¬ (b.2.1 + b.2.2.2 < x.1 + x.2) := fun x hx => by
    have := holG_le X 0 b.2.1 hokX (fun y hy => ⟨(hokX.2 y hy).2.2.1, (h'.2.1 y hy).2⟩) (by omega) x hx
    omega
  rw [eH] at h ⊢
  have h2 := isF_app h hL
  generalize hLL : holG parF X 0 b.2.1 = LL at *
  have idx : ∀ (M U V : List hl_T) (x : hl_T), M = U ++ x :: V → r = (LL.length : Int) + U.length → r = ((LL.length + U.length : Nat) : Int) ∧ (LL ++ M)[LL.length + U.length]? = some x := fun M U V x e1 e2 => by
    refine ⟨by omega, ?_⟩
    rw [app_ge (by omega), show LL.length + U.length - LL.length = U.length by omega, e1]
    exact mid_eq
  cases Y with
  | nil =>
    have e : holG parF [] (b.2.1 + b.2.2.2) 1024 = if b.2.1 + b.2.2.2 < 1024 then [(b.2.1 + b.2.2.2, 1024 - (b.2.1 + b.2.2.2))] else [] := gapL_F
    by_cases g : b.2.1 + b.2.2.2 < 1024
    · rw [if_pos g] at e
      rw [e] at h2 ⊢
      rcases h2 with ⟨-, q⟩ | ⟨U, x, V, q1, q2, q3, q4⟩
      · exact absurd (show b.2.1 + b.2.2.2 < b.2.1 + b.2.2.2 + (1024 - (b.2.1 + b.2.2.2)) by omega) (q _ (List.mem_singleton.mpr rfl))
      · left
        obtain ⟨i1, i2⟩ := idx _ U V x q1 q2
        have hx : x ∈ [(b.2.1 + b.2.2.2, 1024 - (b.2.1 + b.2.2.2))] := by rw [q1]; simp
        have hx := List.mem_singleton.mp hx
        refine ⟨_, x, i1, i2, by rw [hx], fun y hy => (by cases hy), Or.inr ?_⟩
        rw [hx]
        dsimp only
        omega
    · rw [if_neg g] at e
      rw [e] at h2 ⊢
      right
      rcases h2 with ⟨q, -⟩ | ⟨U, x, V, q1, q2, q3, q4⟩
      · exact ⟨Or.inl q, Or.inr (by omega)⟩
      · simp at q1
  | cons y Y =>
    have hy := (h'.2.2.1 y List.mem_cons_self).2
    have hoy := (okB_mid (X := [])).mp hokY
    have gy := hoy.2.2.2
    have e : holG parF (y :: Y) (b.2.1 + b.2.2.2) 1024 = (if b.2.1 + b.2.2.2 < y.2.1 then [(b.2.1 + b.2.2.2, y.2.1 - (b.2.1 + b.2.2.2))] else []) ++ holG parF Y (y.2.1 + y.2.2.2) 1024 := by
      show gapL parF (127 + 1) _ _ ++ _ = _
      rw [gapL_F]
    by_cases g : b.2.1 + b.2.2.2 < y.2.1
    · rw [if_pos g] at e
      rw [e] at h2 ⊢
      rcases h2 with ⟨-, q⟩ | ⟨U, x, V, q1, q2, q3, q4⟩
      · exact absurd (show b.2.1 + b.2.2.2 < b.2.1 + b.2.2.2 + (y.2.1 - (b.2.1 + b.2.2.2)) by omega) (q (b.2.1 + b.2.2.2, y.2.1 - (b.2.1 + b.2.2.2)) (List.mem_append.mpr (Or.inl (List.mem_singleton.mpr rfl))))
      · left
        obtain ⟨i1, i2⟩ := idx _ U V x q1 q2
        have hx : x = (b.2.1 + b.2.2.2, y.2.1 - (b.2.1 + b.2.2.2)) := by
          cases U with
          | nil => simp only [List.singleton_append, List.nil_append, List.cons.injEq] at q1; exact q1.1.symm
          | cons u U =>
            simp only [List.singleton_append, List.cons_append, List.cons.injEq] at q1
            exact absurd (show b.2.1 + b.2.2.2 < u.1 + u.2 by rw [← q1.1]; dsimp only; omega) (q4 u List.mem_cons_self)
        refine ⟨_, x, i1, i2, by rw [hx], fun z hz => ?_, Or.inl ⟨y, List.mem_cons_self, by rw [hx]; dsimp only; omega⟩⟩
        rw [hx]
        dsimp only
        rcases List.mem_cons.mp hz with rfl | hz
        · omega
        · have := (hoy.2.2.1 z hz).2
          omega
    · rw [if_neg g, List.nil_append] at e
      rw [e] at h2 ⊢
      right
      refine ⟨?_, Or.inl ⟨y, List.mem_cons_self, by omega⟩⟩
      rcases h2 with ⟨q, -⟩ | ⟨U, x, V, q1, q2, q3, q4⟩
      · exact Or.inl q
      · right
        obtain ⟨i1, i2⟩ := idx _ U V x q1 q2
        have := holG_le Y (y.2.1 + y.2.2.2) 1024 hoy.1 (fun z hz => ⟨(hoy.2.2.1 z hz).2, (hokY.2 z (List.mem_cons_of_mem _ hz)).2.2.2.2.2.2⟩) (by omega) x (by rw [q1]; simp)
        exact ⟨_, x, i1, i2, by omega⟩
