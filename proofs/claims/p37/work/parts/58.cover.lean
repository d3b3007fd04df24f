/-! ===== holes: in order, and all that is free; what is found is found once ===== -/
theorem tl_sorted : ∀ {L : List hl_T} {f t : Int}, tl_P L f t → L.Pairwise fun x y => x.1 + x.2 ≤ y.1 := by
  intro L
  induction L with
  | nil => intro f t h; exact List.Pairwise.nil
  | cons y L ih =>
    intro f t h
    obtain ⟨h1, h2, h3⟩ := h
    exact List.Pairwise.cons (fun z hz => by have := (tl_in h3).2 z hz; omega) (ih h3)
theorem tl_cover : ∀ {L : List hl_T} {f t u : Int}, tl_P L f t → f ≤ u → u < t → ∃ x ∈ L, x.1 ≤ u ∧ u < x.1 + x.2 := by
  intro L
  induction L with
  | nil => intro f t u h h1 h2; have : f = t := h; omega
  | cons y L ih =>
    intro f t u h h1 h2
    obtain ⟨k1, k2, k3⟩ := h
    by_cases c : u < f + y.2
    · exact ⟨y, List.mem_cons_self, by omega, by omega⟩
    · obtain ⟨x, hx, q⟩ := ih k3 (by omega) h2
      exact ⟨x, List.mem_cons_of_mem _ hx, q⟩
theorem holL_ge {c : Nat} (hc : c = 1 ∨ c = 2 ∨ c = 4) {pg : List Int} : ∀ (Y : List bk_T) (f : Int), okB Y → (∀ b ∈ Y, f ≤ b.2.1) → gOK (QF c pg) Y f → (∀ x ∈ holL (partC c pg) Y f, f ≤ x.1) ∧ (holL (partC c pg) Y f).Pairwise fun x y => x.1 + x.2 ≤ y.1 := by
  intro Y
  induction Y with
  | nil =>
    intro f ho hf hg
    exact ⟨fun x hx => ((tl_in (tl_C hc hg)).2 x hx).1, tl_sorted (tl_C hc hg)⟩
  | cons b Y ih =>
    intro f ho hf hg
    have ho' := (okB_mid (X := [])).mp ho
    have gb := ho'.2.2.2
    have hfb := hf b List.mem_cons_self
    obtain ⟨i1, i2⟩ := ih (b.2.1 + b.2.2.2) ho'.1 (fun y hy => (ho'.2.2.1 y hy).2) hg.2
    have t1 := tl_C hc hg.1
    refine ⟨fun x hx => ?_, ?_⟩
    · rcases List.mem_append.mp hx with h | h
      · exact ((tl_in t1).2 x h).1
      · have := i1 x h; omega
    · show List.Pairwise _ (_ ++ _)
      rw [List.pairwise_append]
      exact ⟨tl_sorted t1, i2, fun x hx y hy => by have := (tl_in t1).2 x hx; have := i1 y hy; omega⟩
theorem hol_sorted {c : Nat} (hc : c = 1 ∨ c = 2 ∨ c = 4) {B : List bk_T} (hok : okB B) (hg : gcB c B) : (holF c B).Pairwise fun x y => x.1 + x.2 ≤ y.1 :=
  (holL_ge hc B 0 hok (fun b hb => (hok.2 b hb).2.2.1) (gOK_of hc hok hg)).2
/-- the gap in which a free unit lies, and its hole -/
theorem holL_cover {c : Nat} (hc : c = 1 ∨ c = 2 ∨ c = 4) {pg : List Int} {u : Int} (hu : u < 1024) : ∀ (Y : List bk_T) (f : Int), okB Y → (∀ b ∈ Y, f ≤ b.2.1) → gOK (QF c pg) Y f → f ≤ u → (∀ b ∈ Y, ¬ (b.2.1 ≤ u ∧ u < b.2.1 + b.2.2.2)) →
    ∃ f' t' x, QF c pg f' t' ∧ f ≤ f' ∧ f' ≤ u ∧ u < t' ∧ (∀ b ∈ Y, b.2.1 + b.2.2.2 ≤ f' ∨ t' ≤ b.2.1) ∧ (t' = 1024 ∨ ∃ b ∈ Y, b.2.1 = t') ∧ x ∈ gapL (partC c pg) 128 f' t' ∧ x ∈ holL (partC c pg) Y f ∧ x.1 ≤ u ∧ u < x.1 + x.2 := by
  intro Y
  induction Y with
  | nil =>
    intro f ho hf hg hfu hno
    obtain ⟨x, hx, h1, h2⟩ := tl_cover (tl_C hc hg) hfu hu
    exact ⟨f, 1024, x, hg, Int.le_refl _, hfu, hu, fun b hb => (by cases hb), Or.inl rfl, hx, hx, h1, h2⟩
  | cons b Y ih =>
    intro f ho hf hg hfu hno
    have ho' := (okB_mid (X := [])).mp ho
    have gb := ho'.2.2.2
    by_cases cu : u < b.2.1
    · obtain ⟨x, hx, h1, h2⟩ := tl_cover (tl_C hc hg.1) hfu cu
      exact ⟨f, b.2.1, x, hg.1, Int.le_refl _, hfu, cu, fun y hy => by
        rcases List.mem_cons.mp hy with rfl | hy
        · exact Or.inr (Int.le_refl _)
        · have := (ho'.2.2.1 y hy).2
          exact Or.inr (by omega), Or.inr ⟨b, List.mem_cons_self, rfl⟩, hx, List.mem_append.mpr (Or.inl hx), h1, h2⟩
    · have hb := hno b List.mem_cons_self
      obtain ⟨f', t', x, q1, q2, q3, q4, q5, q6, q7, q8, q9⟩ := ih (b.2.1 + b.2.2.2) ho'.1 (fun y hy => (ho'.2.2.1 y hy).2) hg.2 (by omega) (fun y hy => hno y (List.mem_cons_of_mem _ hy))
      have hfb := hf b List.mem_cons_self
      exact ⟨f', t', x, q1, by omega, q3, q4, fun y hy => by
        rcases List.mem_cons.mp hy with rfl | hy
        · exact Or.inl q2
        · exact q5 y hy, by
        rcases q6 with h | ⟨y, hy, h⟩
        · exact Or.inl h
        · exact Or.inr ⟨y, List.mem_cons_of_mem _ hy, h⟩, q7, List.mem_append.mpr (Or.inr q8), q9⟩
theorem hol_cover {c : Nat} (hc : c = 1 ∨ c = 2 ∨ c = 4) {B : List bk_T} (hok : okB B) (hg : gcB c B) {u : Int} (h0 : 0 ≤ u) (hu : u < 1024) (hno : ∀ b ∈ B, ¬ (b.2.1 ≤ u ∧ u < b.2.1 + b.2.2.2)) :
    ∃ f' t' x, QF c (pgF B) f' t' ∧ 0 ≤ f' ∧ f' ≤ u ∧ u < t' ∧ (∀ b ∈ B, b.2.1 + b.2.2.2 ≤ f' ∨ t' ≤ b.2.1) ∧ (t' = 1024 ∨ ∃ b ∈ B, b.2.1 = t') ∧ x ∈ gapL (partC c (pgF B)) 128 f' t' ∧ x ∈ holF c B ∧ x.1 ≤ u ∧ u < x.1 + x.2 :=
  holL_cover hc hu B 0 hok (fun b hb => (hok.2 b hb).2.2.1) (gOK_of hc hok hg) h0 hno
theorem isF_of_min {P : hl_T → Prop} {H : List hl_T} (hs : H.Pairwise fun x y => x.1 + x.2 ≤ y.1) (ho : ∀ x ∈ H, 1 ≤ x.2) {x : hl_T} (hx : x ∈ H) (hP : P x) (hm : ∀ y ∈ H, P y → x.1 ≤ y.1) : ∃ j : Nat, isF P H j ∧ H[j]? = some x := by
  obtain ⟨X, Y, e⟩ := List.append_of_mem hx
  refine ⟨X.length, Or.inr ⟨X, x, Y, e, rfl, hP, fun y hy hPy => ?_⟩, by rw [e]; exact mid_eq⟩
  rw [e, List.pairwise_append] at hs
  have h1 := hs.2.2 y hy x List.mem_cons_self
  have h2 := hm y (by rw [e]; simp [hy]) hPy
  have h3 := ho y (by rw [e]; simp [hy])
  omega
theorem isF_u {P : hl_T → Prop} {H : List hl_T} {r r' : Int} (h : isF P H r) (h' : isF P H r') : r = r' := by
  rcases h with ⟨h1, h2⟩ | ⟨X, x, Y, h1, h2, h3, h4⟩
  · rcases h' with ⟨k1, k2⟩ | ⟨X', x', Y', k1, k2, k3, k4⟩
    · omega
    · exact absurd k3 (h2 x' (by rw [k1]; simp))
  · rcases h' with ⟨k1, k2⟩ | ⟨X', x', Y', k1, k2, k3, k4⟩
    · exact absurd h3 (k2 x (by rw [h1]; simp))
    · rw [h1] at k1
      rcases List.append_eq_append_iff.mp k1 with ⟨a, e1, e2⟩ | ⟨a, e1, e2⟩
      · cases a with
        | nil => rw [List.append_nil] at e1; rw [h2, k2, e1]
        | cons y a =>
          simp only [List.cons_append, List.cons.injEq] at e2
          exact absurd h3 (k4 x (by rw [e1, e2.1]; simp))
      · cases a with
        | nil => rw [List.append_nil] at e1; rw [h2, k2, e1]
        | cons y a =>
          simp only [List.cons_append, List.cons.injEq] at e2
          exact absurd k3 (h4 x' (by rw [e1, e2.1]; simp))
theorem isT_u {room : Int} {H : List hl_T} {r r' : Int} (h : isT room H r) (h' : isT room H r') : r = r' := by
  rcases h with ⟨h1, h2⟩ | ⟨X, x, Y, h1, h2, h3, h4, h5⟩
  · rcases h' with ⟨k1, k2⟩ | ⟨X', x', Y', k1, k2, k3, k4, k5⟩
    · omega
    · have := h2 x' (by rw [k1]; simp)
      omega
  · rcases h' with ⟨k1, k2⟩ | ⟨X', x', Y', k1, k2, k3, k4, k5⟩
    · have := k2 x (by rw [h1]; simp)
      omega
    · rw [h1] at k1
      rcases List.append_eq_append_iff.mp k1 with ⟨a, e1, e2⟩ | ⟨a, e1, e2⟩
      · cases a with
        | nil => rw [List.append_nil] at e1; rw [h2, k2, e1]
        | cons y a =>
          simp only [List.cons_append, List.cons.injEq] at e2
          have := k4 x (by rw [e1, e2.1]; simp) h3
          have := h5 x' (by rw [e2.2]; simp) k3
          omega
      · cases a with
        | nil => rw [List.append_nil] at e1; rw [h2, k2, e1]
        | cons y a =>
          simp only [List.cons_append, List.cons.injEq] at e2
          have := h4 x' (by rw [e1, e2.1]; simp) k3
          have := k5 x (by rw [e2.2]; simp) h3
          omega
theorem isW_u {room : Int} {H : List hl_T} {r r' : Int} (h : isW room H r) (h' : isW room H r') : r = r' := by
  rcases h with ⟨h1, h2⟩ | ⟨X, x, Y, h1, h2, h3, h4, h5⟩
  · rcases h' with ⟨k1, k2⟩ | ⟨X', x', Y', k1, k2, k3, k4, k5⟩
    · omega
    · have := h2 x' (by rw [k1]; simp)
      omega
  · rcases h' with ⟨k1, k2⟩ | ⟨X', x', Y', k1, k2, k3, k4, k5⟩
    · have := k2 x (by rw [h1]; simp)
      omega
    · rw [h1] at k1
      rcases List.append_eq_append_iff.mp k1 with ⟨a, e1, e2⟩ | ⟨a, e1, e2⟩
      · cases a with
        | nil => rw [List.append_nil] at e1; rw [h2, k2, e1]
        | cons y a =>
          simp only [List.cons_append, List.cons.injEq] at e2
          have := k4 x (by rw [e1, e2.1]; simp) h3
          have := h5 x' (by rw [e2.2]; simp) k3
          omega
      · cases a with
        | nil => rw [List.append_nil] at e1; rw [h2, k2, e1]
        | cons y a =>
          simp only [List.cons_append, List.cons.injEq] at e2
          have := h4 x' (by rw [e1, e2.1]; simp) k3
          have := k5 x (by rw [e2.2]; simp) h3
          omega
theorem isC_u {s : Nat} {room : Int} {H : List hl_T} {r r' : Int} (hs : s < H.length ∨ s = 0) (h : isC s room H r) (h' : isC s room H r') : r = r' := by
  rcases h with ⟨h1, h2⟩ | ⟨i, h1, h2, ⟨x, h3, h4⟩, h5⟩
  · rcases h' with ⟨k1, k2⟩ | ⟨i', k1, k2, ⟨x', k3, k4⟩, k5⟩
    · omega
    · have := h2 x' (List.mem_of_getElem? k3)
      omega
  · rcases h' with ⟨k1, k2⟩ | ⟨i', k1, k2, ⟨x', k3, k4⟩, k5⟩
    · have := k2 x (List.mem_of_getElem? h3)
      omega
    · rcases Nat.lt_trichotomy i i' with g | g | g
      · have := k5 i g x h3; omega
      · rw [h2, k2, g]
      · have := h5 i' g x' k3; omega
theorem selF_u {c : Nat} (hc : c = 1 ∨ c = 2 ∨ c = 4) {wy hn room r r' : Int} {H : List hl_T} (h : selF c wy hn H room r) (h' : selF c wy hn H room r') : r = r' := by
  rcases hc with rfl | rfl | rfl
  · exact isT_u h h'
  · rcases h with ⟨e, h⟩ | ⟨e, s, h1, h⟩ | ⟨e, h⟩ | ⟨e, h⟩ <;> rcases h' with ⟨e', h'⟩ | ⟨e', s', h1', h'⟩ | ⟨e', h'⟩ | ⟨e', h'⟩
    all_goals first | omega | skip
    · exact isC_u (Or.inr rfl) h h'
    · have es := isF_u h1 h1'
      subst es
      have := isF_rg h1
      exact isC_u (by omega) h h'
    · exact isT_u h h'
    · exact isW_u h h'
  · rcases h with ⟨e, r0, h1, h2⟩ | ⟨e, h⟩ <;> rcases h' with ⟨e', r0', h1', h2'⟩ | ⟨e', h'⟩
    · have es := isF_u h1 h1'
      subst es
      rcases h2 with ⟨g, h2⟩ | ⟨g, h2⟩ <;> rcases h2' with ⟨g', h2'⟩ | ⟨g', h2'⟩
      · omega
      · omega
      · omega
      · exact isF_u h2 h2'
    · omega
    · omega
    · exact isF_u h h'
theorem selP_u {c : Nat} (hc : c = 1 ∨ c = 2 ∨ c = 4) {wy hn room p p' : Int} {H : List hl_T} (h : selP c wy hn H room p) (h' : selP c wy hn H room p') : p = p' := by
  obtain ⟨r, h1, h2⟩ := h
  obtain ⟨r', k1, k2⟩ := h'
  have e := selF_u hc h1 k1
  subst e
  rcases h2 with ⟨h2, h3⟩ | ⟨j, x, h2, h3, h4, h5⟩ <;> rcases k2 with ⟨k2, k3⟩ | ⟨j', x', k2, k3, k4, k5⟩
  · omega
  · omega
  · omega
  · have e2 : j = j' := by omega
    subst e2
    rw [h3] at k3
    cases k3
    omega
-- the slabs' holes once more
theorem tl_S2 {pg : List Int} : ∀ (n : Nat) {f t : Int}, gS pg t f → ∀ h ∈ gapL (parS pg) n f t, h.1 % 128 = 0 → 128 ≤ h.2 → h.2 = (t - h.1) / 128 * 128 := by
  intro n
  induction n with
  | zero => intro f t h x hx; cases hx
  | succ n ih =>
    intro f t h x hx c1 c2
    by_cases g : f < t
    · have e : gapL (parS pg) (n + 1) f t = (f, parS pg f t) :: gapL (parS pg) n (f + parS pg f t) t := by
        show (if f < t then _ else _) = _
        rw [if_pos g]
      rw [e] at hx
      obtain ⟨p1, p2, p3, p4⟩ := parS_ok h g
      rcases List.mem_cons.mp hx with rfl | hx
      · rcases p4 with p4 | ⟨q1, q2, q3, q4, q5⟩
        · exact p4.2.2.2.1
        · have := pS_8 q2
          exact absurd ⟨c1, by have c2' : 128 ≤ parS pg f t := c2; omega⟩ q1
      · exact ih p3 x hx c1 c2
    · have e : gapL (parS pg) (n + 1) f t = [] := by
        show (if f < t then _ else _) = _
        rw [if_neg g]
      rw [e] at hx
      cases hx
theorem slab_hole {B : List bk_T} (hok : okB B) (hg : gcB 4 B) {x : hl_T} (hx : x ∈ holF 4 B) : (x.1 % 128 = 0 ∧ 128 ≤ x.2 ∧ x.2 % 128 = 0) ∨ (pS x.2 ∧ x.2 < 128 ∧ x.2 = lastK B (x.1 / 128) ∧ x.1 % x.2 = 0 ∧ (x.1 + x.2 - 1) / 128 = x.1 / 128) := by
  obtain ⟨f, t, q1, q2, q3, q4⟩ := hol_in (by omega) B 0 hok (fun b hb => (hok.2 b hb).2.2.1) (Int.le_refl _) (gOK_of (c := 4) (by omega) hok hg) x hx
  have d := hol_dis (c := 4) (by omega) hok hg hx
  have q1' : gS (pgF B) t f := q1
  obtain ⟨g0, g1, g2, -⟩ := id q1'
  obtain ⟨t0, t1, t2⟩ := (tl_S 128 q1' (by omega)).2.2 x q3
  rcases t2 with h | ⟨a1, a2, a3, a4, a5⟩
  · exact Or.inl h
  · right
    have h8 := pS_8 a1
    have hlt : x.2 < 128 := by
      rcases a1 with e | e | e | e | e <;> rw [e] at a3 t1 ⊢ <;> omega
    rw [pgF_get B (by omega) (by omega)] at a2
    exact ⟨a1, hlt, a2, a3, a4⟩
theorem slab_slot {B : List bk_T} (hok : okB B) (hg : gcB 4 B) {u r : Int} (h0 : 0 ≤ u) (hu : u < 1024) (hno : ∀ b ∈ B, ¬ (b.2.1 ≤ u ∧ u < b.2.1 + b.2.2.2)) (hr : pS r) (hk : lastK B (u / 128) = r) (hm : u % r = 0) : (u, r) ∈ holF 4 B := by
  obtain ⟨f', t', x, q1, q2, q3, q4, q5, q6, q7, q8, q9, q10⟩ := hol_cover (c := 4) (by omega) hok hg h0 hu hno
  have d := hol_dis (c := 4) (by omega) hok hg q8
  have h8 := pS_8 hr
  rcases slab_hole hok hg q8 with ⟨a1, a2, a3⟩ | ⟨a1, a2, a3, a4, a5⟩
  · exfalso
    have := pgF_none (B := B) (p := u / 128) (fun b hb ho => by
      have := d.2.2.2 b hb
      unfold onPg at ho
      omega)
    omega
  · have ep : x.1 / 128 = u / 128 := by omega
    rw [ep, hk] at a3
    have e1 : x.1 = u := by
      rw [a3] at a4 q10
      rcases hr with e | e | e | e | e <;> rw [e] at a4 q10 hm <;> omega
    have : x = (u, r) := by
      obtain ⟨x1, x2⟩ := x
      dsimp only at e1 a3
      rw [e1, a3]
    rw [← this]
    exact q8
/-- a stretch of free pages lies in one hole -/
theorem slab_run {B : List bk_T} (hok : okB B) (hg : gcB 4 B) {p n : Int} (hp : 0 ≤ p) (hn : 1 ≤ n) (hpn : p + n ≤ 8) (hno : ∀ u : Int, 128 * p ≤ u → u < 128 * (p + n) → ∀ b ∈ B, ¬ (b.2.1 ≤ u ∧ u < b.2.1 + b.2.2.2)) : ∃ x ∈ holF 4 B, x.1 % 128 = 0 ∧ 128 ≤ x.2 ∧ x.2 % 128 = 0 ∧ x.1 ≤ 128 * p ∧ 128 * (p + n) ≤ x.1 + x.2 := by
  obtain ⟨f', t', x, q1, q2, q3, q4, q5, q6, q7, q8, q9, q10⟩ := hol_cover (c := 4) (by omega) hok hg (u := 128 * p) (by omega) (by omega) (hno _ (Int.le_refl _) (by omega))
  have d := hol_dis (c := 4) (by omega) hok hg q8
  have hnon : lastK B p = 0 := pgF_none (fun b hb ho => by
    have gb := hok.2 b hb
    unfold onPg at ho
    by_cases c : b.2.1 ≤ 128 * p
    · exact hno (128 * p) (Int.le_refl _) (by omega) b hb ⟨c, ho.2⟩
    · exact hno b.2.1 (by omega) (by omega) b hb ⟨Int.le_refl _, by omega⟩)
  rcases slab_hole hok hg q8 with ⟨a1, a2, a3⟩ | ⟨a1, a2, a3, a4, a5⟩
  · have q1' : gS (pgF B) t' f' := q1
    have e := tl_S2 128 q1' x q7 a1 a2
    have ht : 128 * (p + n) ≤ t' := by
      rcases q6 with h | ⟨b, hb, h⟩
      · omega
      · by_cases c : 128 * (p + n) ≤ t'
        · exact c
        · have gb := hok.2 b hb
          exact absurd ⟨Int.le_refl _, by omega⟩ (hno b.2.1 (by omega) (by omega) b hb)
    exact ⟨x, q8, a1, a2, a3, q9, by omega⟩
  · have h8 := pS_8 a1
    have ep : x.1 / 128 = p := by omega
    rw [ep, hnon] at a3
    omega
