/-! ===== Holes ===== -/
abbrev hl_T : Type := Int × Int
def hobj (a : Nat) (ct : Int) : zE := zob 3 [zp (a + 1), zp (a + 2), zj ct]
def okH (H : List hl_T) : Prop := ∀ h ∈ H, 0 ≤ h.1 ∧ 1 ≤ h.2 ∧ h.1 + h.2 ≤ 1024
def RH (op oz : List Int) (H : List hl_T) : Prop := (op.length = 128 ∧ oz.length = 128) ∧ ∀ (k : Nat) h, H[k]? = some h → zgi op k = h.1 ∧ zgi oz k = h.2
def sH (w : List zE) (a : Nat) (H : List hl_T) : Prop := okH H ∧ H.length ≤ 128 ∧ w[a]? = some (hobj a H.length) ∧ ∃ op oz : List Int, RH op oz H ∧ w[a + 1]? = some (za op) ∧ w[a + 2]? = some (za oz)
theorem sH_fm {w w' : List zE} {a n b : Nat} {H : List hl_T} (hf : zFm w w' a n) (ho : b + 3 ≤ a ∨ a + n ≤ b) (h : sH w b H) : sH w' b H := by
  obtain ⟨hok, hl, h0, op, oz, hR, h1, h2⟩ := h
  exact ⟨hok, hl, zFm_get hf h0 (by omega), op, oz, hR, zFm_get hf h1 (by omega), zFm_get hf h2 (by omega)⟩
theorem sH.ob {w : List zE} {a : Nat} {H : List hl_T} (h : sH w a H) : w[a]? = some (hobj a H.length) := h.2.2.1
def isF (P : hl_T → Prop) (H : List hl_T) (r : Int) : Prop := (r = -1 ∧ ∀ h ∈ H, ¬ P h) ∨ ∃ X h Y, H = X ++ h :: Y ∧ r = X.length ∧ P h ∧ ∀ x ∈ X, ¬ P x
def isT (room : Int) (H : List hl_T) (r : Int) : Prop := (r = -1 ∧ ∀ h ∈ H, h.2 < room) ∨ ∃ X h Y, H = X ++ h :: Y ∧ r = X.length ∧ room ≤ h.2 ∧ (∀ x ∈ X, room ≤ x.2 → h.2 < x.2) ∧ (∀ y ∈ Y, room ≤ y.2 → h.2 ≤ y.2)
def isW (room : Int) (H : List hl_T) (r : Int) : Prop := (r = -1 ∧ ∀ h ∈ H, h.2 < room) ∨ ∃ X h Y, H = X ++ h :: Y ∧ r = X.length ∧ room ≤ h.2 ∧ (∀ x ∈ X, room ≤ x.2 → x.2 < h.2) ∧ (∀ y ∈ Y, room ≤ y.2 → y.2 ≤ h.2)
def maxH (H : List hl_T) : Int := H.foldl (fun m h => max m h.2) 0
theorem maxH_snoc (X : List hl_T) (h : hl_T) : maxH (X ++ [h]) = max (maxH X) h.2 := by
  unfold maxH
  rw [List.foldl_append]
  rfl
theorem maxH_app (X Y : List hl_T) : maxH (X ++ Y) = Y.foldl (fun m h => max m h.2) (maxH X) := by
  unfold maxH
  rw [List.foldl_append]
theorem maxH_ge (Y : List hl_T) (m : Int) : m ≤ Y.foldl (fun m h => max m h.2) m ∧ (∀ h ∈ Y, h.2 ≤ Y.foldl (fun m h => max m h.2) m) ∧ (Y.foldl (fun m h => max m h.2) m = m ∨ ∃ h ∈ Y, Y.foldl (fun m h => max m h.2) m = h.2) := by
  induction Y generalizing m with
  | nil => exact ⟨Int.le_refl _, fun h hh => (by cases hh), Or.inl rfl⟩
  | cons y Y ih =>
    obtain ⟨h1, h2, h3⟩ := ih (max m y.2)
    refine ⟨?_, fun h hh => ?_, ?_⟩
    · exact Int.le_trans (by omega) h1
    · show h.2 ≤ Y.foldl _ _
      rcases List.mem_cons.mp hh with rfl | hh
      · exact Int.le_trans (by omega) h1
      · exact h2 h hh
    · show Y.foldl _ _ = m ∨ ∃ h ∈ y :: Y, Y.foldl _ _ = h.2
      rcases h3 with h3 | ⟨h, h4, h5⟩
      · rw [h3]
        by_cases e : m ≤ y.2
        · exact Or.inr ⟨y, List.mem_cons_self, by omega⟩
        · exact Or.inl (by omega)
      · exact Or.inr ⟨h, List.mem_cons_of_mem _ h4, h5⟩
theorem maxH_le {H : List hl_T} {h : hl_T} (hh : h ∈ H) : h.2 ≤ maxH H := (maxH_ge H 0).2.1 h hh
theorem maxH_0 (H : List hl_T) : 0 ≤ maxH H := (maxH_ge H 0).1
theorem maxH_in (H : List hl_T) : maxH H = 0 ∨ ∃ h ∈ H, maxH H = h.2 := (maxH_ge H 0).2.2
theorem maxH_rg {H : List hl_T} (h : okH H) : 0 ≤ maxH H ∧ maxH H ≤ 1024 := by
  refine ⟨maxH_0 H, ?_⟩
  rcases maxH_in H with e | ⟨x, hx, e⟩
  · omega
  · have := h x hx
    omega
section HLS
variable {sc : List Value} {w : List zE} {a : Nat} {H : List hl_T}
theorem zc_hHow (h : sH w a H) : Zc sc 21 [zp a] w (some (zj H.length)) w 0 0 := Zc_of rfl rfl (V21_0 h.ob ⟨rfl, rfl, rfl, rfl⟩)
theorem zc_hPlace_t (h : sH w a H) {k : Nat} {x : hl_T} (hk : H[k]? = some x) : Zc sc 24 [zp a, zj k] w (some (zj x.1)) w 0 0 := by
  obtain ⟨hok, hl, h0, op, oz, hR, h1, h2⟩ := id h; have hln := hR.1
  have hlt := (List.getElem?_eq_some_iff.mp hk).1
  have e := hR.2 k x hk
  exact Zc_of rfl rfl (V24_0 h0 h1 ⟨by omega, fun _ => by omega, fun _ => ⟨by omega, fun _ => by omega, fun _ => ⟨by omega, zj_e e.1.symm, rfl, rfl, rfl⟩⟩⟩)
theorem zc_hPlace_f (h : sH w a H) {k : Int} (hk : zrg k) (hn : k < 0 ∨ (H.length : Int) ≤ k) : Zc sc 24 [zp a, zj k] w (some (zj (-1))) w 0 0 := by
  obtain ⟨hok, hl, h0, op, oz, hR, h1, h2⟩ := id h; have hln := hR.1
  exact Zc_of rfl rfl (V24_0 h0 h1 ⟨hk, fun _ => ⟨rfl, rfl, rfl, rfl⟩, fun _ => ⟨by omega, fun _ => ⟨rfl, rfl, rfl, rfl⟩, fun _ => by omega⟩⟩)
theorem zc_hSize_t (h : sH w a H) {k : Nat} {x : hl_T} (hk : H[k]? = some x) : Zc sc 26 [zp a, zj k] w (some (zj x.2)) w 0 0 := by
  obtain ⟨hok, hl, h0, op, oz, hR, h1, h2⟩ := id h; have hln := hR.1
  have hlt := (List.getElem?_eq_some_iff.mp hk).1
  have e := hR.2 k x hk
  exact Zc_of rfl rfl (V26_0 h0 h2 ⟨by omega, fun _ => by omega, fun _ => ⟨by omega, fun _ => by omega, fun _ => ⟨by omega, zj_e e.2.symm, rfl, rfl, rfl⟩⟩⟩)
theorem zc_hSize_f (h : sH w a H) {k : Int} (hk : zrg k) (hn : k < 0 ∨ (H.length : Int) ≤ k) : Zc sc 26 [zp a, zj k] w (some (zj 0)) w 0 0 := by
  obtain ⟨hok, hl, h0, op, oz, hR, h1, h2⟩ := id h; have hln := hR.1
  exact Zc_of rfl rfl (V26_0 h0 h2 ⟨hk, fun _ => ⟨rfl, rfl, rfl, rfl⟩, fun _ => ⟨by omega, fun _ => ⟨rfl, rfl, rfl, rfl⟩, fun _ => by omega⟩⟩)
theorem zc_hLargest (h : sH w a H) : Zc sc 32 [zp a] w (some (zj (maxH H))) w 0 0 := by
  have key : ∀ (Y X : List hl_T), H = X ++ Y → Zr sc 32 4 [zp a, zj (maxH X), zj X.length] [] w (some (zj (maxH H))) w 0 0 := by
    intro Y
    induction Y with
    | nil =>
      intro X e
      rw [List.append_nil] at e
      subst e
      obtain ⟨hok, hl, h0, op, oz, hR, h1, h2⟩ := id h; have hln := hR.1
      exact V32_4 h0 h2 ⟨by omega, fun _ => ⟨rfl, rfl, rfl, rfl⟩, fun _ => by omega⟩
    | cons b Y ih =>
      intro X e
      have hk : H[X.length]? = some b := by rw [e]; exact mid_eq
      obtain ⟨hok, hl, h0, op, oz, hR, h1, h2⟩ := id h; have hln := hR.1
      have hlt := (List.getElem?_eq_some_iff.mp hk).1
      have e2 := hR.2 _ b hk
      have gb := hok b (List.mem_of_getElem? hk)
      have gm := maxH_rg (H := X) (fun x hx => hok x (by rw [e]; simp [hx]))
      refine V32_4 h0 h2 ⟨by omega, fun _ => by omega, fun _ => ⟨by omega, by omega, ?_⟩⟩
      have := ih (X ++ [b]) (by rw [e]; simp)
      rw [maxH_snoc, List.length_append] at this
      rw [e2.2]
      exact this
  exact Zc_of rfl rfl (V32_0 (key H [] rfl))
theorem zc_firstReaching (h : sH w a H) {p : Int} (hp : zrg p) : ∃ r, Zc sc 47 [zp a, zj p] w (some (zj r)) w 0 0 ∧ isF (fun h => p < h.1 + h.2) H r := by
  have key : ∀ (Y X : List hl_T), H = X ++ Y → (∀ x ∈ X, ¬ (fun h => p < h.1 + h.2) x) → ∃ r, Zr sc 47 2 [zp a, zj p, zj X.length] [] w (some (zj r)) w 0 0 ∧ isF (fun h => p < h.1 + h.2) H r := by
    intro Y
    induction Y with
    | nil =>
      intro X e q
      rw [List.append_nil] at e
      subst e
      obtain ⟨hok, hl, h0, op, oz, hR, h1, h2⟩ := id h; have hln := hR.1
      exact ⟨_, V47_2 h0 h1 h2 ⟨by omega, fun _ => ⟨rfl, rfl, rfl, rfl⟩, fun _ => by omega⟩, Or.inl ⟨rfl, q⟩⟩
    | cons b Y ih =>
      intro X e q
      have hk : H[X.length]? = some b := by rw [e]; exact mid_eq
      obtain ⟨hok, hl, h0, op, oz, hR, h1, h2⟩ := id h; have hln := hR.1
      have hlt := (List.getElem?_eq_some_iff.mp hk).1
      have e2 := hR.2 _ b hk
      have gb := hok b (List.mem_of_getElem? hk)
      by_cases hP : (fun h => p < h.1 + h.2) b
      · have hP' := hP
        dsimp only at hP
        exact ⟨X.length, V47_2 h0 h1 h2 ⟨by omega, fun _ => by omega, fun _ => ⟨by omega, by omega, by omega, fun _ => by omega, fun _ => ⟨rfl, rfl, rfl, rfl⟩⟩⟩, Or.inr ⟨X, b, Y, e, rfl, hP', q⟩⟩
      · have hP' := hP
        dsimp only at hP
        obtain ⟨r, z1, z2⟩ := ih (X ++ [b]) (by rw [e]; simp) (fun x hx => by
          rcases List.mem_append.mp hx with h | h
          · exact q x h
          · rw [List.mem_singleton.mp h]; exact hP')
        have step : Zr sc 47 2 [zp a, zj p, zj ((X.length : Int) + 1)] [] w (some (zj r)) w 0 0 := by
          rw [List.length_append] at z1
          exact z1
        exact ⟨r, V47_2 h0 h1 h2 ⟨by omega, fun _ => by omega, fun _ => ⟨by omega, by omega, by omega, fun _ => step, fun _ => by omega⟩⟩, z2⟩
  obtain ⟨r, z1, z2⟩ := key H [] rfl (fun x hx => by cases hx)
  exact ⟨r, Zc_of rfl rfl (V47_0 z1), z2⟩
theorem zc_firstOfSize (h : sH w a H) {p : Int} (hp : zrg p) : ∃ r, Zc sc 50 [zp a, zj p] w (some (zj r)) w 0 0 ∧ isF (fun h => h.2 = p) H r := by
  have key : ∀ (Y X : List hl_T), H = X ++ Y → (∀ x ∈ X, ¬ (fun h => h.2 = p) x) → ∃ r, Zr sc 50 2 [zp a, zj p, zj X.length] [] w (some (zj r)) w 0 0 ∧ isF (fun h => h.2 = p) H r := by
    intro Y
    induction Y with
    | nil =>
      intro X e q
      rw [List.append_nil] at e
      subst e
      obtain ⟨hok, hl, h0, op, oz, hR, h1, h2⟩ := id h; have hln := hR.1
      exact ⟨_, V50_2 h0 h2 ⟨by omega, fun _ => ⟨rfl, rfl, rfl, rfl⟩, fun _ => by omega⟩, Or.inl ⟨rfl, q⟩⟩
    | cons b Y ih =>
      intro X e q
      have hk : H[X.length]? = some b := by rw [e]; exact mid_eq
      obtain ⟨hok, hl, h0, op, oz, hR, h1, h2⟩ := id h; have hln := hR.1
      have hlt := (List.getElem?_eq_some_iff.mp hk).1
      have e2 := hR.2 _ b hk
      have gb := hok b (List.mem_of_getElem? hk)
      by_cases hP : (fun h => h.2 = p) b
      · have hP' := hP
        dsimp only at hP
        exact ⟨X.length, V50_2 h0 h2 ⟨by omega, fun _ => by omega, fun _ => ⟨by omega, by omega, fun _ => by omega, fun _ => ⟨rfl, rfl, rfl, rfl⟩⟩⟩, Or.inr ⟨X, b, Y, e, rfl, hP', q⟩⟩
      · have hP' := hP
        dsimp only at hP
        obtain ⟨r, z1, z2⟩ := ih (X ++ [b]) (by rw [e]; simp) (fun x hx => by
          rcases List.mem_append.mp hx with h | h
          · exact q x h
          · rw [List.mem_singleton.mp h]; exact hP')
        have step : Zr sc 50 2 [zp a, zj p, zj ((X.length : Int) + 1)] [] w (some (zj r)) w 0 0 := by
          rw [List.length_append] at z1
          exact z1
        exact ⟨r, V50_2 h0 h2 ⟨by omega, fun _ => by omega, fun _ => ⟨by omega, by omega, fun _ => step, fun _ => by omega⟩⟩, z2⟩
  obtain ⟨r, z1, z2⟩ := key H [] rfl (fun x hx => by cases hx)
  exact ⟨r, Zc_of rfl rfl (V50_0 z1), z2⟩
theorem zc_firstWith (h : sH w a H) {p : Int} (hp : zrg p) : ∃ r, Zc sc 52 [zp a, zj p] w (some (zj r)) w 0 0 ∧ isF (fun h => p ≤ h.2) H r := by
  have key : ∀ (Y X : List hl_T), H = X ++ Y → (∀ x ∈ X, ¬ (fun h => p ≤ h.2) x) → ∃ r, Zr sc 52 2 [zp a, zj p, zj X.length] [] w (some (zj r)) w 0 0 ∧ isF (fun h => p ≤ h.2) H r := by
    intro Y
    induction Y with
    | nil =>
      intro X e q
      rw [List.append_nil] at e
      subst e
      obtain ⟨hok, hl, h0, op, oz, hR, h1, h2⟩ := id h; have hln := hR.1
      exact ⟨_, V52_2 h0 h2 ⟨by omega, fun _ => ⟨rfl, rfl, rfl, rfl⟩, fun _ => by omega⟩, Or.inl ⟨rfl, q⟩⟩
    | cons b Y ih =>
      intro X e q
      have hk : H[X.length]? = some b := by rw [e]; exact mid_eq
      obtain ⟨hok, hl, h0, op, oz, hR, h1, h2⟩ := id h; have hln := hR.1
      have hlt := (List.getElem?_eq_some_iff.mp hk).1
      have e2 := hR.2 _ b hk
      have gb := hok b (List.mem_of_getElem? hk)
      by_cases hP : (fun h => p ≤ h.2) b
      · have hP' := hP
        dsimp only at hP
        exact ⟨X.length, V52_2 h0 h2 ⟨by omega, fun _ => by omega, fun _ => ⟨by omega, by omega, fun _ => by omega, fun _ => ⟨rfl, rfl, rfl, rfl⟩⟩⟩, Or.inr ⟨X, b, Y, e, rfl, hP', q⟩⟩
      · have hP' := hP
        dsimp only at hP
        obtain ⟨r, z1, z2⟩ := ih (X ++ [b]) (by rw [e]; simp) (fun x hx => by
          rcases List.mem_append.mp hx with h | h
          · exact q x h
          · rw [List.mem_singleton.mp h]; exact hP')
        have step : Zr sc 52 2 [zp a, zj p, zj ((X.length : Int) + 1)] [] w (some (zj r)) w 0 0 := by
          rw [List.length_append] at z1
          exact z1
        exact ⟨r, V52_2 h0 h2 ⟨by omega, fun _ => by omega, fun _ => ⟨by omega, by omega, fun _ => step, fun _ => by omega⟩⟩, z2⟩
  obtain ⟨r, z1, z2⟩ := key H [] rfl (fun x hx => by cases hx)
  exact ⟨r, Zc_of rfl rfl (V52_0 z1), z2⟩
theorem isT_snoc_n {room : Int} {X : List hl_T} {f : Int} {b : hl_T} (h : isT room X f) (hb : b.2 < room) : isT room (X ++ [b]) f := by
  rcases h with ⟨h1, h2⟩ | ⟨X1, g, Y1, h1, h2, h3, h4, h5⟩
  · exact Or.inl ⟨h1, fun x hx => by
      rcases List.mem_append.mp hx with h | h
      · exact h2 x h
      · rw [List.mem_singleton.mp h]; exact hb⟩
  · exact Or.inr ⟨X1, g, Y1 ++ [b], by rw [h1]; simp, h2, h3, h4, fun y hy => by
      rcases List.mem_append.mp hy with h | h
      · exact h5 y h
      · rw [List.mem_singleton.mp h]; omega⟩
theorem isT_snoc_0 {room : Int} {X : List hl_T} {b : hl_T} (h : isT room X (-1)) (hb : room ≤ b.2) : isT room (X ++ [b]) X.length := by
  rcases h with ⟨h1, h2⟩ | ⟨X1, g, Y1, h1, h2, h3, h4, h5⟩
  · exact Or.inr ⟨X, b, [], by simp, rfl, hb, fun x hx hr => by have := h2 x hx; omega, fun y hy => by cases hy⟩
  · omega
theorem isW_snoc_n {room : Int} {X : List hl_T} {f : Int} {b : hl_T} (h : isW room X f) (hb : b.2 < room) : isW room (X ++ [b]) f := by
  rcases h with ⟨h1, h2⟩ | ⟨X1, g, Y1, h1, h2, h3, h4, h5⟩
  · exact Or.inl ⟨h1, fun x hx => by
      rcases List.mem_append.mp hx with h | h
      · exact h2 x h
      · rw [List.mem_singleton.mp h]; exact hb⟩
  · exact Or.inr ⟨X1, g, Y1 ++ [b], by rw [h1]; simp, h2, h3, h4, fun y hy => by
      rcases List.mem_append.mp hy with h | h
      · exact h5 y h
      · rw [List.mem_singleton.mp h]; omega⟩
theorem isW_snoc_0 {room : Int} {X : List hl_T} {b : hl_T} (h : isW room X (-1)) (hb : room ≤ b.2) : isW room (X ++ [b]) X.length := by
  rcases h with ⟨h1, h2⟩ | ⟨X1, g, Y1, h1, h2, h3, h4, h5⟩
  · exact Or.inr ⟨X, b, [], by simp, rfl, hb, fun x hx hr => by have := h2 x hx; omega, fun y hy => by cases hy⟩
  · omega
theorem isT_snoc_k {room : Int} {X1 Y1 : List hl_T} {g b : hl_T} (h3 : room ≤ g.2) (h4 : ∀ x ∈ X1, room ≤ x.2 → g.2 < x.2) (h5 : ∀ y ∈ Y1, room ≤ y.2 → g.2 ≤ y.2) (hb : g.2 ≤ b.2) : isT room (X1 ++ g :: Y1 ++ [b]) X1.length := by
  refine Or.inr ⟨X1, g, Y1 ++ [b], by simp, rfl, h3, h4, fun y hy => ?_⟩
  rcases List.mem_append.mp hy with h | h
  · exact h5 y h
  · rw [List.mem_singleton.mp h]; omega
theorem isT_snoc_s {room : Int} {X1 Y1 : List hl_T} {g b : hl_T} (h3 : room ≤ g.2) (h4 : ∀ x ∈ X1, room ≤ x.2 → g.2 < x.2) (h5 : ∀ y ∈ Y1, room ≤ y.2 → g.2 ≤ y.2) (hb : b.2 < g.2) (hr : room ≤ b.2) : isT room (X1 ++ g :: Y1 ++ [b]) (X1 ++ g :: Y1).length := by
  refine Or.inr ⟨X1 ++ g :: Y1, b, [], by simp, rfl, hr, fun x hx hxr => ?_, fun y hy => by cases hy⟩
  simp only [List.mem_append, List.mem_cons] at hx
  rcases hx with h | rfl | h
  · have := h4 x h hxr; omega
  · exact hb
  · have := h5 x h hxr; omega
theorem isW_snoc_k {room : Int} {X1 Y1 : List hl_T} {g b : hl_T} (h3 : room ≤ g.2) (h4 : ∀ x ∈ X1, room ≤ x.2 → x.2 < g.2) (h5 : ∀ y ∈ Y1, room ≤ y.2 → y.2 ≤ g.2) (hb : b.2 ≤ g.2) : isW room (X1 ++ g :: Y1 ++ [b]) X1.length := by
  refine Or.inr ⟨X1, g, Y1 ++ [b], by simp, rfl, h3, h4, fun y hy => ?_⟩
  rcases List.mem_append.mp hy with h | h
  · exact h5 y h
  · rw [List.mem_singleton.mp h]; omega
theorem isW_snoc_s {room : Int} {X1 Y1 : List hl_T} {g b : hl_T} (h3 : room ≤ g.2) (h4 : ∀ x ∈ X1, room ≤ x.2 → x.2 < g.2) (h5 : ∀ y ∈ Y1, room ≤ y.2 → y.2 ≤ g.2) (hb : g.2 < b.2) (hr : room ≤ b.2) : isW room (X1 ++ g :: Y1 ++ [b]) (X1 ++ g :: Y1).length := by
  refine Or.inr ⟨X1 ++ g :: Y1, b, [], by simp, rfl, hr, fun x hx hxr => ?_, fun y hy => by cases hy⟩
  simp only [List.mem_append, List.mem_cons] at hx
  rcases hx with h | rfl | h
  · have := h4 x h hxr; omega
  · exact hb
  · have := h5 x h hxr; omega
theorem zc_tightest (h : sH w a H) {p : Int} (hp : zrg p) : ∃ r, Zc sc 44 [zp a, zj p] w (some (zj r)) w 0 0 ∧ isT p H r := by
  have key : ∀ (Y X : List hl_T) (f : Int), H = X ++ Y → isT p X f → ∃ r, Zr sc 44 4 [zp a, zj p, zj f, zj X.length] [] w (some (zj r)) w 0 0 ∧ isT p H r := by
    intro Y
    induction Y with
    | nil =>
      intro X f e q
      rw [List.append_nil] at e
      subst e
      obtain ⟨hok, hl, h0, op, oz, hR, h1, h2⟩ := id h; have hln := hR.1
      exact ⟨f, V44_4 h0 h2 ⟨by omega, fun _ => ⟨rfl, rfl, rfl, rfl⟩, fun _ => by omega⟩, q⟩
    | cons b Y ih =>
      intro X f e q
      have hk : H[X.length]? = some b := by rw [e]; exact mid_eq
      have e3 : H = (X ++ [b]) ++ Y := by rw [e]; simp
      obtain ⟨hok, hl, h0, op, oz, hR, h1, h2⟩ := id h; have hln := hR.1
      have hlt := (List.getElem?_eq_some_iff.mp hk).1
      have e2 := hR.2 _ b hk
      have gb := hok b (List.mem_of_getElem? hk)
      have hlx : ((X ++ [b]).length : Int) = (X.length : Int) + 1 := by simp
      by_cases hP : b.2 < p
      · obtain ⟨r, z1, z2⟩ := ih (X ++ [b]) f e3 (isT_snoc_n q hP)
        rw [hlx] at z1
        exact ⟨r, V44_4 h0 h2 ⟨by omega, fun _ => by omega, fun _ => ⟨by omega, by omega, fun _ => z1, fun _ => by omega⟩⟩, z2⟩
      · rcases id q with ⟨q1, q2⟩ | ⟨X1, g, Y1, q1, q2, q3, q4, q5⟩
        · subst q1
          obtain ⟨r, z1, z2⟩ := ih (X ++ [b]) _ e3 (isT_snoc_0 q (by omega))
          rw [hlx] at z1
          exact ⟨r, V44_4 h0 h2 ⟨by omega, fun _ => by omega, fun _ => ⟨by omega, by omega, fun _ => by omega, fun _ => ⟨⟨by decide, by decide⟩, fun _ => z1, fun _ => by omega⟩⟩⟩, z2⟩
        · have hk1 : H[X1.length]? = some g := by rw [e, q1, List.append_assoc]; exact mid_eq
          have hlt1 := (List.getElem?_eq_some_iff.mp hk1).1
          have e21 := hR.2 _ g hk1
          have gg := hok g (List.mem_of_getElem? hk1)
          subst q2
          by_cases hC : g.2 ≤ b.2
          · obtain ⟨r, z1, z2⟩ := ih (X ++ [b]) X1.length e3 (by rw [q1]; exact isT_snoc_k q3 q4 q5 hC)
            rw [hlx] at z1
            exact ⟨r, V44_4 h0 h2 ⟨by omega, fun _ => by omega, fun _ => ⟨by omega, by omega, fun _ => by omega, fun _ => ⟨by omega, fun _ => by omega, fun _ => ⟨by omega, by omega, by omega, fun _ => z1, fun _ => by omega⟩⟩⟩⟩, z2⟩
          · obtain ⟨r, z1, z2⟩ := ih (X ++ [b]) X.length e3 (by rw [q1]; exact isT_snoc_s q3 q4 q5 (by omega) (by omega))
            rw [hlx] at z1
            exact ⟨r, V44_4 h0 h2 ⟨by omega, fun _ => by omega, fun _ => ⟨by omega, by omega, fun _ => by omega, fun _ => ⟨by omega, fun _ => by omega, fun _ => ⟨by omega, by omega, by omega, fun _ => by omega, fun _ => z1⟩⟩⟩⟩, z2⟩
  obtain ⟨r, z1, z2⟩ := key H [] (-1) rfl (Or.inl ⟨rfl, fun x hx => by cases hx⟩)
  exact ⟨r, Zc_of rfl rfl (V44_0 z1), z2⟩
theorem zc_widest (h : sH w a H) {p : Int} (hp : zrg p) : ∃ r, Zc sc 48 [zp a, zj p] w (some (zj r)) w 0 0 ∧ isW p H r := by
  have key : ∀ (Y X : List hl_T) (f : Int), H = X ++ Y → isW p X f → ∃ r, Zr sc 48 4 [zp a, zj p, zj f, zj X.length] [] w (some (zj r)) w 0 0 ∧ isW p H r := by
    intro Y
    induction Y with
    | nil =>
      intro X f e q
      rw [List.append_nil] at e
      subst e
      obtain ⟨hok, hl, h0, op, oz, hR, h1, h2⟩ := id h; have hln := hR.1
      exact ⟨f, V48_4 h0 h2 ⟨by omega, fun _ => ⟨rfl, rfl, rfl, rfl⟩, fun _ => by omega⟩, q⟩
    | cons b Y ih =>
      intro X f e q
      have hk : H[X.length]? = some b := by rw [e]; exact mid_eq
      have e3 : H = (X ++ [b]) ++ Y := by rw [e]; simp
      obtain ⟨hok, hl, h0, op, oz, hR, h1, h2⟩ := id h; have hln := hR.1
      have hlt := (List.getElem?_eq_some_iff.mp hk).1
      have e2 := hR.2 _ b hk
      have gb := hok b (List.mem_of_getElem? hk)
      have hlx : ((X ++ [b]).length : Int) = (X.length : Int) + 1 := by simp
      by_cases hP : b.2 < p
      · obtain ⟨r, z1, z2⟩ := ih (X ++ [b]) f e3 (isW_snoc_n q hP)
        rw [hlx] at z1
        exact ⟨r, V48_4 h0 h2 ⟨by omega, fun _ => by omega, fun _ => ⟨by omega, by omega, fun _ => z1, fun _ => by omega⟩⟩, z2⟩
      · rcases id q with ⟨q1, q2⟩ | ⟨X1, g, Y1, q1, q2, q3, q4, q5⟩
        · subst q1
          obtain ⟨r, z1, z2⟩ := ih (X ++ [b]) _ e3 (isW_snoc_0 q (by omega))
          rw [hlx] at z1
          exact ⟨r, V48_4 h0 h2 ⟨by omega, fun _ => by omega, fun _ => ⟨by omega, by omega, fun _ => by omega, fun _ => ⟨⟨by decide, by decide⟩, fun _ => z1, fun _ => by omega⟩⟩⟩, z2⟩
        · have hk1 : H[X1.length]? = some g := by rw [e, q1, List.append_assoc]; exact mid_eq
          have hlt1 := (List.getElem?_eq_some_iff.mp hk1).1
          have e21 := hR.2 _ g hk1
          have gg := hok g (List.mem_of_getElem? hk1)
          subst q2
          by_cases hC : b.2 ≤ g.2
          · obtain ⟨r, z1, z2⟩ := ih (X ++ [b]) X1.length e3 (by rw [q1]; exact isW_snoc_k q3 q4 q5 hC)
            rw [hlx] at z1
            exact ⟨r, V48_4 h0 h2 ⟨by omega, fun _ => by omega, fun _ => ⟨by omega, by omega, fun _ => by omega, fun _ => ⟨by omega, fun _ => by omega, fun _ => ⟨by omega, by omega, by omega, fun _ => z1, fun _ => by omega⟩⟩⟩⟩, z2⟩
          · obtain ⟨r, z1, z2⟩ := ih (X ++ [b]) X.length e3 (by rw [q1]; exact isW_snoc_s q3 q4 q5 (by omega) (by omega))
            rw [hlx] at z1
            exact ⟨r, V48_4 h0 h2 ⟨by omega, fun _ => by omega, fun _ => ⟨by omega, by omega, fun _ => by omega, fun _ => ⟨by omega, fun _ => by omega, fun _ => ⟨by omega, by omega, by omega, fun _ => by omega, fun _ => z1⟩⟩⟩⟩, z2⟩
  obtain ⟨r, z1, z2⟩ := key H [] (-1) rfl (Or.inl ⟨rfl, fun x hx => by cases hx⟩)
  exact ⟨r, Zc_of rfl rfl (V48_0 z1), z2⟩
theorem zc_hRemoveAll (h : sH w a H) : ∃ w', Zc sc 74 [zp a] w none w' 0 0 ∧ zFm w w' a 3 ∧ sH w' a [] := by
  obtain ⟨hok, hl, h0, op, oz, hR, h1, h2⟩ := id h; have hln := hR.1
  exact ⟨_, Zc_of rfl rfl (V74_0 h0 ⟨rfl, rfl, rfl, rfl⟩), zFm_set (by omega) (by omega), fun x hx => (by cases hx), by decide, zw_s h0, op, oz, ⟨hln, fun k x hx => (by simp at hx)⟩, zw_o (by omega) h1, zw_o (by omega) h2⟩
theorem zc_hAdd (h : sH w a H) {p z : Int} (hH : H.length < 128) (hx : 0 ≤ p ∧ 1 ≤ z ∧ p + z ≤ 1024) : ∃ w', Zc sc 77 [zp a, zj p, zj z] w none w' 0 0 ∧ zFm w w' a 3 ∧ sH w' a (H ++ [(p, z)]) := by
  obtain ⟨hok, hl, h0, op, oz, hR, h1, h2⟩ := id h; have hln := hR.1
  refine ⟨_, Zc_of rfl rfl (V77_0 h0 h1 h2 ⟨by omega, fun _ => by omega, fun _ => ⟨by omega, by omega, rfl, rfl, rfl, rfl⟩⟩), zFm_st (zFm_st (zFm_set (by omega) (by omega)) (by omega) (by omega)) (by omega) (by omega), fun x hx2 => ?_, by simp; omega, ?_, zsi op H.length p, zsi oz H.length z, ⟨by simp only [zsi_len]; exact hln, fun k x hk => ?_⟩, ?_, ?_⟩
  · rcases List.mem_append.mp hx2 with h | h
    · exact hok x h
    · rw [List.mem_singleton.mp h]; exact hx
  · rw [List.length_append]
    exact zw_s (zw_o (show a + 2 ≠ a by omega) (zw_o (show a + 1 ≠ a by omega) h0))
  · rw [zgi_set (by omega) (by omega) (by omega), zgi_set (by omega) (by omega) (by omega)]
    by_cases e : k = H.length
    · subst e
      rw [mid_eq] at hk
      cases hk
      rw [if_pos rfl, if_pos rfl]
      exact ⟨rfl, rfl⟩
    · have hk2 := (List.getElem?_eq_some_iff.mp hk).1
      rw [List.length_append] at hk2
      simp at hk2
      rw [mid_lt (by omega)] at hk
      rw [if_neg (by omega), if_neg (by omega)]
      exact hR.2 k x hk
  · exact zw_o (by omega) (zw_o (by omega) (zw_s h1))
  · exact zw_o (by omega) (zw_s (zw_o (by omega) h2))
end HLS
/-! ===== the trace ===== -/
abbrev dd_T : Type := Int × Int × Int
def okD (D : List dd_T) : Prop := ∀ d ∈ D, 0 ≤ d.1 ∧ d.1 ≤ 5 ∧ 0 ≤ d.2.1 ∧ d.2.1 ≤ 79 ∧ 0 ≤ d.2.2 ∧ d.2.2 ≤ 300 ∧ (d.1 = 0 ∨ d.1 = 2 → 1 ≤ d.2.2)
def tobj (a : Nat) (ct : Int) : zE := zob 5 [zp (a + 1), zp (a + 2), zp (a + 3), zj ct]
def sT (w : List zE) (a : Nat) (D : List dd_T) : Prop := okD D ∧ D.length ≤ 150 ∧ w[a]? = some (tobj a D.length) ∧ ∃ tk tn tz : List Int, (tk.length = 150 ∧ tn.length = 150 ∧ tz.length = 150) ∧ (∀ (k : Nat) d, D[k]? = some d → zgi tk k = d.1 ∧ zgi tn k = d.2.1 ∧ zgi tz k = d.2.2) ∧ w[a + 1]? = some (za tk) ∧ w[a + 2]? = some (za tn) ∧ w[a + 3]? = some (za tz)
theorem sT_fm {w w' : List zE} {a n b : Nat} {D : List dd_T} (hf : zFm w w' a n) (ho : b + 4 ≤ a ∨ a + n ≤ b) (h : sT w b D) : sT w' b D := by
  obtain ⟨hok, hl, h0, tk, tn, tz, hl2, hR, h1, h2, h3⟩ := h
  exact ⟨hok, hl, zFm_get hf h0 (by omega), tk, tn, tz, hl2, hR, zFm_get hf h1 (by omega), zFm_get hf h2 (by omega), zFm_get hf h3 (by omega)⟩
theorem sT.ob {w : List zE} {a : Nat} {D : List dd_T} (h : sT w a D) : w[a]? = some (tobj a D.length) := h.2.2.1
section TRC
variable {sc : List Value} {w : List zE} {a : Nat} {D : List dd_T}
theorem zc_tLen (h : sT w a D) : Zc sc 58 [zp a] w (some (zj D.length)) w 0 0 := Zc_of rfl rfl (V58_0 h.ob ⟨rfl, rfl, rfl, rfl⟩)
theorem zc_tKind (h : sT w a D) {k : Nat} {d : dd_T} (hk : D[k]? = some d) : Zc sc 59 [zp a, zj k] w (some (zj d.1)) w 0 0 := by
  obtain ⟨hok, hl, h0, tk, tn, tz, hln, hR, h1, h2, h3⟩ := id h
  have hlt := (List.getElem?_eq_some_iff.mp hk).1
  have e := hR k d hk
  have hh : Zc sc 60 [zp a, zj k] w (some (zj 1)) w 0 0 := Zc_of rfl rfl (V60_0 h0 ⟨by omega, fun _ => by omega, fun _ => ⟨by omega, fun _ => by omega, fun _ => ⟨rfl, rfl, rfl, rfl⟩⟩⟩)
  exact Zc_of rfl rfl (V59_0 h0 h1 ⟨_, hh, by omega, fun _ => by omega, fun _ => ⟨by omega, zj_e (by omega), rfl, rfl, rfl⟩⟩)
theorem zc_tName (h : sT w a D) {k : Nat} {d : dd_T} (hk : D[k]? = some d) : Zc sc 82 [zp a, zj k] w (some (zj d.2.1)) w 0 0 := by
  obtain ⟨hok, hl, h0, tk, tn, tz, hln, hR, h1, h2, h3⟩ := id h
  have hlt := (List.getElem?_eq_some_iff.mp hk).1
  have e := hR k d hk
  have hh : Zc sc 60 [zp a, zj k] w (some (zj 1)) w 0 0 := Zc_of rfl rfl (V60_0 h0 ⟨by omega, fun _ => by omega, fun _ => ⟨by omega, fun _ => by omega, fun _ => ⟨rfl, rfl, rfl, rfl⟩⟩⟩)
  exact Zc_of rfl rfl (V82_0 h0 h2 ⟨_, hh, by omega, fun _ => by omega, fun _ => ⟨by omega, zj_e (by omega), rfl, rfl, rfl⟩⟩)
theorem zc_tSize (h : sT w a D) {k : Nat} {d : dd_T} (hk : D[k]? = some d) : Zc sc 61 [zp a, zj k] w (some (zj d.2.2)) w 0 0 := by
  obtain ⟨hok, hl, h0, tk, tn, tz, hln, hR, h1, h2, h3⟩ := id h
  have hlt := (List.getElem?_eq_some_iff.mp hk).1
  have e := hR k d hk
  have hh : Zc sc 60 [zp a, zj k] w (some (zj 1)) w 0 0 := Zc_of rfl rfl (V60_0 h0 ⟨by omega, fun _ => by omega, fun _ => ⟨by omega, fun _ => by omega, fun _ => ⟨rfl, rfl, rfl, rfl⟩⟩⟩)
  exact Zc_of rfl rfl (V61_0 h0 h3 ⟨_, hh, by omega, fun _ => by omega, fun _ => ⟨by omega, zj_e (by omega), rfl, rfl, rfl⟩⟩)
theorem zc_tForget (h : sT w a D) : ∃ w', Zc sc 120 [zp a] w none w' 0 0 ∧ zFm w w' a 4 ∧ sT w' a [] := by
  obtain ⟨hok, hl, h0, tk, tn, tz, hln, hR, h1, h2, h3⟩ := id h
  exact ⟨_, Zc_of rfl rfl (V120_0 h0 ⟨rfl, rfl, rfl, rfl⟩), zFm_set (by omega) (by omega), fun x hx => (by cases hx), by decide, zw_s h0, tk, tn, tz, hln, fun k x hx => (by simp at hx), zw_o (by omega) h1, zw_o (by omega) h2, zw_o (by omega) h3⟩
theorem zc_tAdd (h : sT w a D) {d : dd_T} (hD : D.length < 150) (hd : 0 ≤ d.1 ∧ d.1 ≤ 5 ∧ 0 ≤ d.2.1 ∧ d.2.1 ≤ 79 ∧ 0 ≤ d.2.2 ∧ d.2.2 ≤ 300 ∧ (d.1 = 0 ∨ d.1 = 2 → 1 ≤ d.2.2)) : ∃ w', Zc sc 136 [zp a, zj d.1, zj d.2.1, zj d.2.2] w (some (zp a)) w' 0 0 ∧ zFm w w' a 4 ∧ sT w' a (D ++ [d]) := by
  obtain ⟨hok, hl, h0, tk, tn, tz, hln, hR, h1, h2, h3⟩ := id h
  refine ⟨_, Zc_of rfl rfl (V136_0 h0 h1 h2 h3 ⟨by omega, fun _ => by omega, fun _ => ⟨by omega, by omega, by omega, rfl, rfl, rfl, rfl⟩⟩), zFm_st (zFm_st (zFm_st (zFm_set (by omega) (by omega)) (by omega) (by omega)) (by omega) (by omega)) (by omega) (by omega), fun x hx2 => ?_, by simp; omega, ?_, zsi tk D.length d.1, zsi tn D.length d.2.1, zsi tz D.length d.2.2, by simp only [zsi_len]; exact hln, fun k x hk => ?_, ?_, ?_, ?_⟩
  · rcases List.mem_append.mp hx2 with h | h
    · exact hok x h
    · rw [List.mem_singleton.mp h]; exact hd
  · rw [List.length_append]
    exact zw_s (zw_o (show a + 3 ≠ a by omega) (zw_o (show a + 2 ≠ a by omega) (zw_o (show a + 1 ≠ a by omega) h0)))
  · rw [zgi_set (by omega) (by omega) (by omega), zgi_set (by omega) (by omega) (by omega), zgi_set (by omega) (by omega) (by omega)]
    by_cases e : k = D.length
    · subst e
      rw [mid_eq] at hk
      cases hk
      rw [if_pos rfl, if_pos rfl, if_pos rfl]
      exact ⟨rfl, rfl, rfl⟩
    · have hk2 := (List.getElem?_eq_some_iff.mp hk).1
      rw [List.length_append] at hk2
      simp at hk2
      rw [mid_lt (by omega)] at hk
      rw [if_neg (by omega), if_neg (by omega), if_neg (by omega)]
      exact hR k x hk
  · exact zw_o (by omega) (zw_o (by omega) (zw_o (by omega) (zw_s h1)))
  · exact zw_o (by omega) (zw_o (by omega) (zw_s (zw_o (by omega) h2)))
  · exact zw_o (by omega) (zw_s (zw_o (by omega) (zw_o (by omega) h3)))
end TRC
