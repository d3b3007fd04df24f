/-! ===== cells: rows of numbers, frames ===== -/
theorem zsi_len (l : List Int) (x v : Int) : (zsi l x v).length = l.length := by
  unfold zsi
  exact List.length_set
theorem zgi_set {l : List Int} {x v y : Int} (h0 : 0 ≤ x) (h1 : x < (l.length : Int)) (hy : 0 ≤ y) : zgi (zsi l x v) y = if y = x then v else zgi l y := by
  unfold zgi zsi
  rw [List.getD_eq_getElem?_getD, List.getD_eq_getElem?_getD, List.getElem?_set]
  by_cases e : y = x
  · subst e
    rw [if_pos rfl, if_pos rfl, if_pos (by omega)]
    rfl
  · rw [if_neg (show ¬ x.toNat = y.toNat by omega), if_neg e]
theorem zgi_at {l : List Int} {k : Nat} {x : Int} (h : l[k]? = some x) : zgi l k = x := by
  unfold zgi
  rw [List.getD_eq_getElem?_getD]
  simp [h]
/-- nothing outside of a stretch of cells has changed; what is new is behind -/
def zFm (w w' : List zE) (a n : Nat) : Prop := w.length ≤ w'.length ∧ ∀ b, b < w.length → (b < a ∨ a + n ≤ b) → w'[b]? = w[b]?
theorem zFm_refl (w : List zE) (a n : Nat) : zFm w w a n := ⟨Nat.le_refl _, fun _ _ _ => rfl⟩
theorem zFm_trans {w w1 w2 : List zE} {a n : Nat} (h : zFm w w1 a n) (k : zFm w1 w2 a n) : zFm w w2 a n :=
  ⟨Nat.le_trans h.1 k.1, fun b hb ho => by rw [k.2 b (Nat.lt_of_lt_of_le hb h.1) ho, h.2 b hb ho]⟩
theorem zFm_mono {w w' : List zE} {a n a' n' : Nat} (h : zFm w w' a n) (h1 : a' ≤ a) (h2 : a + n ≤ a' + n') : zFm w w' a' n' :=
  ⟨h.1, fun b hb ho => h.2 b hb (by omega)⟩
theorem zFm_set {w : List zE} {a n b : Nat} {X : zE} (h1 : a ≤ b) (h2 : b < a + n) : zFm w (w.set b X) a n :=
  ⟨by rw [List.length_set]; exact Nat.le_refl _, fun c _ ho => List.getElem?_set_ne (by omega)⟩
theorem zFm_st {w w1 : List zE} {a n b : Nat} {X : zE} (h : zFm w w1 a n) (h1 : a ≤ b) (h2 : b < a + n) : zFm w (w1.set b X) a n :=
  zFm_trans h (zFm_set h1 h2)
theorem zFm_app {w : List zE} {a n : Nat} {X : zE} : zFm w (w ++ [X]) a n :=
  ⟨by simp, fun c hc _ => List.getElem?_append_left hc⟩
theorem zFm_get {w w' : List zE} {a n b : Nat} {x : zE} (h : zFm w w' a n) (hb : w[b]? = some x) (ho : b < a ∨ a + n ≤ b) : w'[b]? = some x := by
  rw [h.2 b (List.getElem?_eq_some_iff.mp hb).1 ho]
  exact hb
theorem zi_rg {x : Int} (h1 : -2147483648 ≤ x) (h2 : x ≤ 2147483647) : zrg x := ⟨h1, h2⟩
theorem zj_e {x y : Int} (h : x = y) : some (zj x) = some (zj y) := by rw [h]
theorem ze_e {x y : Int} (h : x = y) {w : List zE} {c s : Nat} (hc : c = 0) (hs : s = 0) : some (zj x) = some (zj y) ∧ w = w ∧ c = 0 ∧ s = 0 := ⟨by rw [h], rfl, hc, hs⟩
