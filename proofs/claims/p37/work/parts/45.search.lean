/-! ===== the searches ===== -/
theorem msz_ge (c : Nat) : 11 ≤ msz c ∧ msz c ≤ 12 := by unfold msz; split <;> omega
def rot (s i n : Nat) : Nat := if s + i < n then s + i else s + i - n
def isC (s : Nat) (room : Int) (H : List hl_T) (r : Int) : Prop := (r = -1 ∧ ∀ h ∈ H, h.2 < room) ∨ ∃ i : Nat, i < H.length ∧ r = (rot s i H.length : Nat) ∧ (∃ h, H[rot s i H.length]? = some h ∧ room ≤ h.2) ∧ ∀ j, j < i → ∀ h, H[rot s j H.length]? = some h → h.2 < room
def selF (c : Nat) (wy hn : Int) (H : List hl_T) (room r : Int) : Prop := match c with
  | 1 => isT room H r
  | 2 => (wy = 0 ∧ isC 0 room H r) ∨ (wy = 1 ∧ ∃ s0, isF (fun h => hn < h.1 + h.2) H s0 ∧ isC s0.toNat room H r) ∨ (wy = 2 ∧ isT room H r) ∨ ((wy < 0 ∨ 2 < wy) ∧ isW room H r)
  | _ => (room < 128 ∧ ∃ r0, isF (fun h => h.2 = room) H r0 ∧ ((0 ≤ r0 ∧ r = r0) ∨ (r0 < 0 ∧ isF (fun h => 128 ≤ h.2) H r))) ∨ (128 ≤ room ∧ isF (fun h => room ≤ h.2) H r)
theorem isF_rg {P : hl_T → Prop} {H : List hl_T} {r : Int} (h : isF P H r) : r = -1 ∨ (0 ≤ r ∧ r < (H.length : Int)) := by
  rcases h with ⟨h, -⟩ | ⟨X, x, Y, h1, h2, -⟩
  · exact Or.inl h
  · right
    rw [h1, List.length_append, List.length_cons]
    omega
section SRC
variable {sc : List Value} {w : List zE} {m : Nat} {k k' : mk_T} {hn hn' sn sn' : Int} {cn : List Int} {B : List bk_T} {H : List hl_T} {pg : List Int}
theorem sR_obj {c : Nat} (h : sR w c m k hn sn cn B H pg) (e : k'.2.2.2.2.2.2.2 = k.2.2.2.2.2.2.2) : sR (w.set m (mobj c m k' hn' sn')) c m k' hn' sn' cn B H pg ∧ zFm w (w.set m (mobj c m k' hn' sn')) m (msz c) := by
  have hz := msz_ge c
  have hf : zFm w (w.set m (mobj c m k' hn' sn')) m 1 := zFm_set (by omega) (by omega)
  refine ⟨⟨zw_s h.1, sB_fm hf (by omega) h.2.1, sH_fm hf (by omega) h.2.2.1, zFm_get hf h.2.2.2.1 (by omega), ?_, fun e => zFm_get hf (h.2.2.2.2.2 e) (by omega)⟩, zFm_mono hf (by omega) (by omega)⟩
  rw [e]
  exact zFm_get hf h.2.2.2.2.1 (by omega)
theorem zc_round (h : sR w 2 m k hn sn cn B H pg) (hsn : 0 ≤ sn ∧ sn ≤ 128) {s : Nat} (hs : s < H.length ∨ s = 0) {room : Int} (hr : zrg room) : ∃ r w' sn', Zc sc 46 [zp m, zj s, zj room] w (some (zj r)) w' 0 0 ∧ zFm w w' m 11 ∧ sR w' 2 m k hn sn' cn B H pg ∧ (0 ≤ sn' ∧ sn' ≤ 128) ∧ isC s room H r := by
  have hH := h.2.2.1
  have hl : H.length ≤ 128 := hH.2.1
  have key : ∀ (n i : Nat), i + n = H.length → (∀ j, j < i → ∀ x, H[rot s j H.length]? = some x → x.2 < room) → ∀ v, ∃ r w' sn', Zr sc 46 11 [zp m, zj s, zj room, zj H.length, zj i, v] [] w (some (zj r)) w' 0 0 ∧ zFm w w' m 11 ∧ sR w' 2 m k hn sn' cn B H pg ∧ (0 ≤ sn' ∧ sn' ≤ 128) ∧ isC s room H r := by
    intro n
    induction n with
    | zero =>
      intro i hi q v
      refine ⟨-1, w, sn, V46_11 h.1 ⟨by omega, fun _ => ⟨rfl, rfl, rfl, rfl⟩, fun _ => by omega⟩, zFm_refl _ _ _, h, hsn, Or.inl ⟨rfl, fun x hx => ?_⟩⟩
      obtain ⟨t, ht⟩ := List.getElem?_of_mem hx
      have htl := (List.getElem?_eq_some_iff.mp ht).1
      by_cases hts : s ≤ t
      · refine q (t - s) (by omega) x ?_
        unfold rot
        rw [if_pos (by omega), show s + (t - s) = t by omega]
        exact ht
      · refine q (t + H.length - s) (by omega) x ?_
        unfold rot
        rw [if_neg (by omega), show s + (t + H.length - s) - H.length = t by omega]
        exact ht
    | succ n ih =>
      intro i hi q v
      have hrl : rot s i H.length < H.length := by unfold rot; split <;> omega
      obtain ⟨x, hx⟩ : ∃ x, H[rot s i H.length]? = some x := ⟨_, List.getElem?_eq_getElem hrl⟩
      have gx := hH.1 x (List.mem_of_getElem? hx)
      have hz := zc_hSize_t (sc := sc) hH hx
      have hob := sR_obj (k' := k) (hn' := hn) (sn' := (i : Int) + 1) h rfl
      by_cases hc : x.2 < room
      · have q2 : ∀ j, j < i + 1 → ∀ y, H[rot s j H.length]? = some y → y.2 < room := fun j hj y hy => by
          by_cases e : j = i
          · subst e; rw [hx] at hy; cases hy; exact hc
          · exact q j (by omega) y hy
        by_cases hw : (H.length : Int) ≤ (s : Int) + i
        · obtain ⟨r, w', sn', z1, z2⟩ := ih (i + 1) (by omega) q2 (zj (((s : Int) + i) - H.length))
          have e : ((rot s i H.length : Nat) : Int) = ((s : Int) + i) - H.length := by unfold rot; rw [if_neg (by omega)]; omega
          rw [e] at hz
          exact ⟨r, w', sn', V46_11 h.1 ⟨by omega, fun _ => by omega, fun _ => ⟨by omega, fun _ => ⟨_, hH.ob, _, hz, ⟨by omega, hr⟩, fun _ => z1, fun _ => by omega⟩, fun _ => by omega⟩⟩, z2⟩
        · obtain ⟨r, w', sn', z1, z2⟩ := ih (i + 1) (by omega) q2 (zj ((s : Int) + i))
          have e : ((rot s i H.length : Nat) : Int) = (s : Int) + i := by unfold rot; rw [if_pos (by omega)]; omega
          rw [e] at hz
          exact ⟨r, w', sn', V46_11 h.1 ⟨by omega, fun _ => by omega, fun _ => ⟨by omega, fun _ => by omega, fun _ => ⟨_, hH.ob, _, hz, ⟨by omega, hr⟩, fun _ => z1, fun _ => by omega⟩⟩⟩, z2⟩
      · have fin : isC s room H (rot s i H.length : Nat) := Or.inr ⟨i, by omega, rfl, ⟨x, hx, by omega⟩, q⟩
        by_cases hw : (H.length : Int) ≤ (s : Int) + i
        · have e : ((rot s i H.length : Nat) : Int) = ((s : Int) + i) - H.length := by unfold rot; rw [if_neg (by omega)]; omega
          rw [e] at hz fin
          exact ⟨_, _, (i : Int) + 1, V46_11 h.1 ⟨by omega, fun _ => by omega, fun _ => ⟨by omega, fun _ => ⟨_, hH.ob, _, hz, ⟨by omega, hr⟩, fun _ => by omega, fun _ => ⟨rfl, rfl, rfl, rfl⟩⟩, fun _ => by omega⟩⟩, hob.2, hob.1, by omega, fin⟩
        · have e : ((rot s i H.length : Nat) : Int) = (s : Int) + i := by unfold rot; rw [if_pos (by omega)]; omega
          rw [e] at hz fin
          exact ⟨_, _, (i : Int) + 1, V46_11 h.1 ⟨by omega, fun _ => by omega, fun _ => ⟨by omega, fun _ => by omega, fun _ => ⟨_, hH.ob, _, hz, ⟨by omega, hr⟩, fun _ => by omega, fun _ => ⟨rfl, rfl, rfl, rfl⟩⟩⟩⟩, hob.2, hob.1, by omega, fin⟩
  obtain ⟨r, w', sn', z1, z2⟩ := key H.length 0 (by omega) (fun j hj => by omega) zmk
  exact ⟨r, w', sn', Zc_of rfl rfl (V46_0 h.1 ⟨_, hH.ob, _, zc_hHow hH, z1⟩), z2⟩
theorem zc_search_1 (h : sR w 1 m k hn sn cn B H pg) (hsn : 0 ≤ sn ∧ sn ≤ 128) (hk : okK k) (hh : 0 ≤ hn ∧ hn ≤ 1023) {room : Int} (hr : zrg room) : ∃ r w' sn', Zc sc 43 [zp m, zj room] w (some (zj r)) w' 0 0 ∧ zFm w w' m (msz 1) ∧ sR w' 1 m k hn sn' cn B H pg ∧ (0 ≤ sn' ∧ sn' ≤ 128) ∧ selF 1 (k.1) hn H room r := by
  have hl : H.length ≤ 128 := h.2.2.1.2.1
  obtain ⟨h1, hf⟩ := sR_obj (k' := k) (hn' := hn) (sn' := (H.length : Int)) h rfl
  obtain ⟨r, z1, z2⟩ := zc_tightest (sc := sc) h1.2.2.1 hr
  exact ⟨r, _, _, Zc_of rfl rfl (V43_0 h.1 ⟨_, h.2.2.1.ob, _, zc_hHow h.2.2.1, _, z1, rfl, rfl, rfl, rfl⟩), hf, h1, by omega, z2⟩
theorem zc_search_2 (h : sR w 2 m k hn sn cn B H pg) (hsn : 0 ≤ sn ∧ sn ≤ 128) (hk : okK k) (hh : 0 ≤ hn ∧ hn ≤ 1023) {room : Int} (hr : zrg room) : ∃ r w' sn', Zc sc 45 [zp m, zj room] w (some (zj r)) w' 0 0 ∧ zFm w w' m (msz 2) ∧ sR w' 2 m k hn sn' cn B H pg ∧ (0 ≤ sn' ∧ sn' ≤ 128) ∧ selF 2 (k.1) hn H room r := by
  have hl : H.length ≤ 128 := h.2.2.1.2.1
  have hw := hk.1
  obtain ⟨h1, hf⟩ := sR_obj (k' := k) (hn' := hn) (sn' := (H.length : Int)) h rfl
  have hs1 : 0 ≤ (H.length : Int) ∧ (H.length : Int) ≤ 128 := by omega
  by_cases w0 : k.1 = 0
  · obtain ⟨r, w', sn', z1, z2, z3, z4, z5⟩ := zc_round (sc := sc) h1 hs1 (s := 0) (Or.inr rfl) hr
    exact ⟨r, w', sn', Zc_of rfl rfl (V45_0 h.1 ⟨_, h.2.2.1.ob, _, zc_hHow h.2.2.1, by omega, fun _ => by omega, fun _ => ⟨_, _, z1, rfl, rfl, rfl, rfl⟩, fun _ => by omega, fun _ => by omega⟩), zFm_trans hf z2, z3, z4, Or.inl ⟨w0, z5⟩⟩
  by_cases w1 : k.1 = 1
  · obtain ⟨s0, f1, f2⟩ := zc_firstReaching (sc := sc) h1.2.2.1 (p := hn) ⟨by omega, by omega⟩
    have f3 := isF_rg f2
    obtain ⟨r, w', sn', z1, z2, z3, z4, z5⟩ := zc_round (sc := sc) h1 hs1 (s := s0.toNat) (by omega) hr
    rw [show ((s0.toNat : Nat) : Int) = max s0 0 by omega] at z1
    exact ⟨r, w', sn', Zc_of rfl rfl (V45_0 h.1 ⟨_, h.2.2.1.ob, _, zc_hHow h.2.2.1, by omega, fun _ => by omega, fun _ => by omega, fun _ => ⟨_, f1, by omega, _, _, z1, rfl, rfl, rfl, rfl⟩, fun _ => by omega⟩), zFm_trans hf z2, z3, z4, Or.inr (Or.inl ⟨w1, s0, f2, z5⟩)⟩
  by_cases w2 : k.1 = 2
  · obtain ⟨r, z1, z2⟩ := zc_tightest (sc := sc) h1.2.2.1 hr
    exact ⟨r, _, _, Zc_of rfl rfl (V45_0 h.1 ⟨_, h.2.2.1.ob, _, zc_hHow h.2.2.1, by omega, fun _ => by omega, fun _ => by omega, fun _ => by omega, fun _ => ⟨_, z1, rfl, rfl, rfl, rfl⟩⟩), hf, h1, hs1, Or.inr (Or.inr (Or.inl ⟨w2, z2⟩))⟩
  · obtain ⟨r, z1, z2⟩ := zc_widest (sc := sc) h1.2.2.1 hr
    exact ⟨r, _, _, Zc_of rfl rfl (V45_0 h.1 ⟨_, h.2.2.1.ob, _, zc_hHow h.2.2.1, by omega, fun _ => ⟨_, z1, rfl, rfl, rfl, rfl⟩, fun _ => by omega, fun _ => by omega, fun _ => by omega⟩), hf, h1, hs1, Or.inr (Or.inr (Or.inr ⟨by omega, z2⟩))⟩
def okPg (pg : List Int) : Prop := pg.length = 8 ∧ ∀ i : Int, -1 ≤ zgi pg i ∧ zgi pg i ≤ 128
theorem zc_pagesOf (h : sR w 4 m k hn sn cn B H pg) (hp : okPg pg) {x y : Int} (hx : zrg x) (hy : zrg y) : ∃ r, Zc sc 51 [zp m, zj x, zj y] w (some (zj r)) w 0 0 ∧ 0 ≤ r ∧ r ≤ 8 := by
  have key : ∀ (n : Nat) (i f : Int), 0 ≤ i → i + n = 8 → 0 ≤ f → f ≤ i → ∃ r, Zr sc 51 5 [zp m, zj x, zj y, zj f, zj i] [] w (some (zj r)) w 0 0 ∧ 0 ≤ r ∧ r ≤ 8 := by
    intro n
    induction n with
    | zero =>
      intro i f h0 h1 h2 h3
      exact ⟨f, V51_5 h.1 (h.2.2.2.2.2 rfl) ⟨by omega, fun _ => ⟨rfl, rfl, rfl, rfl⟩, fun _ => by omega⟩, by omega, by omega⟩
    | succ n ih =>
      intro i f h0 h1 h2 h3
      have hpi := hp.2 i
      have hpl := hp.1
      by_cases hc : y < i * 128
      · exact ⟨f, V51_5 h.1 (h.2.2.2.2.2 rfl) ⟨by omega, fun _ => by omega, fun _ => ⟨by omega, fun _ => ⟨rfl, rfl, rfl, rfl⟩, fun _ => by omega⟩⟩, by omega, by omega⟩
      · by_cases hq : zgi pg i = x
        · obtain ⟨r, z1, z2⟩ := ih (i + 1) (f + 1) (by omega) (by omega) (by omega) (by omega)
          exact ⟨r, V51_5 h.1 (h.2.2.2.2.2 rfl) ⟨by omega, fun _ => by omega, fun _ => ⟨by omega, fun _ => by omega, fun _ => ⟨by omega, by omega, fun g => absurd hq g, fun _ => z1⟩⟩⟩, z2⟩
        · obtain ⟨r, z1, z2⟩ := ih (i + 1) f (by omega) (by omega) (by omega) (by omega)
          exact ⟨r, V51_5 h.1 (h.2.2.2.2.2 rfl) ⟨by omega, fun _ => by omega, fun _ => ⟨by omega, fun _ => by omega, fun _ => ⟨by omega, by omega, fun _ => z1, fun g => absurd hq g⟩⟩⟩, z2⟩
  obtain ⟨r, z1, z2⟩ := key 8 0 0 (by omega) (by omega) (by omega) (by omega)
  exact ⟨r, Zc_of rfl rfl (V51_0 z1), z2⟩
theorem zc_search_4 (h : sR w 4 m k hn sn cn B H pg) (hsn : 0 ≤ sn ∧ sn ≤ 128) (hp : okPg pg) {room : Int} (hr : zrg room) : ∃ r w' sn', Zc sc 49 [zp m, zj room] w (some (zj r)) w' 0 0 ∧ zFm w w' m (msz 4) ∧ sR w' 4 m k hn sn' cn B H pg ∧ (0 ≤ sn' ∧ sn' ≤ 128) ∧ selF 4 (k.1) hn H room r := by
  have hl : H.length ≤ 128 := h.2.2.1.2.1
  have hH := h.2.2.1
  by_cases c1 : 128 ≤ room
  · by_cases c2 : 128 < room
    · obtain ⟨h1, hf⟩ := sR_obj (k' := k) (hn' := hn) (sn' := 0) h rfl
      obtain ⟨r, z1, z2⟩ := zc_firstWith (sc := sc) h1.2.2.1 (p := max room 128) (by omega)
      rw [show max room 128 = room by omega] at z2
      exact ⟨r, _, 0, Zc_of rfl rfl (V49_0 h.1 ⟨by omega, fun _ => ⟨by omega, by omega, fun _ => ⟨by omega, _, hH.ob, _, z1, rfl, rfl, rfl, rfl⟩, fun _ => by omega⟩, fun _ => by omega⟩), hf, h1, by omega, Or.inr ⟨c1, z2⟩⟩
    · obtain ⟨q, q1, q2, q3⟩ := zc_pagesOf (sc := sc) h hp (x := room) (y := 1024) hr (by omega)
      obtain ⟨h1, hf⟩ := sR_obj (k' := k) (hn' := hn) (sn' := q) h rfl
      obtain ⟨r, z1, z2⟩ := zc_firstWith (sc := sc) h1.2.2.1 (p := max room 128) (by omega)
      rw [show max room 128 = room by omega] at z2
      exact ⟨r, _, q, Zc_of rfl rfl (V49_0 h.1 ⟨by omega, fun _ => ⟨by omega, by omega, fun _ => by omega, fun _ => ⟨q, q1, by omega, _, hH.ob, _, z1, rfl, rfl, rfl, rfl⟩⟩, fun _ => by omega⟩), hf, h1, by omega, Or.inr ⟨c1, z2⟩⟩
  · obtain ⟨r0, y1, y2⟩ := zc_firstOfSize (sc := sc) hH (p := room) hr
    have y3 := isF_rg y2
    by_cases c3 : r0 < 0
    · obtain ⟨q, q1, q2, q3⟩ := zc_pagesOf (sc := sc) h hp (x := room) (y := 1024) hr (by omega)
      obtain ⟨h1, hf⟩ := sR_obj (k' := k) (hn' := hn) (sn' := q) h rfl
      obtain ⟨r, z1, z2⟩ := zc_firstWith (sc := sc) h1.2.2.1 (p := max room 128) (by omega)
      rw [show max room 128 = 128 by omega] at z2
      exact ⟨r, _, q, Zc_of rfl rfl (V49_0 h.1 ⟨by omega, fun _ => by omega, fun _ => ⟨_, hH.ob, _, y1, by omega, fun _ => ⟨by omega, fun _ => by omega, fun _ => ⟨q, q1, by omega, _, z1, rfl, rfl, rfl, rfl⟩⟩, fun _ => by omega⟩⟩), hf, h1, by omega, Or.inl ⟨by omega, r0, y2, Or.inr ⟨c3, z2⟩⟩⟩
    · obtain ⟨x, hx⟩ : ∃ x, H[r0.toNat]? = some x := ⟨_, List.getElem?_eq_getElem (by omega)⟩
      have e0 : ((r0.toNat : Nat) : Int) = r0 := by omega
      have p1 := zc_hPlace_t (sc := sc) hH hx
      rw [e0] at p1
      have gx := hH.1 x (List.mem_of_getElem? hx)
      obtain ⟨q, q1, q2, q3⟩ := zc_pagesOf (sc := sc) h hp (x := room) (y := x.1) hr (by omega)
      obtain ⟨h1, hf⟩ := sR_obj (k' := k) (hn' := hn) (sn' := q) h rfl
      exact ⟨r0, _, q, Zc_of rfl rfl (V49_0 h.1 ⟨by omega, fun _ => by omega, fun _ => ⟨_, hH.ob, _, y1, by omega, fun _ => by omega, fun _ => ⟨_, p1, q, q1, rfl, rfl, rfl, rfl⟩⟩⟩), hf, h1, by omega, Or.inl ⟨by omega, r0, y2, Or.inl ⟨by omega, rfl⟩⟩⟩
end SRC
