/-! ===== what a memory does to its blocks ===== -/
def sQ (w : List zE) (c m : Nat) (k : mk_T) (hn : Int) (cn : List Int) (B : List bk_T) : Prop := cn.length = 5 ∧ okK k ∧ (0 ≤ hn ∧ hn ≤ 1023) ∧ gcB c B ∧ ∃ sn, (0 ≤ sn ∧ sn ≤ 128) ∧ sR w c m k hn sn cn B (holF c B) (pgF B)
def hnF (wy hn p room : Int) : Int := if wy = 1 then (if 1024 ≤ p + room then 0 else p + room) else hn
theorem mem_mid {α : Type} {X Y : List α} {b x : α} : x ∈ X ++ b :: Y ↔ x ∈ X ++ Y ∨ x = b := by
  simp only [List.mem_append, List.mem_cons]
  constructor
  · rintro (h | h | h)
    · exact Or.inl (Or.inl h)
    · exact Or.inr h
    · exact Or.inl (Or.inr h)
  · rintro ((h | h) | h)
    · exact Or.inl h
    · exact Or.inr (Or.inr h)
    · exact Or.inr (Or.inl h)
section MOV
variable {sc : List Value} {w w' : List zE} {m : Nat} {k k' : mk_T} {hn sn : Int} {cn : List Int} {B B' X Y : List bk_T} {H : List hl_T} {pg : List Int} {b : bk_T}
theorem sQ_fm {c a n : Nat} (hf : zFm w w' a n) (ho : m + msz c ≤ a ∨ a + n ≤ m) (h : sQ w c m k hn cn B) : sQ w' c m k hn cn B := by
  obtain ⟨h1, h2, h3, h4, sn, h5, h6⟩ := h
  exact ⟨h1, h2, h3, h4, sn, h5, sR_fm hf ho h6⟩
theorem zc_hPlace_a {a : Nat} (h : sH w a H) {r : Int} (hr : zrg r) : ∃ v, Zc sc 24 [zp a, zj r] w (some (zj v)) w 0 0 ∧ -1 ≤ v ∧ v ≤ 1024 := by
  by_cases g : r < 0 ∨ (H.length : Int) ≤ r
  · exact ⟨-1, zc_hPlace_f h hr g, by omega, by omega⟩
  · obtain ⟨x, hx⟩ : ∃ x, H[r.toNat]? = some x := ⟨_, List.getElem?_eq_getElem (by omega)⟩
    have := zc_hPlace_t (sc := sc) h hx
    rw [show ((r.toNat : Nat) : Int) = r by omega] at this
    have gx := h.1 x (List.mem_of_getElem? hx)
    exact ⟨x.1, this, by omega, by omega⟩
theorem zc_hSize_a {a : Nat} (h : sH w a H) {r : Int} (hr : zrg r) : ∃ v, Zc sc 26 [zp a, zj r] w (some (zj v)) w 0 0 ∧ 0 ≤ v ∧ v ≤ 1024 := by
  by_cases g : r < 0 ∨ (H.length : Int) ≤ r
  · exact ⟨0, zc_hSize_f h hr g, by omega, by omega⟩
  · obtain ⟨x, hx⟩ : ∃ x, H[r.toNat]? = some x := ⟨_, List.getElem?_eq_getElem (by omega)⟩
    have := zc_hSize_t (sc := sc) h hx
    rw [show ((r.toNat : Nat) : Int) = r by omega] at this
    have gx := h.1 x (List.mem_of_getElem? hx)
    exact ⟨x.2, this, by omega, by omega⟩
theorem zc_joins_2 (h : sR w 2 m k hn sn cn B H pg) {p r : Int} (hp : 0 ≤ p ∧ p ≤ 1024) (hr : 0 ≤ r ∧ r ≤ 1024) : ∃ v, Zc sc 86 [zp m, zj p, zj r] w (some (zj v)) w 0 0 ∧ 0 ≤ v ∧ v ≤ 10 := by
  have hH := h.2.2.1
  have hl := hH.2.1
  obtain ⟨q, q1, q2⟩ := zc_firstReaching (sc := sc) hH (p := p) (by omega)
  have q3 := isF_rg q2
  obtain ⟨v, v1, v2, v3⟩ := zc_hPlace_a (sc := sc) hH (r := q) (by omega)
  obtain ⟨z, z1, z2, z3⟩ := zc_hSize_a (sc := sc) hH (r := q) (by omega)
  by_cases g1 : p ≤ v
  · by_cases g2 : v + z ≤ p + r
    · exact ⟨0, Zc_of rfl rfl (V86_0 h.1 ⟨_, hH.ob, q, q1, v, v1, by omega, fun _ => ⟨v, v1, z, z1, by omega, fun _ => ⟨rfl, rfl, rfl, rfl⟩, fun _ => by omega⟩, fun _ => by omega⟩), by omega, by omega⟩
    · exact ⟨0 + 1, Zc_of rfl rfl (V86_0 h.1 ⟨_, hH.ob, q, q1, v, v1, by omega, fun _ => ⟨v, v1, z, z1, by omega, fun _ => by omega, fun _ => ⟨rfl, rfl, rfl, rfl⟩⟩, fun _ => by omega⟩), by omega, by omega⟩
  · by_cases g2 : v + z ≤ p + r
    · exact ⟨0 + 1, Zc_of rfl rfl (V86_0 h.1 ⟨_, hH.ob, q, q1, v, v1, by omega, fun _ => by omega, fun _ => ⟨v, v1, z, z1, by omega, fun _ => ⟨rfl, rfl, rfl, rfl⟩, fun _ => by omega⟩⟩), by omega, by omega⟩
    · exact ⟨0 + 1 + 1, Zc_of rfl rfl (V86_0 h.1 ⟨_, hH.ob, q, q1, v, v1, by omega, fun _ => by omega, fun _ => ⟨v, v1, z, z1, by omega, fun _ => by omega, fun _ => ⟨rfl, rfl, rfl, rfl⟩⟩⟩), by omega, by omega⟩
theorem zc_joins_1 (h : sR w 1 m k hn sn cn B H pg) {p r : Int} (hp : 0 ≤ p ∧ p ≤ 1024) (hr : 0 ≤ r ∧ r ≤ 1024) : ∃ v, Zc sc 87 [zp m, zj p, zj r] w (some (zj v)) w 0 0 ∧ 0 ≤ v ∧ v ≤ 10 := by
  have hH := h.2.2.1
  have hl := hH.2.1
  obtain ⟨q, q1, q2⟩ := zc_firstReaching (sc := sc) hH (p := p) (by omega)
  have q3 := isF_rg q2
  obtain ⟨z, z1, z2, z3⟩ := zc_hSize_a (sc := sc) hH (r := q) (by omega)
  obtain ⟨v, v1, v2, v3⟩ := zc_splits_1 (sc := sc) (w := w) (m := m) (x := z) (y := r) (by omega) (by omega)
  exact ⟨v, Zc_of rfl rfl (V87_0_1 h.1 ⟨_, hH.ob, q, q1, z, z1, v, v1, rfl, rfl, rfl, rfl⟩), v2, v3⟩
theorem zc_joins_4 (h : sR w 4 m k hn sn cn B H pg) {p r : Int} (hp : 0 ≤ p ∧ p ≤ 1024) (hr : 0 ≤ r ∧ r ≤ 1024) : ∃ v, Zc sc 87 [zp m, zj p, zj r] w (some (zj v)) w 0 0 ∧ 0 ≤ v ∧ v ≤ 10 := by
  have hH := h.2.2.1
  have hl := hH.2.1
  obtain ⟨q, q1, q2⟩ := zc_firstReaching (sc := sc) hH (p := p) (by omega)
  have q3 := isF_rg q2
  obtain ⟨z, z1, z2, z3⟩ := zc_hSize_a (sc := sc) hH (r := q) (by omega)
  obtain ⟨v, v1, v2, v3⟩ := zc_splits_4 (sc := sc) (w := w) (m := m) (x := z) (y := r) (by omega) (by omega)
  exact ⟨v, Zc_of rfl rfl (V87_0_4 h.1 ⟨_, hH.ob, q, q1, z, z1, v, v1, rfl, rfl, rfl, rfl⟩), v2, v3⟩
theorem zc_release_1 (h : sQ w 1 m k hn cn (X ++ b :: Y)) : ∃ w' cn', Zc sc 83 [zp m, zj b.1] w none w' 0 0 ∧ zFm w w' m (msz 1) ∧ sQ w' 1 m k hn cn' (X ++ Y) ∧ cLe cn cn' 10 := by
  obtain ⟨hc, hk, hh, hg, sn, hs, h6⟩ := h
  have hb : b ∈ X ++ b :: Y := by simp
  have gb := h6.2.1.1.2 b hb
  have hg' : gcB 1 (X ++ Y) := gc_sub hg (fun x hx => mem_mid.mpr (Or.inl hx))
  obtain ⟨w1, z1, z2, z3⟩ := zc_remove (sc := sc) h6.2.1
  have r1 := sR_B h6 z2 z3
  obtain ⟨w2, y1, y2, y3⟩ := zc_layOut_1 (sc := sc) r1 (pgF_len _) hg'
  obtain ⟨v, v1, v2, v3⟩ := zc_joins_1 (sc := sc) y3 (p := b.2.1) (r := b.2.2.2) (by omega) (by omega)
  obtain ⟨w3, x1, x2, x3⟩ := zc_count_1 (sc := sc) y3 hc (x := 2) (v := v) (by omega)
  exact ⟨w3, _, Zc_of rfl rfl (V83_0_1 h6.1 ⟨_, h6.2.1.ob, _, zc_has_t h6.2.1 hb, by omega, fun _ => ⟨_, zc_placeOf_t h6.2.1 hb, _, zc_roomOf_t h6.2.1 hb, w1, z1, _, r1.1, w2, y1, _, y3.1, v, v1, w3, x1, rfl, rfl, rfl, rfl⟩, fun q => by omega⟩), zFm_trans (zFm_B z2) (zFm_trans y2 x2), ⟨by rw [zsi_len]; exact hc, hk, hh, hg', sn, hs, x3⟩, cLe_set hc (by omega) (by omega)⟩
theorem zc_release_f_1 (h : sQ w 1 m k hn cn B) {n : Int} (hn2 : zrg n) (hb : ∀ b ∈ B, b.1 ≠ n) : Zc sc 83 [zp m, zj n] w none w 0 0 := by
  obtain ⟨hc, hk, hh, hg, sn, hs, h6⟩ := h
  exact Zc_of rfl rfl (V83_0_1 h6.1 ⟨_, h6.2.1.ob, _, zc_has_f h6.2.1 hn2 hb, by omega, fun q => absurd rfl q, fun _ => ⟨rfl, rfl, rfl, rfl⟩⟩)
theorem zc_settle_1 (h : sQ w 1 m k hn cn B) (hB : B.length ≤ 80) {n z room : Int} (hn0 : 0 ≤ n ∧ n ≤ 80) (hnb : ∀ b ∈ B, b.1 ≠ n) (hz : 1 ≤ z ∧ z ≤ 300) (hr : rOK 1 room) :
    (∃ w' cn', Zc sc 63 [zp m, zj n, zj z, zj room] w (some (zj 0)) w' 0 0 ∧ zFm w w' m (msz 1) ∧ sQ w' 1 m k hn cn' B ∧ cLe cn cn' 150 ∧ selP 1 (k.1) hn (holF 1 B) room (-1)) ∨
    (∃ w' cn' X Y p, B = X ++ Y ∧ Zc sc 63 [zp m, zj n, zj z, zj room] w (some (zj 1)) w' 0 0 ∧ zFm w w' m (msz 1) ∧ sQ w' 1 m k (hnF (k.1) hn p room) cn' (X ++ (n, p, z, room) :: Y) ∧ cLe cn cn' 150 ∧ selP 1 (k.1) hn (holF 1 B) room p ∧ 0 ≤ p) := by
  obtain ⟨hc, hk, hh, hg, sn, hs, h6⟩ := h
  have hkw := hk.1
  have hroom := rOK_rg (by omega) hr
  obtain ⟨r, w1, sn1, z1, z2, z3, z4, z5⟩ := zc_search_1 (sc := sc) h6 hs hk hh (room := room) (by omega)
  obtain ⟨w2, y1, y2, y3⟩ := zc_count_1 (sc := sc) z3 hc (x := 0) (v := sn1) (by omega)
  have hc2 : (zsi cn 0 (zgi cn 0 + sn1)).length = 5 := by rw [zsi_len]; exact hc
  have l2 : cLe cn (zsi cn 0 (zgi cn 0 + sn1)) 128 := cLe_set hc (by omega) (by omega)
  rcases selF_hit (by omega) z5 with e | ⟨j, x, e, hx, hhit⟩
  · subst e
    left
    obtain ⟨w3, x1, x2, x3⟩ := zc_count_1 (sc := sc) y3 hc2 (x := 4) (v := 1) (by omega)
    exact ⟨w3, _, Zc_of rfl rfl (V63_0_1 h6.1 ⟨_, w1, z1, _, _, _, _, _, _, _, _, _, z3.1, w2, y1, by omega, fun q => by omega, fun _ => ⟨_, y3.1, w3, x1, rfl, rfl, rfl, rfl⟩⟩), zFm_trans z2 (zFm_trans y2 x2), ⟨by rw [zsi_len]; exact hc2, hk, hh, hg, sn1, z4, x3⟩, cLe_trans l2 (cLe_set hc2 (by omega) (by omega : 0 ≤ (1 : Int) ∧ (1 : Int) ≤ 1)) (by omega), -1, z5, Or.inl ⟨rfl, rfl⟩⟩
  · right
    have hxm := List.mem_of_getElem? hx
    have hok := h6.2.1.1
    obtain ⟨d0, d1, d2, d3⟩ := hol_dis (by omega) hok hg hxm
    have hle := hhit.1
    have hjl := (List.getElem?_eq_some_iff.mp hx).1
    have hHl : (holF 1 B).length ≤ 128 := y3.2.2.1.2.1
    obtain ⟨sp, s1, s2, s3⟩ := zc_splits_1 (sc := sc) (w := w2) (m := m) (x := x.2) (y := room) (by omega) (by omega)
    obtain ⟨w3, x1, x2, x3⟩ := zc_count_1 (sc := sc) y3 hc2 (x := 1) (v := sp) (by omega)
    have hc3 : (zsi (zsi cn 0 (zgi cn 0 + sn1)) 1 (zgi (zsi cn 0 (zgi cn 0 + sn1)) 1 + sp)).length = 5 := by rw [zsi_len]; exact hc2
    obtain ⟨w4, X, Y, e0, u1, u2, u3⟩ := zc_put (sc := sc) (b := (n, x.1, z, room)) x3.2.1 hB (by dsimp only; omega) (fun y hy => ⟨hnb y hy, by have := d3 y hy; dsimp only; omega⟩)
    have r4 := sR_B x3 u2 u3
    have hg4 : gcB 1 (X ++ (n, x.1, z, room) :: Y) := gc_put (by omega) (e0 ▸ hok) (e0 ▸ hg) (e0 ▸ hxm) hr hhit
    obtain ⟨w5, t1, t2, t3⟩ := zc_layOut_1 (sc := sc) r4 (pgF_len _) hg4
    have p1 := zc_hPlace_t (sc := sc) y3.2.2.1 hx
    have p2 := zc_hSize_t (sc := sc) y3.2.2.1 hx
    rw [← e] at p1 p2
    have hf5 : zFm w w5 m (msz 1) := zFm_trans z2 (zFm_trans y2 (zFm_trans x2 (zFm_trans (zFm_B u2) t2)))
    have hsel : selP 1 (k.1) hn (holF 1 B) room x.1 := ⟨r, z5, Or.inr ⟨j, x, e, hx, hhit, rfl⟩⟩
    have hcl : cLe cn (zsi (zsi cn 0 (zgi cn 0 + sn1)) 1 (zgi (zsi cn 0 (zgi cn 0 + sn1)) 1 + sp)) 150 := cLe_trans l2 (cLe_set hc2 (by omega) (by omega : 0 ≤ sp ∧ sp ≤ 10)) (by omega)
    by_cases hw1 : k.1 = 1
    · obtain ⟨w6, q1, q2, q3⟩ := zc_handBehind_1 (sc := sc) t3 (e := x.1 + room) (by omega)
      refine ⟨w6, _, X, Y, x.1, e0, Zc_of rfl rfl (V63_0_1 h6.1 ⟨_, w1, z1, _, _, _, _, _, _, _, _, _, z3.1, w2, y1, by omega, fun _ => ⟨_, _, _, _, _, _, _, _, _, y3.1, _, y3.2.2.1.ob, _, p1, _, p2, sp, s1, w3, x1, _, _, _, _, _, _, _, _, _, x3.1, _, x3.2.1.ob, w4, u1, _, r4.1, w5, t1, _, _, _, _, _, _, _, _, _, t3.1, by omega, fun q => absurd hw1 q, fun _ => ⟨w6, q1, rfl, rfl, rfl, rfl⟩⟩, fun q => by omega⟩), zFm_trans hf5 q2, ⟨hc3, hk, ?_, hg4, sn1, z4, ?_⟩, hcl, hsel, d0⟩
      · unfold hnF
        rw [if_pos hw1]
        split <;> omega
      · unfold hnF
        rw [if_pos hw1]
        exact q3
    · refine ⟨w5, _, X, Y, x.1, e0, Zc_of rfl rfl (V63_0_1 h6.1 ⟨_, w1, z1, _, _, _, _, _, _, _, _, _, z3.1, w2, y1, by omega, fun _ => ⟨_, _, _, _, _, _, _, _, _, y3.1, _, y3.2.2.1.ob, _, p1, _, p2, sp, s1, w3, x1, _, _, _, _, _, _, _, _, _, x3.1, _, x3.2.1.ob, w4, u1, _, r4.1, w5, t1, _, _, _, _, _, _, _, _, _, t3.1, by omega, fun _ => ⟨rfl, rfl, rfl, rfl⟩, fun q => absurd hw1 q⟩, fun q => by omega⟩), hf5, ⟨hc3, hk, ?_, hg4, sn1, z4, ?_⟩, hcl, hsel, d0⟩
      · unfold hnF
        rw [if_neg hw1]
        exact hh
      · unfold hnF
        rw [if_neg hw1]
        exact t3
theorem zc_release_2 (h : sQ w 2 m k hn cn (X ++ b :: Y)) : ∃ w' cn', Zc sc 83 [zp m, zj b.1] w none w' 0 0 ∧ zFm w w' m (msz 2) ∧ sQ w' 2 m k hn cn' (X ++ Y) ∧ cLe cn cn' 10 := by
  obtain ⟨hc, hk, hh, hg, sn, hs, h6⟩ := h
  have hb : b ∈ X ++ b :: Y := by simp
  have gb := h6.2.1.1.2 b hb
  have hg' : gcB 2 (X ++ Y) := gc_sub hg (fun x hx => mem_mid.mpr (Or.inl hx))
  obtain ⟨w1, z1, z2, z3⟩ := zc_remove (sc := sc) h6.2.1
  have r1 := sR_B h6 z2 z3
  obtain ⟨w2, y1, y2, y3⟩ := zc_layOut_2 (sc := sc) r1 (pgF_len _) hg'
  obtain ⟨v, v1, v2, v3⟩ := zc_joins_2 (sc := sc) y3 (p := b.2.1) (r := b.2.2.2) (by omega) (by omega)
  obtain ⟨w3, x1, x2, x3⟩ := zc_count_2 (sc := sc) y3 hc (x := 2) (v := v) (by omega)
  exact ⟨w3, _, Zc_of rfl rfl (V83_0_2 h6.1 ⟨_, h6.2.1.ob, _, zc_has_t h6.2.1 hb, by omega, fun _ => ⟨_, zc_placeOf_t h6.2.1 hb, _, zc_roomOf_t h6.2.1 hb, w1, z1, _, r1.1, w2, y1, _, y3.1, v, v1, w3, x1, rfl, rfl, rfl, rfl⟩, fun q => by omega⟩), zFm_trans (zFm_B z2) (zFm_trans y2 x2), ⟨by rw [zsi_len]; exact hc, hk, hh, hg', sn, hs, x3⟩, cLe_set hc (by omega) (by omega)⟩
theorem zc_release_f_2 (h : sQ w 2 m k hn cn B) {n : Int} (hn2 : zrg n) (hb : ∀ b ∈ B, b.1 ≠ n) : Zc sc 83 [zp m, zj n] w none w 0 0 := by
  obtain ⟨hc, hk, hh, hg, sn, hs, h6⟩ := h
  exact Zc_of rfl rfl (V83_0_2 h6.1 ⟨_, h6.2.1.ob, _, zc_has_f h6.2.1 hn2 hb, by omega, fun q => absurd rfl q, fun _ => ⟨rfl, rfl, rfl, rfl⟩⟩)
theorem zc_settle_2 (h : sQ w 2 m k hn cn B) (hB : B.length ≤ 80) {n z room : Int} (hn0 : 0 ≤ n ∧ n ≤ 80) (hnb : ∀ b ∈ B, b.1 ≠ n) (hz : 1 ≤ z ∧ z ≤ 300) (hr : rOK 2 room) :
    (∃ w' cn', Zc sc 63 [zp m, zj n, zj z, zj room] w (some (zj 0)) w' 0 0 ∧ zFm w w' m (msz 2) ∧ sQ w' 2 m k hn cn' B ∧ cLe cn cn' 150 ∧ selP 2 (k.1) hn (holF 2 B) room (-1)) ∨
    (∃ w' cn' X Y p, B = X ++ Y ∧ Zc sc 63 [zp m, zj n, zj z, zj room] w (some (zj 1)) w' 0 0 ∧ zFm w w' m (msz 2) ∧ sQ w' 2 m k (hnF (k.1) hn p room) cn' (X ++ (n, p, z, room) :: Y) ∧ cLe cn cn' 150 ∧ selP 2 (k.1) hn (holF 2 B) room p ∧ 0 ≤ p) := by
  obtain ⟨hc, hk, hh, hg, sn, hs, h6⟩ := h
  have hkw := hk.1
  have hroom := rOK_rg (by omega) hr
  obtain ⟨r, w1, sn1, z1, z2, z3, z4, z5⟩ := zc_search_2 (sc := sc) h6 hs hk hh (room := room) (by omega)
  obtain ⟨w2, y1, y2, y3⟩ := zc_count_2 (sc := sc) z3 hc (x := 0) (v := sn1) (by omega)
  have hc2 : (zsi cn 0 (zgi cn 0 + sn1)).length = 5 := by rw [zsi_len]; exact hc
  have l2 : cLe cn (zsi cn 0 (zgi cn 0 + sn1)) 128 := cLe_set hc (by omega) (by omega)
  rcases selF_hit (by omega) z5 with e | ⟨j, x, e, hx, hhit⟩
  · subst e
    left
    obtain ⟨w3, x1, x2, x3⟩ := zc_count_2 (sc := sc) y3 hc2 (x := 4) (v := 1) (by omega)
    exact ⟨w3, _, Zc_of rfl rfl (V63_0_2 h6.1 ⟨_, w1, z1, _, _, _, _, _, _, _, _, _, z3.1, w2, y1, by omega, fun q => by omega, fun _ => ⟨_, y3.1, w3, x1, rfl, rfl, rfl, rfl⟩⟩), zFm_trans z2 (zFm_trans y2 x2), ⟨by rw [zsi_len]; exact hc2, hk, hh, hg, sn1, z4, x3⟩, cLe_trans l2 (cLe_set hc2 (by omega) (by omega : 0 ≤ (1 : Int) ∧ (1 : Int) ≤ 1)) (by omega), -1, z5, Or.inl ⟨rfl, rfl⟩⟩
  · right
    have hxm := List.mem_of_getElem? hx
    have hok := h6.2.1.1
    obtain ⟨d0, d1, d2, d3⟩ := hol_dis (by omega) hok hg hxm
    have hle := hhit.1
    have hjl := (List.getElem?_eq_some_iff.mp hx).1
    have hHl : (holF 2 B).length ≤ 128 := y3.2.2.1.2.1
    obtain ⟨sp, s1, s2, s3⟩ := zc_splits_2 (sc := sc) (w := w2) (m := m) (x := x.2) (y := room) (by omega) (by omega)
    obtain ⟨w3, x1, x2, x3⟩ := zc_count_2 (sc := sc) y3 hc2 (x := 1) (v := sp) (by omega)
    have hc3 : (zsi (zsi cn 0 (zgi cn 0 + sn1)) 1 (zgi (zsi cn 0 (zgi cn 0 + sn1)) 1 + sp)).length = 5 := by rw [zsi_len]; exact hc2
    obtain ⟨w4, X, Y, e0, u1, u2, u3⟩ := zc_put (sc := sc) (b := (n, x.1, z, room)) x3.2.1 hB (by dsimp only; omega) (fun y hy => ⟨hnb y hy, by have := d3 y hy; dsimp only; omega⟩)
    have r4 := sR_B x3 u2 u3
    have hg4 : gcB 2 (X ++ (n, x.1, z, room) :: Y) := gc_put (by omega) (e0 ▸ hok) (e0 ▸ hg) (e0 ▸ hxm) hr hhit
    obtain ⟨w5, t1, t2, t3⟩ := zc_layOut_2 (sc := sc) r4 (pgF_len _) hg4
    have p1 := zc_hPlace_t (sc := sc) y3.2.2.1 hx
    have p2 := zc_hSize_t (sc := sc) y3.2.2.1 hx
    rw [← e] at p1 p2
    have hf5 : zFm w w5 m (msz 2) := zFm_trans z2 (zFm_trans y2 (zFm_trans x2 (zFm_trans (zFm_B u2) t2)))
    have hsel : selP 2 (k.1) hn (holF 2 B) room x.1 := ⟨r, z5, Or.inr ⟨j, x, e, hx, hhit, rfl⟩⟩
    have hcl : cLe cn (zsi (zsi cn 0 (zgi cn 0 + sn1)) 1 (zgi (zsi cn 0 (zgi cn 0 + sn1)) 1 + sp)) 150 := cLe_trans l2 (cLe_set hc2 (by omega) (by omega : 0 ≤ sp ∧ sp ≤ 10)) (by omega)
    by_cases hw1 : k.1 = 1
    · obtain ⟨w6, q1, q2, q3⟩ := zc_handBehind_2 (sc := sc) t3 (e := x.1 + room) (by omega)
      refine ⟨w6, _, X, Y, x.1, e0, Zc_of rfl rfl (V63_0_2 h6.1 ⟨_, w1, z1, _, _, _, _, _, _, _, _, _, z3.1, w2, y1, by omega, fun _ => ⟨_, _, _, _, _, _, _, _, _, y3.1, _, y3.2.2.1.ob, _, p1, _, p2, sp, s1, w3, x1, _, _, _, _, _, _, _, _, _, x3.1, _, x3.2.1.ob, w4, u1, _, r4.1, w5, t1, _, _, _, _, _, _, _, _, _, t3.1, by omega, fun q => absurd hw1 q, fun _ => ⟨w6, q1, rfl, rfl, rfl, rfl⟩⟩, fun q => by omega⟩), zFm_trans hf5 q2, ⟨hc3, hk, ?_, hg4, sn1, z4, ?_⟩, hcl, hsel, d0⟩
      · unfold hnF
        rw [if_pos hw1]
        split <;> omega
      · unfold hnF
        rw [if_pos hw1]
        exact q3
    · refine ⟨w5, _, X, Y, x.1, e0, Zc_of rfl rfl (V63_0_2 h6.1 ⟨_, w1, z1, _, _, _, _, _, _, _, _, _, z3.1, w2, y1, by omega, fun _ => ⟨_, _, _, _, _, _, _, _, _, y3.1, _, y3.2.2.1.ob, _, p1, _, p2, sp, s1, w3, x1, _, _, _, _, _, _, _, _, _, x3.1, _, x3.2.1.ob, w4, u1, _, r4.1, w5, t1, _, _, _, _, _, _, _, _, _, t3.1, by omega, fun _ => ⟨rfl, rfl, rfl, rfl⟩, fun q => absurd hw1 q⟩, fun q => by omega⟩), hf5, ⟨hc3, hk, ?_, hg4, sn1, z4, ?_⟩, hcl, hsel, d0⟩
      · unfold hnF
        rw [if_neg hw1]
        exact hh
      · unfold hnF
        rw [if_neg hw1]
        exact t3
theorem zc_release_4 (h : sQ w 4 m k hn cn (X ++ b :: Y)) : ∃ w' cn', Zc sc 83 [zp m, zj b.1] w none w' 0 0 ∧ zFm w w' m (msz 4) ∧ sQ w' 4 m k hn cn' (X ++ Y) ∧ cLe cn cn' 10 := by
  obtain ⟨hc, hk, hh, hg, sn, hs, h6⟩ := h
  have hb : b ∈ X ++ b :: Y := by simp
  have gb := h6.2.1.1.2 b hb
  have hg' : gcB 4 (X ++ Y) := gc_sub hg (fun x hx => mem_mid.mpr (Or.inl hx))
  obtain ⟨w1, z1, z2, z3⟩ := zc_remove (sc := sc) h6.2.1
  have r1 := sR_B h6 z2 z3
  obtain ⟨w2, y1, y2, y3⟩ := zc_layOut_4 (sc := sc) r1 (pgF_len _) hg'
  obtain ⟨v, v1, v2, v3⟩ := zc_joins_4 (sc := sc) y3 (p := b.2.1) (r := b.2.2.2) (by omega) (by omega)
  obtain ⟨w3, x1, x2, x3⟩ := zc_count_4 (sc := sc) y3 hc (x := 2) (v := v) (by omega)
  exact ⟨w3, _, Zc_of rfl rfl (V83_0_4 h6.1 ⟨_, h6.2.1.ob, _, zc_has_t h6.2.1 hb, by omega, fun _ => ⟨_, zc_placeOf_t h6.2.1 hb, _, zc_roomOf_t h6.2.1 hb, w1, z1, _, r1.1, w2, y1, _, y3.1, v, v1, w3, x1, rfl, rfl, rfl, rfl⟩, fun q => by omega⟩), zFm_trans (zFm_B z2) (zFm_trans y2 x2), ⟨by rw [zsi_len]; exact hc, hk, hh, hg', sn, hs, x3⟩, cLe_set hc (by omega) (by omega)⟩
theorem zc_release_f_4 (h : sQ w 4 m k hn cn B) {n : Int} (hn2 : zrg n) (hb : ∀ b ∈ B, b.1 ≠ n) : Zc sc 83 [zp m, zj n] w none w 0 0 := by
  obtain ⟨hc, hk, hh, hg, sn, hs, h6⟩ := h
  exact Zc_of rfl rfl (V83_0_4 h6.1 ⟨_, h6.2.1.ob, _, zc_has_f h6.2.1 hn2 hb, by omega, fun q => absurd rfl q, fun _ => ⟨rfl, rfl, rfl, rfl⟩⟩)
theorem zc_settle_4 (h : sQ w 4 m k hn cn B) (hB : B.length ≤ 80) {n z room : Int} (hn0 : 0 ≤ n ∧ n ≤ 80) (hnb : ∀ b ∈ B, b.1 ≠ n) (hz : 1 ≤ z ∧ z ≤ 300) (hr : rOK 4 room) :
    (∃ w' cn', Zc sc 63 [zp m, zj n, zj z, zj room] w (some (zj 0)) w' 0 0 ∧ zFm w w' m (msz 4) ∧ sQ w' 4 m k hn cn' B ∧ cLe cn cn' 150 ∧ selP 4 (k.1) hn (holF 4 B) room (-1)) ∨
    (∃ w' cn' X Y p, B = X ++ Y ∧ Zc sc 63 [zp m, zj n, zj z, zj room] w (some (zj 1)) w' 0 0 ∧ zFm w w' m (msz 4) ∧ sQ w' 4 m k (hnF (k.1) hn p room) cn' (X ++ (n, p, z, room) :: Y) ∧ cLe cn cn' 150 ∧ selP 4 (k.1) hn (holF 4 B) room p ∧ 0 ≤ p) := by
  obtain ⟨hc, hk, hh, hg, sn, hs, h6⟩ := h
  have hkw := hk.1
  have hroom := rOK_rg (by omega) hr
  obtain ⟨r, w1, sn1, z1, z2, z3, z4, z5⟩ := zc_search_4 (sc := sc) h6 hs (pgF_ok h6.2.1.1) (room := room) (by omega)
  obtain ⟨w2, y1, y2, y3⟩ := zc_count_4 (sc := sc) z3 hc (x := 0) (v := sn1) (by omega)
  have hc2 : (zsi cn 0 (zgi cn 0 + sn1)).length = 5 := by rw [zsi_len]; exact hc
  have l2 : cLe cn (zsi cn 0 (zgi cn 0 + sn1)) 128 := cLe_set hc (by omega) (by omega)
  rcases selF_hit (by omega) z5 with e | ⟨j, x, e, hx, hhit⟩
  · subst e
    left
    obtain ⟨w3, x1, x2, x3⟩ := zc_count_4 (sc := sc) y3 hc2 (x := 4) (v := 1) (by omega)
    exact ⟨w3, _, Zc_of rfl rfl (V63_0_4 h6.1 ⟨_, w1, z1, _, _, _, _, _, _, _, _, _, z3.1, w2, y1, by omega, fun q => by omega, fun _ => ⟨_, y3.1, w3, x1, rfl, rfl, rfl, rfl⟩⟩), zFm_trans z2 (zFm_trans y2 x2), ⟨by rw [zsi_len]; exact hc2, hk, hh, hg, sn1, z4, x3⟩, cLe_trans l2 (cLe_set hc2 (by omega) (by omega : 0 ≤ (1 : Int) ∧ (1 : Int) ≤ 1)) (by omega), -1, z5, Or.inl ⟨rfl, rfl⟩⟩
  · right
    have hxm := List.mem_of_getElem? hx
    have hok := h6.2.1.1
    obtain ⟨d0, d1, d2, d3⟩ := hol_dis (by omega) hok hg hxm
    have hle := hhit.1
    have hjl := (List.getElem?_eq_some_iff.mp hx).1
    have hHl : (holF 4 B).length ≤ 128 := y3.2.2.1.2.1
    obtain ⟨sp, s1, s2, s3⟩ := zc_splits_4 (sc := sc) (w := w2) (m := m) (x := x.2) (y := room) (by omega) (by omega)
    obtain ⟨w3, x1, x2, x3⟩ := zc_count_4 (sc := sc) y3 hc2 (x := 1) (v := sp) (by omega)
    have hc3 : (zsi (zsi cn 0 (zgi cn 0 + sn1)) 1 (zgi (zsi cn 0 (zgi cn 0 + sn1)) 1 + sp)).length = 5 := by rw [zsi_len]; exact hc2
    obtain ⟨w4, X, Y, e0, u1, u2, u3⟩ := zc_put (sc := sc) (b := (n, x.1, z, room)) x3.2.1 hB (by dsimp only; omega) (fun y hy => ⟨hnb y hy, by have := d3 y hy; dsimp only; omega⟩)
    have r4 := sR_B x3 u2 u3
    have hg4 : gcB 4 (X ++ (n, x.1, z, room) :: Y) := gc_put (by omega) (e0 ▸ hok) (e0 ▸ hg) (e0 ▸ hxm) hr hhit
    obtain ⟨w5, t1, t2, t3⟩ := zc_layOut_4 (sc := sc) r4 (pgF_len _) hg4
    have p1 := zc_hPlace_t (sc := sc) y3.2.2.1 hx
    have p2 := zc_hSize_t (sc := sc) y3.2.2.1 hx
    rw [← e] at p1 p2
    have hf5 : zFm w w5 m (msz 4) := zFm_trans z2 (zFm_trans y2 (zFm_trans x2 (zFm_trans (zFm_B u2) t2)))
    have hsel : selP 4 (k.1) hn (holF 4 B) room x.1 := ⟨r, z5, Or.inr ⟨j, x, e, hx, hhit, rfl⟩⟩
    have hcl : cLe cn (zsi (zsi cn 0 (zgi cn 0 + sn1)) 1 (zgi (zsi cn 0 (zgi cn 0 + sn1)) 1 + sp)) 150 := cLe_trans l2 (cLe_set hc2 (by omega) (by omega : 0 ≤ sp ∧ sp ≤ 10)) (by omega)
    by_cases hw1 : k.1 = 1
    · obtain ⟨w6, q1, q2, q3⟩ := zc_handBehind_4 (sc := sc) t3 (e := x.1 + room) (by omega)
      refine ⟨w6, _, X, Y, x.1, e0, Zc_of rfl rfl (V63_0_4 h6.1 ⟨_, w1, z1, _, _, _, _, _, _, _, _, _, z3.1, w2, y1, by omega, fun _ => ⟨_, _, _, _, _, _, _, _, _, y3.1, _, y3.2.2.1.ob, _, p1, _, p2, sp, s1, w3, x1, _, _, _, _, _, _, _, _, _, x3.1, _, x3.2.1.ob, w4, u1, _, r4.1, w5, t1, _, _, _, _, _, _, _, _, _, t3.1, by omega, fun q => absurd hw1 q, fun _ => ⟨w6, q1, rfl, rfl, rfl, rfl⟩⟩, fun q => by omega⟩), zFm_trans hf5 q2, ⟨hc3, hk, ?_, hg4, sn1, z4, ?_⟩, hcl, hsel, d0⟩
      · unfold hnF
        rw [if_pos hw1]
        split <;> omega
      · unfold hnF
        rw [if_pos hw1]
        exact q3
    · refine ⟨w5, _, X, Y, x.1, e0, Zc_of rfl rfl (V63_0_4 h6.1 ⟨_, w1, z1, _, _, _, _, _, _, _, _, _, z3.1, w2, y1, by omega, fun _ => ⟨_, _, _, _, _, _, _, _, _, y3.1, _, y3.2.2.1.ob, _, p1, _, p2, sp, s1, w3, x1, _, _, _, _, _, _, _, _, _, x3.1, _, x3.2.1.ob, w4, u1, _, r4.1, w5, t1, _, _, _, _, _, _, _, _, _, t3.1, by omega, fun _ => ⟨rfl, rfl, rfl, rfl⟩, fun q => absurd hw1 q⟩, fun q => by omega⟩), hf5, ⟨hc3, hk, ?_, hg4, sn1, z4, ?_⟩, hcl, hsel, d0⟩
      · unfold hnF
        rw [if_neg hw1]
        exact hh
      · unfold hnF
        rw [if_neg hw1]
        exact t3
end MOV
