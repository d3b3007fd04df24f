/-! ===== the pool beside the lab: another size, the whole ===== -/
section RSW
variable {sc : List Value} {w w' : List zE} {q : Nat} {x x' : ps_T} {ow ow' sz rm am cn de : List Int} {B B' X Y : List bk_T} {S : List Int} {wy : Nat} {st hd : Int} {D : List dd_T} {K : Nat → mk_T} {HN : Nat → Int} {CN : Nat → List Int} {BB : Nat → List bk_T}
theorem okB_split {p n : Int} (hn : 1 ≤ n) : ∀ (B : List bk_T), okB B → (∀ b ∈ B, b.2.1 + b.2.2.2 ≤ p ∨ p + n ≤ b.2.1) → ∃ X Y, B = X ++ Y ∧ (∀ y ∈ X, y.2.1 + y.2.2.2 ≤ p) ∧ ∀ y ∈ Y, p + n ≤ y.2.1 := by
  intro B
  induction B with
  | nil => intro _ _; exact ⟨[], [], rfl, fun y hy => (by cases hy), fun y hy => (by cases hy)⟩
  | cons b B ih =>
    intro hok hd
    have hm := (okB_mid (X := [])).mp hok
    have gb := hok.2 b List.mem_cons_self
    rcases hd b List.mem_cons_self with h | h
    · obtain ⟨X, Y, e1, e2, e3⟩ := ih hm.1 (fun y hy => hd y (List.mem_cons_of_mem _ hy))
      refine ⟨b :: X, Y, by rw [e1]; rfl, fun y hy => ?_, e3⟩
      rcases List.mem_cons.mp hy with rfl | hy
      · exact h
      · exact e2 y hy
    · refine ⟨[], b :: B, rfl, fun y hy => (by cases hy), fun y hy => ?_⟩
      rcases List.mem_cons.mp hy with rfl | hy
      · exact h
      · have := (hm.2.2.1 y hy).2
        omega
theorem clsL_2 (h : wy < 6) : clsL wy = 2 ↔ wy < 4 := by
  have : wy = 0 ∨ wy = 1 ∨ wy = 2 ∨ wy = 3 ∨ wy = 4 ∨ wy = 5 := by omega
  rcases this with rfl | rfl | rfl | rfl | rfl | rfl <;> decide
theorem zp_resize (h : LK w q wy st hd D K HN CN BB x ow sz rm am cn de) (hD : D.length < 150) {b : bk_T} (hb : b ∈ BB wy) {z : Int} (hz : 1 ≤ z ∧ z ≤ 300) : actR sc w q wy st hd D K HN CN BB x 143 [zp q, zj b.1, zj z] := by
  obtain ⟨hL, ⟨hC, ⟨x1, x2, x3, x4, x5, x6⟩, hR, hS, hA, hP, ha⟩, hde⟩ := id h
  obtain ⟨hok, hg, hhn, hk, hnmB, hw6, hkw, hrm⟩ := sL_facts hL
  obtain ⟨-, k2, k3, k4, -, -, -, k8, -⟩ := id hk
  obtain ⟨g0, g1, g2, g3, g4, g5, g6, g7, ⟨l1, l2, l3, l4, l5⟩, g9⟩ := id hC
  have k4' : (K wy).2.2.2.1 ≤ 80 := k4.2
  have gb := hok.2 b hb
  have nb := hnmB b hb
  have hc2 := clsL_2 hw6
  have hx1 : x.2.1 = wy := x1
  have hsb := hS b hb
  have z0 := zp_place_t (sc := sc) hC hok hR hb
  have zr : Zc sc 123 [zp q, zj z] w (some (zj (roomF (clsL wy) (x.2.2.1) (x.2.2.2.1) z))) w 0 0 := zp_roomOf (sc := sc) hC x1 hw6 (by rw [x2]; exact k2) (by rw [x3]; exact k3) hz
  have er : roomF (clsL wy) (x.2.2.1) (x.2.2.2.1) z = rmF (clsL wy) (K wy) z := by rw [x2, x3]; rfl
  rw [er] at zr
  have hro : rOK (clsL wy) (rmF (clsL wy) (K wy) z) := rOK_room (clsL_c wy) k2 k3 hz
  have hr1 := rOK_rg (clsL_c wy) hro
  have hwhat := fun {w0 : List zE} {k1 : mk_T} {hn1 : Int} {cn1 : List Int} {B1 : List bk_T} (pd : PD w0 (q + 1) wy st hd D K HN CN BB (2, b.1, z) k1 hn1 cn1 B1) => rz_what hok hb pd
  generalize eN : rmF (clsL wy) (K wy) z = N at *
  have hCx : sC w q (xhF x (HN wy)) ow sz rm am cn de := by
    have : HN wy = x.2.2.2.2.2.2.1 := x6.symm
    rw [this]
    exact hC
  -- the whole, from 39 on
  have up : ∀ {w' : List zE} {c s : Nat} {x6 : Int}, ((N ≠ b.2.2.2 ∧ x6 = 0) ∨ (N = b.2.2.2 ∧ x6 = 1)) → Zr sc 143 39 [zp q, zj b.1, zj z, zj b.2.1, zj N, zj b.2.2.2, zj x6, zmk] [] w (some (zj 1)) w' c s → Zc sc 143 [zp q, zj b.1, zj z] w (some (zj 1)) w' c s := fun {w' c s x6} hx hz => by
    rcases hx with ⟨h1, rfl⟩ | ⟨h1, rfl⟩
    · exact Zc_of rfl rfl (V143_0 g0 g3 ⟨_, z0, _, zr, by omega, by omega, fun q => by omega, fun _ => ⟨by omega, fun _ => by rw [hsb.2.1]; exact hz, fun q => absurd (by rw [hsb.2.1]; exact h1) q⟩⟩)
    · exact Zc_of rfl rfl (V143_0 g0 g3 ⟨_, z0, _, zr, by omega, by omega, fun q => by omega, fun _ => ⟨by omega, fun q => absurd (by rw [hsb.2.1]; exact h1) q, fun _ => by rw [hsb.2.1]; exact hz⟩⟩)
  -- it stays where it is: from 112 on
  have stays : (N = b.2.2.2 ∨ (clsL wy = 2 ∧ (N < b.2.2.2 ∨ (b.2.1 + N ≤ 1024 ∧ ∀ y ∈ BB wy, b.2.1 < y.2.1 → b.2.1 + N ≤ y.2.1)))) → ∀ (w5 : List zE) (ow5 cn5 : List Int), sC w5 q x ow5 sz rm am cn5 de → zF2 w w5 q → (∀ u : Int, 0 ≤ u → zgi ow5 u = if b.2.1 ≤ u ∧ u < b.2.1 + N then b.1 else if b.2.1 ≤ u ∧ u < b.2.1 + b.2.2.2 then -1 else zgi ow u) →
      ∃ w' k1 hn1 cn1 B1 x' sz' rm' cn' de', Zr sc 143 204 [zp q, zj b.1, zj z, zj b.2.1, zj N, zj b.2.2.2, zj 1, zmk] [] w5 (some (zj 1)) w' 1 (de.length + 3) ∧ zFm w w' q 78 ∧ PD w' (q + 1) wy st hd D K HN CN BB (2, b.1, z) k1 hn1 cn1 B1 ∧ pLK w' q wy k1 hn1 B1 x' ow5 sz' rm' am cn' de' ∧ de'.length = de.length + 3 ∧ x'.1 = x.1 := fun hfit w5 ow5 cn5 h5 f5 how => by
    have h5x : sC w5 q (xhF x (HN wy)) ow5 sz rm am cn5 de := by
      have : HN wy = x.2.2.2.2.2.2.1 := x6.symm
      rw [this]
      exact h5
    obtain ⟨w', k1, hn1, cn1, B1, x', sz', rm', cn', de', m1, m2⟩ := rs_tail (sc := sc) h hD hb hz (pl := b.2.1) (hnx := HN wy) (x6 := 1) (fun pd => by
      obtain ⟨e1, ⟨e2, e3, -⟩ | ⟨e2, -⟩⟩ := hwhat pd
      · rw [eN]
        exact ⟨e1, e2, Or.inl ⟨gb.2.2.1, e3⟩⟩
      · exact absurd hfit e2) h5x f5 (fun _ _ _ => rfl) (fun _ => by rw [eN]; exact how) (fun q => by omega)
    rw [eN] at m1
    obtain ⟨g0, g1, g2, g3, g4, g5, -⟩ := id h5
    exact ⟨w', k1, hn1, cn1, B1, x', sz', rm', cn', de', V143_204 g0 ⟨by omega, fun q => by omega, fun _ => V143_221 g0 g5 ⟨by omega, fun _ => V143_241 g0 g5 g2 g3 ⟨by omega, fun q => by omega, fun _ => ⟨by omega, fun _ => m1, fun q => absurd (by decide : (1 : Int) ≠ 0) q⟩⟩, fun q => by omega⟩⟩, m2⟩
  by_cases cE : N = b.2.2.2
  · obtain ⟨w', k1, hn1, cn1, B1, x', sz', rm', cn', de', m1, m2, m3, m4, m5, m6⟩ := stays (Or.inl cE) w ow cn hC (zF2_refl _ _) (fun u hu => by
      split
      · exact hR.1 b hb u (by omega) (by omega)
      · rw [if_neg (by omega)])
    exact ⟨w', 1, de.length + 3, _, k1, hn1, cn1, B1, x', ow, _, _, _, cn', de', up (Or.inr ⟨cE, rfl⟩) (V143_39 g0 g5 g1 ⟨by omega, fun _ => V143_112 g0 ⟨by omega, fun _ => m1, fun q => absurd (by decide : (1 : Int) ≠ 0) q⟩, fun q => absurd (by decide : (1 : Int) ≠ 0) q⟩), by omega, by omega, m2, m3.1, LK_of m3 m4 (by omega), m6⟩
  -- it shrinks where it is
  by_cases cS : wy < 4 ∧ N < b.2.2.2
  · have sh : ∀ v : Int, ∃ w5 w' k1 hn1 cn1 B1 x' ow5 sz' rm' cn' de', Zc sc 131 [zp q, zj (b.2.1 + N), zj (b.2.2.2 - N), zj (-1)] (w.set (q + 77) (za (zsi cn 2 v))) none w5 0 0 ∧ Zr sc 143 112 [zp q, zj b.1, zj z, zj b.2.1, zj N, zj b.2.2.2, zj 1, zmk] [] w5 (some (zj 1)) w' 1 (de.length + 3) ∧ zFm w w' q 78 ∧ PD w' (q + 1) wy st hd D K HN CN BB (2, b.1, z) k1 hn1 cn1 B1 ∧ pLK w' q wy k1 hn1 B1 x' ow5 sz' rm' am cn' de' ∧ de'.length = de.length + 3 ∧ x'.1 = x.1 := fun v => by
      obtain ⟨s1, s2⟩ := sC_cn hC (cn' := zsi cn 2 v) (by rw [zsi_len]; exact l5)
      obtain ⟨w5, ow5, n1, n2, n3, n4⟩ := zp_fill (sc := sc) s1 (f := b.2.1 + N) (n := b.2.2.2 - N) (v := -1) (by omega) (by omega) (by omega)
      obtain ⟨w', k1, hn1, cn1, B1, x', sz', rm', cn', de', m1, m2⟩ := stays (Or.inr ⟨hc2.mpr cS.1, Or.inl cS.2⟩) w5 ow5 _ n3 (zF2_trans (zF2_of s2 (by omega)) (zF2_of n2 (by omega))) (fun u hu => by
        rw [n4.2 u hu]
        by_cases c1 : b.2.1 ≤ u ∧ u < b.2.1 + N
        · rw [if_neg (by omega), if_pos c1]
          exact hR.1 b hb u c1.1 (by omega)
        · rw [if_neg c1]
          by_cases c2 : b.2.1 ≤ u ∧ u < b.2.1 + b.2.2.2
          · rw [if_pos c2, if_pos (by omega)]
          · rw [if_neg c2, if_neg (by omega)])
      exact ⟨w5, w', k1, hn1, cn1, B1, x', ow5, sz', rm', cn', de', n1, V143_112 n3.1 ⟨by omega, fun _ => m1, fun q => absurd (by decide : (1 : Int) ≠ 0) q⟩, m2⟩
    by_cases c1 : 1024 ≤ b.2.1 + b.2.2.2
    · obtain ⟨w5, w', k1, hn1, cn1, B1, x', ow5, sz', rm', cn', de', n1, m1, m2, m3, m4, m5, m6⟩ := sh (zgi cn 2 + 0)
      exact ⟨w', 1, de.length + 3, _, k1, hn1, cn1, B1, x', ow5, _, _, _, cn', de', up (Or.inl ⟨cE, rfl⟩) (V143_39 g0 g5 g1 ⟨by omega, fun q => absurd rfl q, fun _ => ⟨by omega, fun q => by omega, fun _ => ⟨by omega, fun q => by omega, fun _ => ⟨by omega, by omega, fun _ => ⟨by omega, w5, n1, m1⟩, fun q => absurd c1 q⟩⟩⟩⟩), by omega, by omega, m2, m3.1, LK_of m3 m4 (by omega), m6⟩
    · have hf := (RO_free hok hR (u := b.2.1 + b.2.2.2) (by omega) (by omega)).1
      by_cases c2 : 0 ≤ zgi ow (b.2.1 + b.2.2.2)
      · obtain ⟨w5, w', k1, hn1, cn1, B1, x', ow5, sz', rm', cn', de', n1, m1, m2, m3, m4, m5, m6⟩ := sh (zgi cn 2 + 0)
        exact ⟨w', 1, de.length + 3, _, k1, hn1, cn1, B1, x', ow5, _, _, _, cn', de', up (Or.inl ⟨cE, rfl⟩) (V143_39 g0 g5 g1 ⟨by omega, fun q => absurd rfl q, fun _ => ⟨by omega, fun q => by omega, fun _ => ⟨by omega, fun q => by omega, fun _ => ⟨by omega, by omega, fun q => absurd q c1, fun _ => ⟨by omega, by omega, fun _ => ⟨by omega, w5, n1, m1⟩, fun q => absurd c2 q⟩⟩⟩⟩⟩), by omega, by omega, m2, m3.1, LK_of m3 m4 (by omega), m6⟩
      · obtain ⟨w5, w', k1, hn1, cn1, B1, x', ow5, sz', rm', cn', de', n1, m1, m2, m3, m4, m5, m6⟩ := sh (zgi cn 2 + 1)
        exact ⟨w', 1, de.length + 3, _, k1, hn1, cn1, B1, x', ow5, _, _, _, cn', de', up (Or.inl ⟨cE, rfl⟩) (V143_39 g0 g5 g1 ⟨by omega, fun q => absurd rfl q, fun _ => ⟨by omega, fun q => by omega, fun _ => ⟨by omega, fun q => by omega, fun _ => ⟨by omega, by omega, fun q => absurd q c1, fun _ => ⟨by omega, by omega, fun q => absurd q c2, fun _ => ⟨by omega, w5, n1, m1⟩⟩⟩⟩⟩⟩), by omega, by omega, m2, m3.1, LK_of m3 m4 (by omega), m6⟩
  -- from 39 to 112 nothing happens
  have to112 : ∀ {w' : List zE} {c s : Nat}, Zr sc 143 112 [zp q, zj b.1, zj z, zj b.2.1, zj N, zj b.2.2.2, zj 0, zmk] [] w (some (zj 1)) w' c s → Zc sc 143 [zp q, zj b.1, zj z] w (some (zj 1)) w' c s := fun {w' c s} m1 => up (Or.inl ⟨cE, rfl⟩) (by
    by_cases c4 : 4 ≤ x.2.1
    · exact V143_39 g0 g5 g1 ⟨by omega, fun q => absurd rfl q, fun _ => ⟨by omega, fun _ => m1, fun q => absurd c4 q⟩⟩
    · exact V143_39 g0 g5 g1 ⟨by omega, fun q => absurd rfl q, fun _ => ⟨by omega, fun q => absurd q c4, fun _ => ⟨by omega, fun _ => m1, fun q => by omega⟩⟩⟩)
  -- it grows where it is
  by_cases cG : wy < 4 ∧ b.2.1 + N ≤ 1024 ∧ ∀ y ∈ BB wy, b.2.1 < y.2.1 → b.2.1 + N ≤ y.2.1
  · have hlt : b.2.2.2 < N := by omega
    obtain ⟨r, z1, z2⟩ := zp_isFree (sc := sc) hC hok hR (f := b.2.1 + b.2.2.2) (n := N - b.2.2.2) (by omega) (by omega) (by omega)
    have hr : r = 1 := by
      rcases z2 with ⟨h1, -⟩ | ⟨h1, u, u1, u2, u3⟩
      · exact h1
      · obtain ⟨y, hy, e1, e2, e3⟩ := RO_own hR (u := u) (by omega) (by omega) u3 rfl
        have hne : b ≠ y := fun e => by subst e; omega
        have d := okB_dis hok hb hy hne
        have gy := hok.2 y hy
        have := cG.2.2 y hy (by omega)
        omega
    subst hr
    obtain ⟨w5, ow5, n1, n2, n3, n4⟩ := zp_fill (sc := sc) hC (f := b.2.1 + b.2.2.2) (n := N - b.2.2.2) (v := b.1) (by omega) (by omega) (by omega)
    have gr : ∀ v : Int, ∃ w' k1 hn1 cn1 B1 x' sz' rm' cn' de', Zr sc 143 204 [zp q, zj b.1, zj z, zj b.2.1, zj N, zj b.2.2.2, zj 1, zmk] [] (w5.set (q + 77) (za (zsi cn 1 v))) (some (zj 1)) w' 1 (de.length + 3) ∧ zFm w w' q 78 ∧ PD w' (q + 1) wy st hd D K HN CN BB (2, b.1, z) k1 hn1 cn1 B1 ∧ pLK w' q wy k1 hn1 B1 x' ow5 sz' rm' am cn' de' ∧ de'.length = de.length + 3 ∧ x'.1 = x.1 := fun v => by
      obtain ⟨s1, s2⟩ := sC_cn n3 (cn' := zsi cn 1 v) (by rw [zsi_len]; exact l5)
      exact stays (Or.inr ⟨hc2.mpr cG.1, Or.inr cG.2⟩) _ ow5 _ s1 (zF2_trans (zF2_of n2 (by omega)) (zF2_of s2 (by omega))) (fun u hu => by
        rw [n4.2 u hu]
        by_cases c1 : b.2.1 ≤ u ∧ u < b.2.1 + N
        · rw [if_pos c1]
          by_cases c2 : u < b.2.1 + b.2.2.2
          · rw [if_neg (by omega)]
            exact hR.1 b hb u c1.1 c2
          · rw [if_pos (by omega)]
        · rw [if_neg c1, if_neg (by omega), if_neg (by omega)])
    have gl : ow5.length = 1024 := n3.2.2.2.2.2.2.2.2.1.1
    by_cases c1 : 1024 ≤ b.2.1 + N
    · obtain ⟨w', k1, hn1, cn1, B1, x', sz', rm', cn', de', m1, m2, m3, m4, m5, m6⟩ := gr (zgi cn 1 + 0)
      exact ⟨w', 1, de.length + 3, _, k1, hn1, cn1, B1, x', ow5, _, _, _, cn', de', to112 (V143_112 g0 ⟨by omega, fun q => absurd rfl q, fun _ => ⟨by omega, fun q => by omega, fun _ => ⟨by omega, fun q => by omega, fun _ => ⟨_, z1, by omega, fun q => by omega, fun _ => ⟨w5, n1, _, _, _, _, _, _, _, _, _, _, n3.1, _, n3.2.2.2.2.2.1, by omega, by omega, fun _ => ⟨by omega, m1⟩, fun q => absurd c1 q⟩⟩⟩⟩⟩), by omega, by omega, m2, m3.1, LK_of m3 m4 (by omega), m6⟩
    · have hf : zrg (zgi ow5 (b.2.1 + N)) := by
        rw [n4.2 _ (by omega), if_neg (by omega)]
        have := (RO_free hok hR (u := b.2.1 + N) (by omega) (by omega)).1
        omega
      by_cases c2 : 0 ≤ zgi ow5 (b.2.1 + N)
      · obtain ⟨w', k1, hn1, cn1, B1, x', sz', rm', cn', de', m1, m2, m3, m4, m5, m6⟩ := gr (zgi cn 1 + 0)
        exact ⟨w', 1, de.length + 3, _, k1, hn1, cn1, B1, x', ow5, _, _, _, cn', de', to112 (V143_112 g0 ⟨by omega, fun q => absurd rfl q, fun _ => ⟨by omega, fun q => by omega, fun _ => ⟨by omega, fun q => by omega, fun _ => ⟨_, z1, by omega, fun q => by omega, fun _ => ⟨w5, n1, _, _, _, _, _, _, _, _, _, _, n3.1, _, n3.2.2.2.2.2.1, by omega, by omega, fun q => absurd q c1, fun _ => ⟨_, n3.2.1, by omega, hf, fun _ => ⟨by omega, m1⟩, fun q => absurd c2 q⟩⟩⟩⟩⟩⟩), by omega, by omega, m2, m3.1, LK_of m3 m4 (by omega), m6⟩
      · obtain ⟨w', k1, hn1, cn1, B1, x', sz', rm', cn', de', m1, m2, m3, m4, m5, m6⟩ := gr (zgi cn 1 + 1)
        exact ⟨w', 1, de.length + 3, _, k1, hn1, cn1, B1, x', ow5, _, _, _, cn', de', to112 (V143_112 g0 ⟨by omega, fun q => absurd rfl q, fun _ => ⟨by omega, fun q => by omega, fun _ => ⟨by omega, fun q => by omega, fun _ => ⟨_, z1, by omega, fun q => by omega, fun _ => ⟨w5, n1, _, _, _, _, _, _, _, _, _, _, n3.1, _, n3.2.2.2.2.2.1, by omega, by omega, fun q => absurd q c1, fun _ => ⟨_, n3.2.1, by omega, hf, fun q => absurd q c2, fun _ => ⟨by omega, m1⟩⟩⟩⟩⟩⟩⟩), by omega, by omega, m2, m3.1, LK_of m3 m4 (by omega), m6⟩
  -- it must move
  have nofit : ¬ (N = b.2.2.2 ∨ (clsL wy = 2 ∧ (N < b.2.2.2 ∨ (b.2.1 + N ≤ 1024 ∧ ∀ y ∈ BB wy, b.2.1 < y.2.1 → b.2.1 + N ≤ y.2.1)))) := fun h => by
    rcases h with h | ⟨h1, h2 | h2⟩
    · exact cE h
    · exact cS ⟨hc2.mp h1, h2⟩
    · exact cG ⟨hc2.mp h1, h2⟩
  have to204 : ∀ {w' : List zE} {c s : Nat}, Zr sc 143 204 [zp q, zj b.1, zj z, zj b.2.1, zj N, zj b.2.2.2, zj 0, zmk] [] w (some (zj 1)) w' c s → Zc sc 143 [zp q, zj b.1, zj z] w (some (zj 1)) w' c s := fun {w' c s} m1 => to112 (by
    by_cases c4 : 4 ≤ x.2.1
    · exact V143_112 g0 ⟨by omega, fun q => absurd rfl q, fun _ => ⟨by omega, fun _ => m1, fun q => absurd c4 q⟩⟩
    · by_cases c5 : 1024 < b.2.1 + N
      · exact V143_112 g0 ⟨by omega, fun q => absurd rfl q, fun _ => ⟨by omega, fun q => absurd q c4, fun _ => ⟨by omega, fun _ => m1, fun q => absurd c5 q⟩⟩⟩
      · obtain ⟨r, z1, z2⟩ := zp_isFree (sc := sc) hC hok hR (f := b.2.1 + b.2.2.2) (n := N - b.2.2.2) (by omega) (by omega) (by omega)
        have hr : r = 0 := by
          rcases z2 with ⟨-, h2⟩ | ⟨h1, -⟩
          · exfalso
            refine cG ⟨by omega, by omega, fun y hy hlt => ?_⟩
            have hne : b ≠ y := fun e => by subst e; omega
            have d := okB_dis hok hb hy hne
            have gy := hok.2 y hy
            by_cases cc : b.2.1 + N ≤ y.2.1
            · exact cc
            · have e1 := h2 y.2.1 (by omega) (by omega)
              have e2 := hR.1 y hy y.2.1 (Int.le_refl _) (by omega)
              omega
          · exact h1
        subst hr
        exact V143_112 g0 ⟨by omega, fun q => absurd rfl q, fun _ => ⟨by omega, fun q => absurd q c4, fun _ => ⟨by omega, fun q => absurd q c5, fun _ => ⟨_, z1, by omega, fun _ => m1, fun q => absurd rfl q⟩⟩⟩⟩)
  obtain ⟨pl, w4, cn4, s4, e1, e2, e3, e4, e5, e6⟩ := zp_take (sc := sc) hC x1 hw6 hok hg hR (fun y hy => (hS y hy).2.1) hro (by rw [x6]; exact hhn)
  rw [x6, ← hkw] at e5
  have e0 : x.2.2.2.2.2.2.1 = HN wy := x6
  obtain ⟨f0, f1, f2, f3, f4, f5, -⟩ := id e4
  have l5' : cn4.length = 5 := e4.2.2.2.2.2.2.2.2.1.2.2.2.2
  by_cases c0 : pl < 0
  · have hpl : pl = -1 := by omega
    rw [if_pos c0, e0] at e4
    obtain ⟨s1, s2⟩ := sC_cn e4 (cn' := zsi cn4 4 (zgi cn4 4 + 1)) (by rw [zsi_len]; exact l5')
    obtain ⟨w', k1, hn1, cn1, B1, x', sz', rm', cn', de', m1, m2, m3, m4, m5, m6⟩ := rs_tail (sc := sc) h hD hb hz (pl := pl) (hnx := HN wy) (x6 := 0) (fun pd => by
      obtain ⟨q1, ⟨-, -, q3⟩ | ⟨-, p, q4, ⟨q5, q6, q7⟩ | ⟨q5, -⟩⟩⟩ := hwhat pd
      · exact absurd q3 nofit
      · exact ⟨q1, q7, Or.inr ⟨hpl, q6⟩⟩
      · have := selP_u (clsL_c wy) q4 e5
        omega) s1 (zF2_trans e3 (zF2_of s2 (by omega))) (fun _ _ _ => rfl) (fun q => by omega) (fun _ => rfl)
    rw [eN] at m1
    exact ⟨w', 3, s4 + (de.length + 3), _, k1, hn1, cn1, B1, x', ow, _, _, _, cn', de', to204 (V143_204 g0 ⟨by omega, fun _ => ⟨pl, w4, 2, s4, 1, _, e1, ⟨rfl, rfl⟩, V143_221 f0 f5 ⟨by omega, fun q => by omega, fun _ => ⟨by omega, fun q => absurd rfl q, fun _ => ⟨by omega, by omega, V143_241 s1.1 s1.2.2.2.2.2.1 s1.2.2.1 s1.2.2.2.1 ⟨by omega, fun _ => m1, fun q => absurd c0 q⟩⟩⟩⟩⟩, fun q => absurd rfl q⟩), by omega, by omega, m2, m3.1, LK_of m3 m4 (by omega), m6⟩
  · rw [if_neg c0, e0, ← hkw] at e4
    obtain ⟨r, r1, ⟨r2, r3⟩ | ⟨j, y, r2, r3, r4, r5⟩⟩ := id e5
    · omega
    have hy := List.mem_of_getElem? r3
    have hdis := hol_dis (clsL_c wy) hok hg hy
    have hyN : N ≤ y.2 := r4.1
    obtain ⟨X1, Y1, t1, t2, t3⟩ := okB_split (p := pl) (n := N) (by omega) (BB wy) hok (fun y' hy' => by
      have := hdis.2.2.2 y' hy'
      omega)
    have hokT : okB (X1 ++ (80, pl, z, N) :: Y1) := okB_mid.mpr ⟨t1 ▸ hok, fun y' hy' => ⟨fun e => by
        have := hnmB y' (by rw [t1]; exact List.mem_append.mpr (Or.inl hy'))
        dsimp only at e
        omega, t2 y' hy'⟩, fun y' hy' => ⟨fun e => by
        have := hnmB y' (by rw [t1]; exact List.mem_append.mpr (Or.inr hy'))
        dsimp only at e
        omega, t3 y' hy'⟩, by dsimp only; omega⟩
    have hgT : gcB (clsL wy) (X1 ++ (80, pl, z, N) :: Y1) := by
      rw [r5]
      exact gc_put (clsL_c wy) (t1 ▸ hok) (t1 ▸ hg) (t1 ▸ hy) hro r4
    -- bytes are moved under the name that nobody has
    obtain ⟨s1, s2⟩ := sC_cn e4 (cn' := zsi cn4 3 (zgi cn4 3 + min z (zgi sz b.1))) (by rw [zsi_len]; exact l5')
    obtain ⟨s3, s4'⟩ := sC_rm s1 (rm' := zsi rm 80 N) (by rw [zsi_len]; exact l3)
    obtain ⟨w6, ow6, n1, n2, n3, n4⟩ := zp_fill (sc := sc) s3 (f := pl) (n := N) (v := 80) (by omega) (by omega) (by omega)
    have hR6 : RO ow6 (X1 ++ (80, pl, z, N) :: Y1) := RO_put hokT (t1 ▸ hR) n4
    have hbT : b ∈ X1 ++ (80, pl, z, N) :: Y1 := mem_mid.mpr (Or.inl (t1 ▸ hb))
    obtain ⟨X2, Y2, e7⟩ := List.append_of_mem hbT
    have hlT : LR (zsi rm 80 N) (X1 ++ (80, pl, z, N) :: Y1) := fun y' hy' => by
      have gy' := hokT.2 y' hy'
      rw [zgi_set (by omega) (by omega) (by omega)]
      rcases mem_mid.mp hy' with h1 | h1
      · rw [← t1] at h1
        have := hnmB y' h1
        rw [if_neg (by omega)]
        exact (hS y' h1).2.1
      · rw [h1]
        rfl
    obtain ⟨w7, ow7, cn7, o1, o2, o3, o4, o5⟩ := zp_give (sc := sc) n3 x1 hw6 (e7 ▸ hokT) (e7 ▸ hgT) (e7 ▸ hR6) (e7 ▸ hlT)
    obtain ⟨w8, ow8, p1, p2, p3, p4⟩ := zp_fill (sc := sc) o3 (f := pl) (n := N) (v := b.1) (by omega) (by omega) (by omega)
    obtain ⟨w', k1, hn1, cn1, B1, x', sz', rm', cn', de', m1, m2, m3, m4, m5, m6⟩ := rs_tail (sc := sc) h hD hb hz (pl := pl) (hnx := hnF (K wy).1 (HN wy) pl N) (x6 := 0) (fun pd => by
      obtain ⟨q1, ⟨-, -, q3⟩ | ⟨-, p, q4, ⟨q5, q6, q7⟩ | ⟨q5, q6, q7⟩⟩⟩ := hwhat pd
      · exact absurd q3 nofit
      · have := selP_u (clsL_c wy) q4 e5
        omega
      · have ep := selP_u (clsL_c wy) q4 e5
        subst ep
        rw [eN]
        exact ⟨q1, q6, Or.inl ⟨q5, q7⟩⟩) p3 (zF2_trans e3 (zF2_trans (zF2_of s2 (by omega)) (zF2_trans s4' (zF2_trans (zF2_of n2 (by omega)) (zF2_trans (zF2_of o2 (by omega)) (zF2_of p2 (by omega))))))) (fun i i0 i1 => by rw [zgi_set (by omega) (by omega) i0, if_neg i1]) (fun _ u hu => by
        rw [eN, p4.2 u hu, o4.2 u hu, n4.2 u hu]
        by_cases c1 : pl ≤ u ∧ u < pl + N
        · rw [if_pos c1, if_pos c1]
        · rw [if_neg c1, if_neg c1, if_neg c1]) (fun q => by omega)
    rw [eN] at m1
    have hsz1 := hsb.1
    exact ⟨w', 3, s4 + (de.length + 3), _, k1, hn1, cn1, B1, x', ow8, _, _, _, cn', de', to204 (V143_204 g0 ⟨by omega, fun _ => ⟨pl, w4, 2, s4, 1, _, e1, ⟨rfl, rfl⟩, V143_221 f0 f5 ⟨by omega, fun _ => V143_241 f0 f5 f2 f3 ⟨by omega, fun q => absurd q c0, fun _ => ⟨by omega, fun q => absurd rfl q, fun _ => ⟨by omega, by omega, by omega, by omega, by omega, w6, n1, _, n3.1, w7, o1, _, o3.1, w8, p1, m1⟩⟩⟩, fun q => by omega⟩⟩, fun q => absurd rfl q⟩), by omega, by omega, m2, m3.1, LK_of m3 m4 (by omega), m6⟩
end RSW
