/-! ===== the pool takes a place ===== -/
def xhF (x : ps_T) (hn : Int) : ps_T := (x.1, x.2.1, x.2.2.1, x.2.2.2.1, x.2.2.2.2.1, x.2.2.2.2.2.1, hn, x.2.2.2.2.2.2.2.1, x.2.2.2.2.2.2.2.2)
theorem emod2 {a m : Int} (h1 : m ≤ a) (h2 : a < 2 * m) : a % m = a - m := by
  rw [show a = (a - m) + m * 1 by omega, Int.add_mul_emod_self_left, Int.emod_eq_of_lt (by omega) (by omega)]
  omega
section TAK
variable {sc : List Value} {w w' : List zE} {q : Nat} {x x' : ps_T} {ow ow' sz rm am cn de : List Int} {B X Y : List bk_T} {S : List Int} {wy : Nat}
theorem not_cov {f t : Int} (hd : ∀ b ∈ B, b.2.1 + b.2.2.2 ≤ f ∨ t ≤ b.2.1) {u : Int} (h0 : f ≤ u) (h1 : u < t) : ∀ b ∈ B, ¬ (b.2.1 ≤ u ∧ u < b.2.1 + b.2.2.2) := fun b hb e => by
  have := hd b hb
  omega
theorem zp_holes (h : sC w q x ow sz rm am cn de) (hwy : x.2.1 = wy) (hw6 : wy < 6) (hok : okB B) (hg : gcB (clsL wy) B) (hr : RO ow B) (hl : LR rm B) : ∃ p w' s row, Zc sc 126 [zp q] w (some (zp p)) w' 2 s ∧ s ≤ 4096 ∧ zFm w w' 0 0 ∧ w.length ≤ p ∧ w'[p]? = some (za row) ∧ row.length ≤ 2048 ∧ (wy < 5 → rowP row (holF (clsL wy) B)) := by
  have own : ∀ f : Int, 0 ≤ f → f < 1024 → (∃ b ∈ B, b.2.1 ≤ f ∧ f < b.2.1 + b.2.2.2) → ∀ w1, sC w1 q x ow sz rm am cn de → Zc sc 127 [zp q, zj f] w1 (some (zj 0)) w1 0 0 := fun f f0 f1 ⟨b, hb, e1, e2⟩ w1 hc => by
    have e := hr.1 b hb f e1 e2
    have gb := hok.2 b hb
    exact zp_holeAt_own hc ⟨f0, f1⟩ (by omega)
  have fre : ∀ {f t : Int}, 0 ≤ f → t ≤ 1024 → (∀ b ∈ B, b.2.1 + b.2.2.2 ≤ f ∨ t ≤ b.2.1) → (t = 1024 ∨ ∃ b ∈ B, b.2.1 = t) → (∀ u : Int, f ≤ u → u < t → zgi ow u < 0) ∧ (t = 1024 ∨ 0 ≤ zgi ow t) := fun {f t} f0 t1 hd hn => by
    refine ⟨fun u u0 u1 => (RO_free hok hr (by omega) (by omega)).2.mpr (not_cov hd u0 u1), hn.imp id fun ⟨b, hb, e⟩ => ?_⟩
    have gb := hok.2 b hb
    have := hr.1 b hb t (by omega) (by omega)
    omega
  have hR0 : ∀ part, remH part B 0 = holL part B 0 := fun part => remH_eq part B 0 hok (fun b hb => (hok.2 b hb).2.2.1)
  have hRe : ∀ (part : Int → Int → Int) (f : Int), 1024 ≤ f → remH part B f = [] := fun part f hf => by
    have : ∀ Y : List bk_T, okB Y → remH part Y f = [] := by
      intro Y
      induction Y with
      | nil => intro _; exact gapL_e part 128 hf
      | cons b Y ih =>
        intro ho
        have ho' := (okB_mid (X := [])).mp ho
        have gb := ho'.2.2.2
        show (if f < b.2.1 + b.2.2.2 then _ else remH part Y f) = []
        rw [if_neg (by omega)]
        exact ih ho'.1
    exact this B hok
  by_cases c4 : wy < 4
  · have hc : clsL wy = 2 := by
      have : wy = 0 ∨ wy = 1 ∨ wy = 2 ∨ wy = 3 := by omega
      rcases this with rfl | rfl | rfl | rfl <;> rfl
    obtain ⟨p, w', s, row, z1, z2, z3, z4, z5, z6, z7⟩ := zp_holes_any (sc := sc) h (remH parF B) True (fun _ => True) trivial (fun f f0 f1 _ w1 hc1 => by
      rcases ucase B f with hcov | hno
      · exact ⟨0, own f f0 f1 hcov w1 hc1, by omega, trivial, fun _ => ⟨fun _ => remH_own parF B f hok hcov, fun q => by omega⟩⟩
      · obtain ⟨t, t1, t2, -, t4, t5, t6⟩ := remH_free pgood_F B f hok f0 f1 hno trivial (fun _ _ => trivial)
        obtain ⟨k1, k2⟩ := fre f0 t2 t4 t5
        have z := zp_holeAt_F (sc := sc) hc1 hwy c4 hok hr f0 t1 t2 k1 k2
        have er : parF f t = t - f := rfl
        exact ⟨_, z, by omega, trivial, fun _ => ⟨fun q => by omega, fun _ => t6⟩⟩) (fun _ f hf => hRe parF f hf)
    refine ⟨p, w', s, row, z1, z2, z3, z4, z5, z6, fun _ => ?_⟩
    have := z7 trivial
    rw [hR0] at this
    unfold holF
    rw [hc]
    exact this
  by_cases c5 : wy = 4
  · subst c5
    have hg' : ∀ b ∈ B, pP b.2.2.2 ∧ b.2.1 % b.2.2.2 = 0 := hg
    have h8 : ∀ b ∈ B, b.2.1 % 8 = 0 ∧ b.2.2.2 % 8 = 0 := fun b hb => by
      obtain ⟨e1, e2⟩ := hg' b hb
      rcases e1 with e | e | e | e | e | e | e | e <;> rw [e] at e2 <;> omega
    obtain ⟨p, w', s, row, z1, z2, z3, z4, z5, z6, z7⟩ := zp_holes_any (sc := sc) h (remH parB B) True (fun f => (∀ b ∈ B, ¬ (b.2.1 ≤ f ∧ f < b.2.1 + b.2.2.2)) → f % 8 = 0) (fun _ => by decide) (fun f f0 f1 hi w1 hc1 => by
      rcases ucase B f with hcov | hno
      · refine ⟨0, own f f0 f1 hcov w1 hc1, by omega, fun hno => ?_, fun _ => ⟨fun _ => remH_own parB B f hok hcov, fun q => by omega⟩⟩
        obtain ⟨b, hb, e1, e2⟩ := hcov
        have := hno b hb
        have := h8 b hb
        omega
      · obtain ⟨t, t1, t2, t3, t4, t5, t6⟩ := remH_free pgood_B B f hok f0 f1 hno (hi hno) (fun b hb => (h8 b hb).1)
        obtain ⟨k1, k2⟩ := fre f0 t2 t4 t5
        have z := zp_holeAt_B (sc := sc) hc1 hwy hok hr f0 t1 t2 (hi hno) t3 k1 k2
        obtain ⟨p1, p2, p3⟩ := parB_ok f0 t1 (hi hno) t3
        have p4 := pP_8 p1
        have hi' := hi hno
        exact ⟨_, z, by omega, fun _ => by omega, fun _ => ⟨fun q => by omega, fun _ => t6⟩⟩) (fun _ f hf => hRe parB f hf)
    refine ⟨p, w', s, row, z1, z2, z3, z4, z5, z6, fun _ => ?_⟩
    have := z7 trivial
    rw [hR0] at this
    exact this
  · obtain rfl : wy = 5 := by omega
    obtain ⟨p, w', s, row, z1, z2, z3, z4, z5, z6, -⟩ := zp_holes_any (sc := sc) h (fun _ => []) False (fun _ => True) trivial (fun f f0 f1 _ w1 hc1 => by
      obtain ⟨r, z, z2, z3⟩ := zp_holeAt_S (sc := sc) hc1 hwy hok hg hr hl ⟨f0, f1⟩
      exact ⟨r, z, ⟨z2, z3⟩, trivial, fun q => q.elim⟩) (fun q => q.elim)
    exact ⟨p, w', s, row, z1, z2, z3, z4, z5, z6, fun q => by omega⟩
/-- what a take leaves -/
def takeR (sc : List Value) (w1 : List zE) (q : Nat) (x : ps_T) (ow sz rm am de : List Int) (B : List bk_T) (wy : Nat) (room : Int) (pc : Nat) (lv : List Value) : Prop := ∃ pl w' cn', Zr sc 125 pc lv [] w1 (some (zj pl)) w' 0 0 ∧ zF2 w1 w' q ∧ sC w' q (xhF x (if pl < 0 then x.2.2.2.2.2.2.1 else hnF wy (x.2.2.2.2.2.2.1) pl room)) ow sz rm am cn' de ∧ selP (clsL wy) wy (x.2.2.2.2.2.2.1) (holF (clsL wy) B) room pl ∧ -1 ≤ pl ∧ pl ≤ 1024
theorem xhF_same : xhF x (x.2.2.2.2.2.2.1) = x := rfl
theorem sC_hn (h : sC w q x ow sz rm am cn de) (hn : Int) : sC (w.set q (pobj q (xhF x hn))) q (xhF x hn) ow sz rm am cn de ∧ zFm w (w.set q (pobj q (xhF x hn))) q 1 := by
  obtain ⟨g0, g1, g2, g3, g4, g5, g6, g7, ⟨l1, l2, l3, l4, l5⟩, g9⟩ := id h
  exact ⟨⟨zw_s g0, zw_o (by omega) g1, zw_o (by omega) g2, zw_o (by omega) g3, zw_o (by omega) g4, zw_o (by omega) g5, zw_o (show q ≠ x.2.2.2.2.2.2.2.2 by omega) g6, g7, ⟨l1, l2, l3, l4, l5⟩, g9⟩, zFm_set (by omega) (by omega)⟩
theorem tk_180 (hwy : x.2.1 = wy) (hw5 : wy < 5) (hok : okB B) (hg : gcB (clsL wy) B) {room : Int} (hr1 : 1 ≤ room ∧ room ≤ 1024) {a2 : Nat} {row : List Int} (hrow : rowP row (holF (clsL wy) B)) (hlen : row.length ≤ 2048) (ha2 : q + 78 ≤ a2) {r : Int} (hsel : selF (clsL wy) wy (x.2.2.2.2.2.2.1) (holF (clsL wy) B) room r) : ∀ (w1 : List zE) (c1 : List Int) (x3 x5 : Int) (v6 v7 : Value), sC w1 q x ow sz rm am c1 de → w1[a2]? = some (za row) → takeR sc w1 q x ow sz rm am de B wy room 180 [zp q, zj room, zp a2, zj x3, zj (if r = -1 then -1 else 2 * r), zj x5, v6, v7] := by
  intro w1 c1 x3 x5 v6 v7 h hp
  have hcc := clsL_c wy
  rcases selF_hit hcc hsel with e | ⟨j, y, e, hy, hhit⟩
  · subst e
    rw [if_pos rfl]
    obtain ⟨g0, g1, g2, g3, g4, g5, g6, g7, ⟨l1, l2, l3, l4, l5⟩, g9⟩ := id h
    exact ⟨-1, w1, c1, V125_180 g0 g5 ⟨by omega, fun q => by omega, fun _ => ⟨rfl, rfl, rfl, rfl⟩⟩, zF2_refl _ _, by rw [if_pos (by omega)]; exact h, ⟨-1, hsel, Or.inl ⟨rfl, rfl⟩⟩, by omega, by omega⟩
  · subst e
    rw [if_neg (by omega)]
    have hym := List.mem_of_getElem? hy
    have hjl := (List.getElem?_eq_some_iff.mp hy).1
    have d := hol_dis hcc hok hg hym
    have hle := hhit.1
    obtain ⟨e1, e2⟩ := hrow.2 j y hy
    have hrl := hrow.1
    have hselP : selP (clsL wy) wy (x.2.2.2.2.2.2.1) (holF (clsL wy) B) room y.1 := ⟨j, hsel, Or.inr ⟨j, y, rfl, hy, hhit, rfl⟩⟩
    -- the end
    have f252 : ∀ (w2 : List zE) (c2 : List Int) (x5 : Int), sC w2 q x ow sz rm am c2 de → w2[a2]? = some (za row) → takeR sc w2 q x ow sz rm am de B wy room 252 [zp q, zj room, zp a2, zj x3, zj (2 * (j : Int)), zj x5, v6, v7] := by
      intro w2 c2 x5 h hp
      obtain ⟨g0, g1, g2, g3, g4, g5, g6, g7, ⟨l1, l2, l3, l4, l5⟩, g9⟩ := id h
      by_cases c1 : x.2.1 = 1
      · obtain ⟨s1, s2⟩ := sC_hn h (hnF wy (x.2.2.2.2.2.2.1) y.1 room)
        have ehn : hnF wy (x.2.2.2.2.2.2.1) y.1 room = if 1024 ≤ y.1 + room then 0 else y.1 + room := by unfold hnF; rw [if_pos (by omega)]
        by_cases c2 : y.1 + room = 1024
        · refine ⟨y.1, w2.set q (pobj q (xhF x (hnF wy (x.2.2.2.2.2.2.1) y.1 room))), _, ?_, zF2_of s2 (by omega), by rw [if_neg (by omega)]; exact s1, hselP, by omega, by omega⟩
          exact V125_252 g0 ⟨by omega, fun q => absurd c1 q, fun _ => ⟨row, hp, by omega, by omega, fun q => absurd (by omega) q, fun _ => ⟨by omega, by omega, zj_e e1.symm, by rw [ehn, if_pos (by omega)]; rfl, rfl, rfl⟩⟩⟩
        · refine ⟨y.1, w2.set q (pobj q (xhF x (hnF wy (x.2.2.2.2.2.2.1) y.1 room))), _, ?_, zF2_of s2 (by omega), by rw [if_neg (by omega)]; exact s1, hselP, by omega, by omega⟩
          exact V125_252 g0 ⟨by omega, fun q => absurd c1 q, fun _ => ⟨row, hp, by omega, by omega, fun _ => ⟨by omega, by omega, by omega, zj_e e1.symm, by rw [ehn, if_neg (by omega), e1]; rfl, rfl, rfl⟩, fun q => by omega⟩⟩
      · have ehn : hnF wy (x.2.2.2.2.2.2.1) y.1 room = x.2.2.2.2.2.2.1 := by unfold hnF; rw [if_neg (by omega)]
        exact ⟨y.1, w2, c2, V125_252 g0 ⟨by omega, fun _ => ⟨row, hp, by omega, zj_e e1.symm, rfl, rfl, rfl⟩, fun q => absurd c1 q⟩, zF2_refl _ _, by rw [if_neg (by omega), ehn]; exact h, hselP, by omega, by omega⟩
    have f219 : ∀ (n : Nat) (w2 : List zE) (c2 : List Int) (u : Int), 0 ≤ u → u < 2 ^ n → u ≤ 1024 → sC w2 q x ow sz rm am c2 de → w2[a2]? = some (za row) → takeR sc w2 q x ow sz rm am de B wy room 219 [zp q, zj room, zp a2, zj x3, zj (2 * (j : Int)), zj u, v6, v7] := by
      intro n
      induction n with
      | zero =>
        intro w2 c2 u u0 u1 u2 h hp
        rw [Int.pow_zero] at u1
        obtain ⟨pl, w', cn', z1, z2⟩ := f252 w2 c2 u h hp
        obtain ⟨g0, g1, g2, g3, g4, g5, g6, g7, ⟨l1, l2, l3, l4, l5⟩, g9⟩ := id h
        by_cases c4 : x.2.1 = 4
        · exact ⟨pl, w', cn', V125_219 g0 g5 ⟨by omega, fun q => absurd c4 q, fun _ => ⟨by omega, fun _ => z1, fun q => by omega⟩⟩, z2⟩
        · exact ⟨pl, w', cn', V125_219 g0 g5 ⟨by omega, fun _ => z1, fun q => absurd c4 q⟩, z2⟩
      | succ n ih =>
        intro w2 c2 u u0 u1 u2 h hp
        rw [Int.pow_succ] at u1
        obtain ⟨pl, w', cn', z1, z2⟩ := f252 w2 c2 u h hp
        obtain ⟨g0, g1, g2, g3, g4, g5, g6, g7, ⟨l1, l2, l3, l4, l5⟩, g9⟩ := id h
        by_cases c4 : x.2.1 = 4
        · by_cases c5 : u ≤ room
          · exact ⟨pl, w', cn', V125_219 g0 g5 ⟨by omega, fun q => absurd c4 q, fun _ => ⟨by omega, fun _ => z1, fun q => absurd c5 q⟩⟩, z2⟩
          · obtain ⟨s1, s2⟩ := sC_cn h (cn' := zsi c2 1 (zgi c2 1 + 1)) (by rw [zsi_len]; exact l5)
            obtain ⟨pl, w', cn', y1, y2, y3⟩ := ih _ _ (u / 2) (by omega) (by omega) (by omega) s1 (zw_o (by omega) hp)
            exact ⟨pl, w', cn', V125_219 g0 g5 ⟨by omega, fun q => absurd c4 q, fun _ => ⟨by omega, fun q => absurd q c5, fun _ => ⟨by omega, by omega, by omega, y1⟩⟩⟩, zF2_trans (zF2_of s2 (by omega)) y2, y3⟩
        · exact ⟨pl, w', cn', V125_219 g0 g5 ⟨by omega, fun _ => z1, fun q => absurd c4 q⟩, z2⟩
    have e11 : (2 : Int) ^ 11 = 2048 := by decide
    obtain ⟨g0, g1, g2, g3, g4, g5, g6, g7, ⟨l1, l2, l3, l4, l5⟩, g9⟩ := id h
    by_cases c4 : 4 ≤ x.2.1
    · obtain ⟨pl, w', cn', z1, z2⟩ := f219 11 w1 c1 y.2 (by omega) (by omega) (by omega) h hp
      exact ⟨pl, w', cn', V125_180 g0 g5 ⟨by omega, fun _ => ⟨row, hp, by omega, by omega, fun _ => by rw [e2]; exact z1, fun q => absurd c4 q⟩, fun q => by omega⟩, z2⟩
    · by_cases c5 : y.2 ≤ room
      · obtain ⟨pl, w', cn', z1, z2⟩ := f219 11 w1 c1 y.2 (by omega) (by omega) (by omega) h hp
        exact ⟨pl, w', cn', V125_180 g0 g5 ⟨by omega, fun _ => ⟨row, hp, by omega, by omega, fun q => absurd q c4, fun _ => ⟨by omega, fun _ => by rw [e2]; exact z1, fun q => by omega⟩⟩, fun q => by omega⟩, z2⟩
      · obtain ⟨s1, s2⟩ := sC_cn h (cn' := zsi c1 1 (zgi c1 1 + 1)) (by rw [zsi_len]; exact l5)
        obtain ⟨pl, w', cn', z1, z2, z3⟩ := f219 11 _ _ y.2 (by omega) (by omega) (by omega) s1 (zw_o (by omega) hp)
        exact ⟨pl, w', cn', V125_180 g0 g5 ⟨by omega, fun _ => ⟨row, hp, by omega, by omega, fun q => absurd q c4, fun _ => ⟨by omega, fun q => by omega, fun _ => ⟨by omega, by omega, by rw [e2]; exact z1⟩⟩⟩, fun q => by omega⟩, zF2_trans (zF2_of s2 (by omega)) z2, z3⟩
end TAK
