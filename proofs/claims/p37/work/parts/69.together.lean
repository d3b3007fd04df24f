/-! ===== the pool beside the lab: all together ===== -/
section TOG
variable {sc : List Value} {w w' : List zE} {q : Nat} {x x' : ps_T} {ow ow' sz rm am cn de : List Int} {B B' X Y : List bk_T} {S : List Int} {wy : Nat} {st hd : Int} {D : List dd_T} {K : Nat → mk_T} {HN : Nat → Int} {CN : Nat → List Int} {BB : Nat → List bk_T}
theorem tg_loop (hwy : x.2.1 = wy) (hw4 : wy < 4) : ∀ (m : Nat) (Y P : List bk_T) (to x1 x3 : Int) (w1 : List zE) (ow1 : List Int) (v4 v5 : Value), 1024 - x3 ≤ m → 0 ≤ x3 → x3 ≤ 1024 → okB (P ++ Y) → RO ow1 (P ++ Y) → (∀ b ∈ P, b.2.1 + b.2.2.2 ≤ to) → 0 ≤ to → to ≤ x3 → (∀ y ∈ Y, x3 ≤ y.2.1) → (∀ y ∈ Y, zgi rm y.1 = y.2.2.2) → 0 ≤ x1 → x1 + pkM Y to ≤ 1024 → sC w1 q x ow1 sz rm am cn de →
    ∃ w' ow' x3' v4' v5', zF2 w1 w' q ∧ sC w' q x ow' sz rm am cn de ∧ RO ow' (P ++ packF Y to) ∧ okB (P ++ packF Y to) ∧ to + sumR Y ≤ 1024 ∧ (∀ {ov w2 c s}, Zr sc 149 91 [zp q, zj (x1 + pkM Y to), zj (to + sumR Y), zj x3', v4', v5'] [] w' ov w2 c s → Zr sc 149 6 [zp q, zj x1, zj to, zj x3, v4, v5] [] w1 ov w2 c s) := by
  intro m
  induction m with
  | zero =>
    intro Y P to x1 x3 w1 ow1 v4 v5 hm h0 h3 hok hr hP hto htx hY hrm hx1 hx2 h
    have eY : Y = [] := by
      cases Y with
      | nil => rfl
      | cons y Y =>
        have := hY y List.mem_cons_self
        have := hok.2 y (List.mem_append.mpr (Or.inr List.mem_cons_self))
        omega
    subst eY
    obtain ⟨g0, g1, g2, g3, -⟩ := id h
    refine ⟨w1, ow1, x3, v4, v5, zF2_refl _ _, h, hr, hok, by show to + 0 ≤ 1024; omega, fun {ov w2 c s} hz => V149_6 g0 g1 g3 ⟨by omega, fun _ => ?_, fun q => by omega⟩⟩
    have e1 : x1 + pkM [] to = x1 := Int.add_zero x1
    have e2 : to + sumR [] = to := Int.add_zero to
    rw [e1, e2] at hz
    exact hz
  | succ m ih =>
    intro Y P to x1 x3 w1 ow1 v4 v5 hm h0 h3 hok hr hP hto htx hY hrm hx1 hx2 h
    obtain ⟨g0, g1, g2, g3, g4, g5, g6, g7, ⟨l1, l2, l3, l4, l5⟩, g9⟩ := id h
    by_cases c3 : 1024 ≤ x3
    · have eY : Y = [] := by
        cases Y with
        | nil => rfl
        | cons y Y =>
          have := hY y List.mem_cons_self
          have := hok.2 y (List.mem_append.mpr (Or.inr List.mem_cons_self))
          omega
      subst eY
      refine ⟨w1, ow1, x3, v4, v5, zF2_refl _ _, h, hr, hok, by show to + 0 ≤ 1024; omega, fun {ov w2 c s} hz => V149_6 g0 g1 g3 ⟨by omega, fun _ => ?_, fun q => by omega⟩⟩
      have e1 : x1 + pkM [] to = x1 := Int.add_zero x1
      have e2 : to + sumR [] = to := Int.add_zero to
      rw [e1, e2] at hz
      exact hz
    have hf := (RO_free hok hr (u := x3) (by omega) (by omega)).1
    by_cases co : 0 ≤ zgi ow1 x3
    · obtain ⟨b, hb, e1, e2, e3⟩ := RO_own hr (u := x3) (by omega) (by omega) co rfl
      -- it is the first of those that wait
      obtain ⟨y, Y', rfl, eyb⟩ : ∃ y Y', Y = y :: Y' ∧ y = b := by
        rcases List.mem_append.mp hb with h1 | h1
        · have := hP b h1
          omega
        · have := hY b h1
          cases Y with
          | nil => cases h1
          | cons y Y =>
            refine ⟨y, Y, rfl, ?_⟩
            rcases List.mem_cons.mp h1 with h2 | h2
            · exact h2.symm
            · have k := ((okB_mid.mp hok).2.2.1 b h2).2
              have := hY y List.mem_cons_self
              have := hok.2 y (List.mem_append.mpr (Or.inr List.mem_cons_self))
              omega
      subst eyb
      have hm2 := okB_mid.mp hok
      have gy := hm2.2.2.2
      have hy0 := hY y List.mem_cons_self
      have ey : y.2.1 = x3 := by omega
      have hry := hrm y List.mem_cons_self
      have hpm : pkM (y :: Y') to = (if y.2.1 = to then 0 else y.2.2.2) + pkM Y' (to + y.2.2.2) := rfl
      have hok' : okB (P ++ (y.1, to, y.2.2.1, y.2.2.2) :: Y') := okB_mid.mpr ⟨hm2.1, fun z hz => ⟨(hm2.2.1 z hz).1, hP z hz⟩, fun z hz => ⟨(hm2.2.2.1 z hz).1, by have := (hm2.2.2.1 z hz).2; dsimp only; omega⟩, by dsimp only; omega⟩
      have eapp : P ++ (y.1, to, y.2.2.1, y.2.2.2) :: Y' = (P ++ [(y.1, to, y.2.2.1, y.2.2.2)]) ++ Y' := by simp
      have epk : P ++ packF (y :: Y') to = (P ++ [(y.1, to, y.2.2.1, y.2.2.2)]) ++ packF Y' (to + y.2.2.2) := by
        show P ++ ((y.1, to, y.2.2.1, y.2.2.2) :: packF Y' (to + y.2.2.2)) = _
        simp
      have esum : to + sumR (y :: Y') = (to + y.2.2.2) + sumR Y' := by rw [sumR_cons]; omega
      have hP' : ∀ z ∈ P ++ [(y.1, to, y.2.2.1, y.2.2.2)], z.2.1 + z.2.2.2 ≤ to + y.2.2.2 := fun z hz => by
        rcases List.mem_append.mp hz with h1 | h1
        · have := hP z h1
          omega
        · rw [List.mem_singleton.mp h1]
          exact Int.le_refl _
      have hY' : ∀ z ∈ Y', x3 + (y.2.2.2 - 1) + 1 ≤ z.2.1 := fun z hz => by
        have := (hm2.2.2.1 z hz).2
        omega
      by_cases ct : x3 ≤ to
      · have et : y.2.1 = to := by omega
        have esame : ((y.1, to, y.2.2.1, y.2.2.2) : bk_T) = y := by rw [← et]
        rw [if_pos et, Int.zero_add] at hpm
        obtain ⟨w', ow', x3', v4', v5', z1, z2, z3, z4, z5, z6⟩ := ih Y' (P ++ [(y.1, to, y.2.2.1, y.2.2.2)]) (to + y.2.2.2) x1 (x3 + (y.2.2.2 - 1) + 1) w1 ow1 (zj (zgi ow1 x3)) (zj y.2.2.2) (by omega) (by omega) (by omega) (eapp ▸ hok') (by rw [← eapp, esame]; exact hr) hP' (by omega) (by omega) hY' (fun z hz => hrm z (List.mem_cons_of_mem _ hz)) hx1 (by omega) h
        refine ⟨w', ow', x3', v4', v5', z1, z2, epk ▸ z3, epk ▸ z4, by omega, fun {ov w2 c s} hz => V149_6 g0 g1 g3 ⟨by omega, fun q => absurd q c3, fun _ => ⟨by omega, fun q => by omega, fun _ => ⟨by omega, by omega, fun _ => ⟨by omega, by omega, fun _ => ?_, fun q => absurd ct q⟩, fun q => absurd co q⟩⟩⟩⟩
        rw [hpm, esum] at hz
        rw [← e1, hry]
        have := z6 hz
        rw [← e1] at this
        exact V149_73 (V149_85 this)
      · have et : y.2.1 ≠ to := by omega
        rw [if_neg et] at hpm
        have hpk0 : ∀ (Z : List bk_T) (t : Int), (∀ z ∈ Z, 1 ≤ z.2.2.2) → 0 ≤ pkM Z t := by
          intro Z
          induction Z with
          | nil => intro t _; exact Int.le_refl 0
          | cons z Z ihZ =>
            intro t hz
            have a1 := ihZ (t + z.2.2.2) (fun z' hz' => hz z' (List.mem_cons_of_mem _ hz'))
            have a2 := hz z List.mem_cons_self
            show 0 ≤ (if z.2.1 = t then 0 else z.2.2.2) + pkM Z (t + z.2.2.2)
            split <;> omega
        obtain ⟨w5, ow5, n1, n2, n3, n4⟩ := zp_fill (sc := sc) h (f := x3) (n := y.2.2.2) (v := -1) (by omega) (by omega) (by omega)
        obtain ⟨w6, ow6, p1, p2, p3, p4⟩ := zp_fill (sc := sc) n3 (f := to) (n := y.2.2.2) (v := y.1) (by omega) (by omega) (by omega)
        have hr6 : RO ow6 (P ++ (y.1, to, y.2.2.1, y.2.2.2) :: Y') := RO_move hok hr (mem_mid.mpr (Or.inr rfl)) hok' (fun z => by rw [mem_mid, mem_drop hok]) (fun u hu => by rw [p4.2 u hu, n4.2 u hu, ey])
        obtain ⟨w', ow', x3', v4', v5', z1, z2, z3, z4, z5, z6⟩ := ih Y' (P ++ [(y.1, to, y.2.2.1, y.2.2.2)]) (to + y.2.2.2) (x1 + y.2.2.2) (x3 + (y.2.2.2 - 1) + 1) w6 ow6 (zj (zgi ow1 x3)) (zj y.2.2.2) (by omega) (by omega) (by omega) (eapp ▸ hok') (eapp ▸ hr6) hP' (by omega) (by omega) hY' (fun z hz => hrm z (List.mem_cons_of_mem _ hz)) (by omega) (by omega) p3
        refine ⟨w', ow', x3', v4', v5', zF2_trans (zF2_of n2 (by omega)) (zF2_trans (zF2_of p2 (by omega)) z1), z2, epk ▸ z3, epk ▸ z4, by omega, fun {ov w2 c s} hz => V149_6 g0 g1 g3 ⟨by omega, fun q => absurd q c3, fun _ => ⟨by omega, fun q => by omega, fun _ => ⟨by omega, by omega, fun _ => ⟨by omega, by omega, fun q => absurd q ct, fun _ => ?_⟩, fun q => absurd co q⟩⟩⟩⟩
        rw [hpm, esum, ← Int.add_assoc] at hz
        have hz' := z6 hz
        rw [← e1] at hz'
        rw [← e1, hry]
        exact ⟨w5, n1, _, n3.1, w6, p1, V149_73 (V149_85 hz')⟩
    · have hY' : ∀ z ∈ Y, x3 + 1 ≤ z.2.1 := fun z hz => by
        have := hY z hz
        by_cases e : z.2.1 = x3
        · have gz := hok.2 z (List.mem_append.mpr (Or.inr hz))
          have := hr.1 z (List.mem_append.mpr (Or.inr hz)) x3 (by omega) (by omega)
          omega
        · omega
      obtain ⟨w', ow', x3', v4', v5', z1, z2, z3, z4, z5, z6⟩ := ih Y P to x1 (x3 + 1) w1 ow1 (zj (zgi ow1 x3)) v5 (by omega) (by omega) (by omega) hok hr hP hto (by omega) hY' hrm hx1 hx2 h
      exact ⟨w', ow', x3', v4', v5', z1, z2, z3, z4, z5, fun {ov w2 c s} hz => V149_6 g0 g1 g3 ⟨by omega, fun q => absurd q c3, fun _ => ⟨by omega, fun q => by omega, fun _ => ⟨by omega, by omega, fun q => absurd q co, fun _ => V149_85 (z6 hz)⟩⟩⟩⟩
end TOG
