/-! ===== the pool takes a place: slots, and the whole ===== -/
section TAS
variable {sc : List Value} {w w' : List zE} {q : Nat} {x x' : ps_T} {ow ow' sz rm am cn de : List Int} {B X Y : List bk_T} {S : List Int} {wy : Nat}
theorem lastK_rg (hok : okB B) (hg : gcB 4 B) (p : Int) : zrg (lastK B p) := by
  by_cases c : ∃ b ∈ B, onPg b p
  · obtain ⟨b, hb, ho⟩ := c
    rcases hg.1 b hb with hs | hs
    · have h8 := pS_8 hs.1
      rw [pgF_small hok hg hb hs.1 ho]
      omega
    · rw [pgF_large hok hg hb hs.1 ho]
      omega
  · rw [pgF_none (fun b hb ho => c ⟨b, hb, ho⟩)]
    omega
theorem pS_next {r a b : Int} (h : pS r) (ha : a % r = 0) (hb : b % r = 0) (hlt : a < b) : a + r ≤ b := by
  rcases h with rfl | rfl | rfl | rfl | rfl <;> omega
theorem pS_add {r u : Int} (h : pS r) (hu : u % r = 0) (p : Int) : (128 * p + u) % r = 0 ∧ (u + r) % r = 0 := by
  rcases h with rfl | rfl | rfl | rfl | rfl <;> omega
def slotR (sc : List Value) (w1 : List zE) (q : Nat) (x : ps_T) (ow sz rm am de : List Int) (B : List bk_T) (room : Int) (pc : Nat) (vs : List Value) : Prop :=
  ∃ pl w' cn', Zr sc 130 pc vs [] w1 (some (zj pl)) w' 0 0 ∧ zF2 w1 w' q ∧ sC w' q x ow sz rm am cn' de ∧ selP 4 5 (x.2.2.2.2.2.2.1) (holF 4 B) room pl ∧ -1 ≤ pl ∧ pl ≤ 1024
theorem sl_pages (hok : okB B) (hg : gcB 4 B) (hr : RO ow B) {room n : Int} (hn1 : 1 ≤ n ∧ n ≤ 8) (hrn : (room < 128 ∧ n = 1) ∨ (128 ≤ room ∧ room = 128 * n)) (hr8 : 8 ≤ room) (hS : room < 128 → ∀ y ∈ holF 4 B, y.2 ≠ room) : ∀ (m : Nat) (p : Int), p + m = 8 → 0 ≤ p → (∀ p' : Int, 0 ≤ p' → p' < p → p' + n ≤ 8 → ∃ u : Int, 128 * p' ≤ u ∧ u < 128 * (p' + n) ∧ 0 ≤ zgi ow u) → ∀ (w1 : List zE) (c1 : List Int), sC w1 q x ow sz rm am c1 de → slotR sc w1 q x ow sz rm am de B room 101 [zp q, zj room, zj n, zj p] := by
  have hge' : ∀ p : Int, (∀ p' : Int, 0 ≤ p' → p' < p → p' + n ≤ 8 → ∃ u : Int, 128 * p' ≤ u ∧ u < 128 * (p' + n) ∧ 0 ≤ zgi ow u) → ∀ y ∈ holF 4 B, 128 * n ≤ y.2 → y.1 % 128 = 0 ∧ 128 * p ≤ y.1 ∧ y.1 + 128 * n ≤ 1024 := fun p hq y hy h1 => by
    have d := hol_dis (c := 4) (by omega) hok hg hy
    rcases slab_hole hok hg hy with ⟨a1, a2, a3⟩ | ⟨a1, a2, -⟩
    · refine ⟨a1, ?_, by omega⟩
      by_cases c : 128 * p ≤ y.1
      · exact c
      · obtain ⟨u, u1, u2, u3⟩ := hq (y.1 / 128) (by omega) (by omega) (by omega)
        have := (RO_free hok hr (u := u) (by omega) (by omega)).2.mpr (fun b hb e => by
          have := d.2.2.2 b hb
          omega)
        omega
    · omega
  have out : ∀ p : Int, 0 ≤ p → p ≤ 8 → 8 < p + n → (∀ p' : Int, 0 ≤ p' → p' < p → p' + n ≤ 8 → ∃ u : Int, 128 * p' ≤ u ∧ u < 128 * (p' + n) ∧ 0 ≤ zgi ow u) → ∀ (w1 : List zE) (c1 : List Int), sC w1 q x ow sz rm am c1 de → slotR sc w1 q x ow sz rm am de B room 101 [zp q, zj room, zj n, zj p] := fun p h0 h8 c8 hq w1 c1 h => by
    obtain ⟨g0, g1, g2, g3, g4, g5, g6, g7, ⟨l1, l2, l3, l4, l5⟩, g9⟩ := id h
    have no : ∀ y ∈ holF 4 B, ¬ (128 * n ≤ y.2) := fun y hy h1 => by
      have := hge' p hq y hy h1
      omega
    refine ⟨-1, w1, c1, V130_101 g0 g5 ⟨by omega, fun _ => ⟨rfl, rfl, rfl, rfl⟩, fun q => absurd c8 q⟩, zF2_refl _ _, h, ⟨-1, ?_, Or.inl ⟨rfl, rfl⟩⟩, by omega, by omega⟩
    rcases hrn with ⟨r1, r2⟩ | ⟨r1, r2⟩
    · exact Or.inl ⟨r1, -1, Or.inl ⟨rfl, hS r1⟩, Or.inr ⟨by omega, Or.inl ⟨rfl, fun y hy e => no y hy (by omega)⟩⟩⟩
    · exact Or.inr ⟨r1, Or.inl ⟨rfl, fun y hy e => no y hy (by omega)⟩⟩
  intro m
  induction m with
  | zero =>
    intro p hp h0 hq w1 c1 h
    exact out p h0 (by omega) (by omega) hq w1 c1 h
  | succ m ih =>
    intro p hp h0 hq w1 c1 h
    obtain ⟨g0, g1, g2, g3, g4, g5, g6, g7, ⟨l1, l2, l3, l4, l5⟩, g9⟩ := id h
    have hge := hge' p hq
    by_cases c8 : 8 < p + n
    · exact out p h0 (by omega) c8 hq w1 c1 h
    · obtain ⟨r, z1, z2⟩ := zp_isFree (sc := sc) h hok hr (f := 128 * p) (n := 128 * n) (by omega) (by omega) (by omega)
      rcases z2 with ⟨rfl, hf⟩ | ⟨rfl, u0, e1, e2, e3⟩
      · obtain ⟨y, y1, y2, y3, y4, y5, y6⟩ := slab_run hok hg (p := p) (n := n) h0 hn1.1 (by omega) (fun u u0 u1 => (RO_free hok hr (u := u) (by omega) (by omega)).2.mp (hf u u0 (by omega)))
        have hy := hge y y1 (by omega)
        have ey : y.1 = 128 * p := by omega
        have hs := hol_sorted (c := 4) (by omega) hok hg
        have ho : ∀ z ∈ holF 4 B, 1 ≤ z.2 := fun z hz => (hol_dis (c := 4) (by omega) hok hg hz).2.1
        have hsel : selP 4 5 (x.2.2.2.2.2.2.1) (holF 4 B) room (128 * p) := by
          rcases hrn with ⟨r1, r2⟩ | ⟨r1, r2⟩
          · obtain ⟨j, j1, j2⟩ := isF_of_min (P := fun z => 128 ≤ z.2) hs ho y1 (by omega) (fun z hz hz2 => by
              have := hge z hz (by omega)
              omega)
            exact ⟨j, Or.inl ⟨r1, -1, Or.inl ⟨rfl, hS r1⟩, Or.inr ⟨by omega, j1⟩⟩, Or.inr ⟨j, y, rfl, j2, ⟨by omega, fun _ => Or.inr (by omega)⟩, ey.symm⟩⟩
          · obtain ⟨j, j1, j2⟩ := isF_of_min (P := fun z => room ≤ z.2) hs ho y1 (by omega) (fun z hz hz2 => by
              have hz2 : room ≤ z.2 := hz2
              have := hge z hz (by omega)
              omega)
            exact ⟨j, Or.inr ⟨r1, j1⟩, Or.inr ⟨j, y, rfl, j2, ⟨by omega, fun _ => Or.inr (by omega)⟩, ey.symm⟩⟩
        by_cases c : 128 ≤ room
        · obtain ⟨s1, s2⟩ := sC_cn h (cn' := zsi c1 1 (zgi c1 1 + 0)) (by rw [zsi_len]; exact l5)
          exact ⟨_, _, _, V130_101 g0 g5 ⟨by omega, fun q => absurd q c8, fun _ => ⟨_, z1, by omega, fun _ => ⟨by omega, by omega, fun _ => ⟨by omega, rfl, rfl, rfl, rfl⟩, fun q => absurd c q⟩, fun q => by omega⟩⟩, zF2_of s2 (by omega), s1, hsel, by omega, by omega⟩
        · obtain ⟨s1, s2⟩ := sC_cn h (cn' := zsi c1 1 (zgi c1 1 + 1)) (by rw [zsi_len]; exact l5)
          exact ⟨_, _, _, V130_101 g0 g5 ⟨by omega, fun q => absurd q c8, fun _ => ⟨_, z1, by omega, fun _ => ⟨by omega, by omega, fun q => absurd q c, fun _ => ⟨by omega, rfl, rfl, rfl, rfl⟩⟩, fun q => by omega⟩⟩, zF2_of s2 (by omega), s1, hsel, by omega, by omega⟩
      · obtain ⟨pl, w', cn', k1, k2⟩ := ih (p + 1) (by omega) (by omega) (fun p' q0 q1 q2 => by
          by_cases e : p' = p
          · subst e; exact ⟨u0, e1, by omega, e3⟩
          · exact hq p' q0 (by omega) q2) w1 c1 h
        exact ⟨pl, w', cn', V130_101 g0 g5 ⟨by omega, fun q => absurd q c8, fun _ => ⟨_, z1, by omega, fun q => by omega, fun _ => k1⟩⟩, k2⟩
theorem tk_slot (hok : okB B) (hg : gcB 4 B) (hr : RO ow B) (hl : LR rm B) {room : Int} (hro : rOK 4 room) (h : sC w q x ow sz rm am cn de) : ∃ pl w' cn', Zc sc 130 [zp q, zj room] w (some (zj pl)) w' 0 0 ∧ zF2 w w' q ∧ sC w' q x ow sz rm am cn' de ∧ selP 4 5 (x.2.2.2.2.2.2.1) (holF 4 B) room pl ∧ -1 ≤ pl ∧ pl ≤ 1024 := by
  have hro' : pS room ∨ (128 < room ∧ room % 128 = 0 ∧ room ≤ 1024) := hro
  have hr8 : 8 ≤ room ∧ room ≤ 1024 := by
    rcases hro' with h | h
    · have := pS_8 h; omega
    · omega
  have hsp : room < 128 ∨ (128 ≤ room ∧ room % 128 = 0) := by
    rcases hro' with h | h
    · rcases h with e | e | e | e | e <;> omega
    · omega
  have f82 : (room < 128 → ∀ y ∈ holF 4 B, y.2 ≠ room) → ∀ (p : Int) (v3 : Value) (w1 : List zE) (c1 : List Int), sC w1 q x ow sz rm am c1 de → slotR sc w1 q x ow sz rm am de B room 82 [zp q, zj room, zj p, v3] := fun hS p v3 w1 c1 h1 => by
    by_cases c : 128 ≤ room
    · obtain ⟨pl, w', cn', k1, k2⟩ := sl_pages (sc := sc) hok hg hr (room := room) (n := room / 128) (by omega) (by omega) hr8.1 hS 8 0 (by omega) (by omega) (fun p' q0 q1 => by omega) w1 c1 h1
      exact ⟨pl, w', cn', V130_82 ⟨by omega, fun _ => ⟨by omega, k1⟩, fun q => absurd c q⟩, k2⟩
    · obtain ⟨pl, w', cn', k1, k2⟩ := sl_pages (sc := sc) hok hg hr (room := room) (n := 1) (by omega) (by omega) hr8.1 hS 8 0 (by omega) (by omega) (fun p' q0 q1 => by omega) w1 c1 h1
      exact ⟨pl, w', cn', V130_82 ⟨by omega, fun q => absurd q c, fun _ => k1⟩, k2⟩
  have page : ∀ (m : Nat) (p : Int), p + m = 8 → 0 ≤ p → (room < 128 → ∀ y ∈ holF 4 B, y.2 = room → 128 * p ≤ y.1) → ∀ (v3 : Value) (w1 : List zE) (c1 : List Int), sC w1 q x ow sz rm am c1 de → slotR sc w1 q x ow sz rm am de B room 2 [zp q, zj room, zj p, v3] := by
    intro m
    induction m with
    | zero =>
      intro p hp h0 hq v3 w1 c1 h
      obtain ⟨pl, w', cn', k1, k2⟩ := f82 (fun hlt y hy e => by
        have := hq hlt y hy e
        have d := hol_dis (c := 4) (by omega) hok hg hy
        omega) p v3 w1 c1 h
      obtain ⟨g0, g1, g2, g3, g4, g5, g6, g7, ⟨l1, l2, l3, l4, l5⟩, g9⟩ := id h
      exact ⟨pl, w', cn', V130_2 g0 g5 ⟨by omega, fun _ => k1, fun q => by omega⟩, k2⟩
    | succ m ih =>
      intro p hp h0 hq v3 w1 c1 h
      obtain ⟨g0, g1, g2, g3, g4, g5, g6, g7, ⟨l1, l2, l3, l4, l5⟩, g9⟩ := id h
      by_cases cL : 128 < room
      · obtain ⟨pl, w', cn', k1, k2⟩ := f82 (fun hlt => by omega) p v3 w1 c1 h
        exact ⟨pl, w', cn', V130_2 g0 g5 ⟨by omega, fun q => by omega, fun _ => ⟨by omega, fun _ => k1, fun q => absurd cL q⟩⟩, k2⟩
      · have hps : pS room := by
          rcases hro' with h | h
          · exact h
          · omega
        have hcl := zp_pageClass (sc := sc) h hok hg hr hl (p := p) ⟨h0, by omega⟩
        have hrg := lastK_rg hok hg p
        by_cases ck : lastK B p = room
        · have loop : ∀ (m : Nat) (u : Int), 0 ≤ u → 128 - u ≤ 8 * (m : Int) → u ≤ 256 → u % room = 0 → (room < 128 → ∀ y ∈ holF 4 B, y.2 = room → 128 * p + u ≤ y.1) → ∀ (w1 : List zE) (c1 : List Int), sC w1 q x ow sz rm am c1 de → slotR sc w1 q x ow sz rm am de B room 39 [zp q, zj room, zj p, zj u] := by
            have out : ∀ u : Int, 128 ≤ u → u ≤ 256 → (room < 128 → ∀ y ∈ holF 4 B, y.2 = room → 128 * p + u ≤ y.1) → ∀ (w1 : List zE) (c1 : List Int), sC w1 q x ow sz rm am c1 de → slotR sc w1 q x ow sz rm am de B room 39 [zp q, zj room, zj p, zj u] := fun u hu hu2 hq2 w1 c1 h => by
              obtain ⟨pl, w', cn', k1, k2⟩ := ih (p + 1) (by omega) (by omega) (fun hlt y hy e => by
                have := hq2 hlt y hy e
                omega) (zj u) w1 c1 h
              obtain ⟨g0, g1, g2, g3, g4, g5, g6, g7, ⟨l1, l2, l3, l4, l5⟩, g9⟩ := id h
              exact ⟨pl, w', cn', V130_39 g0 g1 ⟨by omega, fun _ => k1, fun q => by omega⟩, k2⟩
            intro m
            induction m with
            | zero => intro u u0 u1 u2 u3 hq2 w1 c1 h; exact out u (by omega) u2 hq2 w1 c1 h
            | succ m ih2 =>
              intro u u0 u1 u2 u3 hq2 w1 c1 h
              by_cases cu : 128 ≤ u
              · exact out u cu u2 hq2 w1 c1 h
              obtain ⟨g0, g1, g2, g3, g4, g5, g6, g7, ⟨l1, l2, l3, l4, l5⟩, g9⟩ := id h
              obtain ⟨f1, f2⟩ := RO_free hok hr (u := 128 * p + u) (by omega) (by omega)
              obtain ⟨m1, m2⟩ := pS_add hps u3 p
              by_cases co : 0 ≤ zgi ow (128 * p + u)
              · obtain ⟨pl, w', cn', k1, k2⟩ := ih2 (u + room) (by omega) (by omega) (by omega) m2 (fun hlt y hy e => by
                  have a := hq2 hlt y hy e
                  have d := hol_dis (c := 4) (by omega) hok hg hy
                  have ne : y.1 ≠ 128 * p + u := fun e2 => by
                    have := f2.mpr (fun b hb e3 => by
                      have := d.2.2.2 b hb
                      omega)
                    omega
                  rcases slab_hole hok hg hy with ⟨a1, a2, a3⟩ | ⟨a1, a2, a3, a4, a5⟩
                  · omega
                  · rw [e] at a4
                    have := pS_next hps m1 a4 (by omega)
                    omega) w1 c1 h
                exact ⟨pl, w', cn', V130_39 g0 g1 ⟨by omega, fun q => absurd q cu, fun _ => ⟨by omega, by omega, fun _ => k1, fun q => absurd co q⟩⟩, k2⟩
              · have hno := f2.mp (by omega)
                have hin := slab_slot hok hg (u := 128 * p + u) (r := room) (by omega) (by omega) hno hps (by rw [show (128 * p + u) / 128 = p by omega]; exact ck) m1
                have d := hol_dis (c := 4) (by omega) hok hg hin
                dsimp only at d
                have hlt : room < 128 := by
                  by_cases e : room < 128
                  · exact e
                  · exfalso
                    have e128 : room = 128 := by omega
                    rw [e128] at u3 d
                    have : lastK B p = 0 := pgF_none (fun b hb ho => by
                      have := d.2.2.2 b hb
                      have gb := hok.2 b hb
                      unfold onPg at ho
                      omega)
                    omega
                obtain ⟨j, j1, j2⟩ := isF_of_min (P := fun z => z.2 = room) (hol_sorted (c := 4) (by omega) hok hg) (fun z hz => (hol_dis (c := 4) (by omega) hok hg hz).2.1) hin rfl (fun z hz e => hq2 hlt z hz e)
                exact ⟨_, _, _, V130_39 g0 g1 ⟨by omega, fun q => absurd q cu, fun _ => ⟨by omega, by omega, fun q => absurd q co, fun _ => ⟨rfl, rfl, rfl, rfl⟩⟩⟩, zF2_refl _ _, h, ⟨j, Or.inl ⟨hlt, j, j1, Or.inl ⟨by omega, rfl⟩⟩, Or.inr ⟨j, _, rfl, j2, ⟨Int.le_refl _, fun _ => Or.inl rfl⟩, rfl⟩⟩, by omega, by omega⟩
          obtain ⟨s1, s2⟩ := sC_cn h (cn' := zsi c1 0 (zgi c1 0 + 1)) (by rw [zsi_len]; exact l5)
          obtain ⟨pl, w', cn', k1, k2, k3⟩ := loop 16 0 (by omega) (by omega) (by omega) (Int.zero_emod _) (fun hlt y hy e => by
            have := hq hlt y hy e
            omega) _ _ s1
          exact ⟨pl, w', cn', V130_2 g0 g5 ⟨by omega, fun q => by omega, fun _ => ⟨by omega, fun q => absurd q cL, fun _ => ⟨_, hcl, by omega, fun _ => ⟨by omega, by omega, k1⟩, fun q => absurd ck q⟩⟩⟩, zF2_trans (zF2_of s2 (by omega)) k2, k3⟩
        · obtain ⟨pl, w', cn', k1, k2⟩ := ih (p + 1) (by omega) (by omega) (fun hlt y hy e => by
            have a := hq hlt y hy e
            rcases slab_hole hok hg hy with ⟨a1, a2, a3⟩ | ⟨a1, a2, a3, a4, a5⟩
            · omega
            · by_cases e2 : y.1 / 128 = p
              · rw [e2] at a3
                omega
              · omega) v3 w1 c1 h
          exact ⟨pl, w', cn', V130_2 g0 g5 ⟨by omega, fun q => by omega, fun _ => ⟨by omega, fun q => absurd q cL, fun _ => ⟨_, hcl, by omega, fun q => absurd q ck, fun _ => k1⟩⟩⟩, k2⟩
  obtain ⟨pl, w', cn', k1, k2⟩ := page 8 0 (by omega) (by omega) (fun hlt y hy e => by
    have d := hol_dis (c := 4) (by omega) hok hg hy
    omega) zmk w cn h
  exact ⟨pl, w', cn', Zc_of rfl rfl (V130_0 k1), k2⟩
theorem zp_take (h : sC w q x ow sz rm am cn de) (hwy : x.2.1 = wy) (hw6 : wy < 6) (hok : okB B) (hg : gcB (clsL wy) B) (hr : RO ow B) (hl : LR rm B) {room : Int} (hro : rOK (clsL wy) room) (hhn : 0 ≤ x.2.2.2.2.2.2.1 ∧ x.2.2.2.2.2.2.1 ≤ 1023) : ∃ pl w' cn' s, Zc sc 125 [zp q, zj room] w (some (zj pl)) w' 2 s ∧ s ≤ 4096 ∧ zF2 w w' q ∧ sC w' q (xhF x (if pl < 0 then x.2.2.2.2.2.2.1 else hnF wy (x.2.2.2.2.2.2.1) pl room)) ow sz rm am cn' de ∧ selP (clsL wy) wy (x.2.2.2.2.2.2.1) (holF (clsL wy) B) room pl ∧ -1 ≤ pl ∧ pl ≤ 1024 := by
  have hr1 := rOK_rg (clsL_c wy) hro
  obtain ⟨p, w1, s, row, z1, z2, z3, z4, z5, z6, z7⟩ := zp_holes (sc := sc) h hwy hw6 hok hg hr hl
  have h1 := sC_new z3 h
  obtain ⟨g0, g1, g2, g3, g4, g5, g6, g7, ⟨l1, l2, l3, l4, l5⟩, g9⟩ := id h
  by_cases c5 : wy < 5
  · have hlq : q + 77 < w.length := by
      rw [List.getElem?_eq_some_iff] at g5
      exact g5.1
    obtain ⟨pl, w', cn', k1, k2, k3⟩ := tk_loop (sc := sc) hwy c5 hok hg hr1 (z7 c5) z6 (by omega) hhn w1 cn h1 z5
    exact ⟨pl, w', cn', s, Zc_of rfl rfl (V125_0 g0 ⟨p, w1, 2, s, 0, 0, z1, ⟨rfl, rfl⟩, _, _, _, _, _, _, _, _, _, _, h1.1, by omega, fun _ => k1, fun q => by omega⟩), z2, zF2_trans (zF2_0 z3) k2, k3⟩
  · obtain rfl : wy = 5 := by omega
    obtain ⟨pl, w', cn', k1, k2, k3, k4⟩ := tk_slot (sc := sc) hok hg hr hl hro h1
    refine ⟨pl, w', cn', s, Zc_of rfl rfl (V125_0 g0 ⟨p, w1, 2, s, 0, 0, z1, ⟨rfl, rfl⟩, _, _, _, _, _, _, _, _, _, _, h1.1, by omega, fun q => by omega, fun _ => ⟨pl, w', k1, rfl, rfl, rfl, rfl⟩⟩), z2, zF2_trans (zF2_0 z3) k2, ?_, k4⟩
    have e : (if pl < 0 then x.2.2.2.2.2.2.1 else hnF ((5 : Nat) : Int) (x.2.2.2.2.2.2.1) pl room) = x.2.2.2.2.2.2.1 := by
      split
      · rfl
      · unfold hnF
        rw [if_neg (by omega)]
    rw [e]
    exact k3
end TAS
