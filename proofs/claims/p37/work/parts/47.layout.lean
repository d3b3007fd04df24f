/-! ===== holes are laid out ===== -/
def holF (c : Nat) (B : List bk_T) : List hl_T := holL (partC c (pgF B)) B 0
def LC (c n : Nat) (f : Int) (len : Nat) : Prop := match c with
  | 2 => len ≤ n
  | _ => 8 * (len : Int) ≤ f
theorem lc_up_1 {n n' len : Nat} {f f' : Int} (h : LC 1 n f len) (hf : f ≤ f') : LC 1 n' f' len := Int.le_trans (show 8 * (len : Int) ≤ f from h) hf
theorem lc_up_4 {n n' len : Nat} {f f' : Int} (h : LC 4 n f len) (hf : f ≤ f') : LC 4 n' f' len := Int.le_trans (show 8 * (len : Int) ≤ f from h) hf
theorem lc_up_2 {n len : Nat} {f f' : Int} (h : LC 2 n f len) (hf : f ≤ f') : LC 2 n f' len := h
section LAY
variable {sc : List Value} {w w' : List zE} {m : Nat} {k : mk_T} {hn sn : Int} {cn : List Int} {B B' : List bk_T} {H H' : List hl_T} {pg pg' : List Int}
theorem sR_H {c : Nat} (h : sR w c m k hn sn cn B H pg) (hf : zFm w w' (m + 6) 3) (hH : sH w' (m + 6) H') : sR w' c m k hn sn cn B H' pg :=
  ⟨zFm_get hf h.1 (by omega), sB_fm hf (by omega) h.2.1, hH, zFm_get hf h.2.2.2.1 (by omega), zFm_get hf h.2.2.2.2.1 (by omega), fun e => zFm_get hf (h.2.2.2.2.2 e) (by omega)⟩
theorem sR_B {c : Nat} (h : sR w c m k hn sn cn B H pg) (hf : zFm w w' (m + 1) 5) (hB : sB w' (m + 1) B') : sR w' c m k hn sn cn B' H pg :=
  ⟨zFm_get hf h.1 (by omega), hB, sH_fm hf (by omega) h.2.2.1, zFm_get hf h.2.2.2.1 (by omega), zFm_get hf h.2.2.2.2.1 (by omega), fun e => zFm_get hf (h.2.2.2.2.2 e) (by omega)⟩
theorem sR_pg {c : Nat} (hc : c ≠ 4) (h : sR w c m k hn sn cn B H pg) : sR w c m k hn sn cn B H pg' :=
  ⟨h.1, h.2.1, h.2.2.1, h.2.2.2.1, h.2.2.2.2.1, fun e => absurd e hc⟩
theorem zFm_H {c : Nat} (hf : zFm w w' (m + 6) 3) : zFm w w' m (msz c) := zFm_mono hf (by omega) (by have := msz_ge c; omega)
theorem zFm_B {c : Nat} (hf : zFm w w' (m + 1) 5) : zFm w w' m (msz c) := zFm_mono hf (by omega) (by have := msz_ge c; omega)
theorem zc_addGap_2 (h : sR w 2 m k hn sn cn B H pg) {f t : Int} (hq : QF 2 pg f t) {n : Nat} (hl : LC 2 n f H.length) (hn2 : n ≤ 81) : ∃ w', Zc sc 78 [zp m, zj f, zj t] w none w' 0 0 ∧ zFm w w' m (msz 2) ∧ sR w' 2 m k hn sn cn B (H ++ gapL (partC 2 pg) 128 f t) pg ∧ LC 2 (n + 1) t (H ++ gapL (partC 2 pg) 128 f t).length := by
  obtain ⟨h0, h1, h2⟩ := hq
  have hl' : H.length ≤ n := hl
  have e : gapL (partC 2 pg) 128 f t = if f < t then [(f, t - f)] else [] := gapL_F
  rw [e]
  by_cases g : f < t
  · rw [if_pos g]
    obtain ⟨w', z1, z2, z3⟩ := zc_hAdd (sc := sc) h.2.2.1 (p := f) (z := t - f) (by omega) (by omega)
    refine ⟨w', Zc_of rfl rfl (V78_0 h.1 ⟨by omega, fun _ => by omega, fun _ => ⟨_, h.2.2.1.ob, _, z1, rfl, rfl, rfl, rfl⟩⟩), zFm_H z2, sR_H h z2 z3, ?_⟩
    show (H ++ [(f, t - f)]).length ≤ n + 1
    rw [List.length_append, List.length_singleton]
    omega
  · rw [if_neg g, List.append_nil]
    exact ⟨w, Zc_of rfl rfl (V78_0 h.1 ⟨by omega, fun _ => ⟨rfl, rfl, rfl, rfl⟩, fun _ => by omega⟩), zFm_refl _ _ _, h, show H.length ≤ n + 1 by omega⟩
theorem zc_largestPart {f t : Int} (h0 : 0 ≤ f ∧ f ≤ 1024) (h1 : 0 ≤ t ∧ t ≤ 1024) : Zc sc 76 [zj f, zj t] w (some (zj (parB f t))) w 0 0 := by
  have stp : ∀ x r : Int, 8 < x → x ≤ 1024 → (¬ (f % x = 0 ∧ x ≤ t - f) → Zr sc 76 4 [zj f, zj t, zj (x / 2)] [] w (some (zj r)) w 0 0) → ((f % x = 0 ∧ x ≤ t - f) → r = x) → Zr sc 76 4 [zj f, zj t, zj x] [] w (some (zj r)) w 0 0 := fun x r g0 g1 g2 g3 => by
    have e1 := Int.emod_nonneg f (show x ≠ 0 by omega)
    have e2 := Int.emod_lt_of_pos f (show 0 < x by omega)
    exact V76_4 ⟨by omega, fun _ => by omega, fun _ => ⟨by omega, by omega, fun q => ⟨by omega, g2 (fun z => q z.1)⟩, fun q => ⟨by omega, fun q2 => ⟨by omega, g2 (fun z => by omega)⟩, fun q2 => ⟨zj_e (g3 ⟨by omega, by omega⟩), rfl, rfl, rfl⟩⟩⟩⟩
  refine Zc_of rfl rfl (V76_0 ?_)
  unfold parB
  refine stp 1024 _ (by omega) (by omega) (fun g => ?_) (fun g => by rw [if_pos g])
  rw [if_neg g]
  refine stp 512 _ (by omega) (by omega) (fun g => ?_) (fun g => by rw [if_pos g])
  rw [if_neg g]
  refine stp 256 _ (by omega) (by omega) (fun g => ?_) (fun g => by rw [if_pos g])
  rw [if_neg g]
  refine stp 128 _ (by omega) (by omega) (fun g => ?_) (fun g => by rw [if_pos g])
  rw [if_neg g]
  refine stp 64 _ (by omega) (by omega) (fun g => ?_) (fun g => by rw [if_pos g])
  rw [if_neg g]
  refine stp 32 _ (by omega) (by omega) (fun g => ?_) (fun g => by rw [if_pos g])
  rw [if_neg g]
  refine stp 16 _ (by omega) (by omega) (fun g => ?_) (fun g => by rw [if_pos g])
  rw [if_neg g]
  exact V76_4 ⟨by omega, fun _ => ⟨rfl, rfl, rfl, rfl⟩, fun _ => by omega⟩
theorem zc_addGap_1 (h : sR w 1 m k hn sn cn B H pg) {f t : Int} (hq : QF 1 pg f t) {n : Nat} (hl : LC 1 n f H.length) : ∃ w', Zc sc 75 [zp m, zj f, zj t] w none w' 0 0 ∧ zFm w w' m (msz 1) ∧ sR w' 1 m k hn sn cn B (H ++ gapL (partC 1 pg) 128 f t) pg ∧ LC 1 (n + 1) t (H ++ gapL (partC 1 pg) 128 f t).length := by
  have key : ∀ (n i : Nat) (x : Int) (w : List zE) (H : List hl_T) (v : Value), i + n = 128 → 0 ≤ x → x ≤ t → t ≤ 1024 → x % 8 = 0 → t % 8 = 0 → 8 * (H.length : Int) ≤ x → sR w 1 m k hn sn cn B H pg → ∃ w', Zr sc 75 5 [zp m, zj f, zj t, zj x, zj i, v] [] w none w' 0 0 ∧ zFm w w' m (msz 1) ∧ sR w' 1 m k hn sn cn B (H ++ gapL parB n x t) pg ∧ 8 * ((H ++ gapL parB n x t).length : Int) ≤ t := by
    intro n
    induction n with
    | zero =>
      intro i x w H v hi h0 h1 h2 h3 h4 h5 h
      refine ⟨w, V75_5 h.1 ⟨by omega, fun _ => ⟨rfl, rfl, rfl, rfl⟩, fun _ => by omega⟩, zFm_refl _ _ _, ?_, ?_⟩
      · rw [show gapL parB 0 x t = [] from rfl, List.append_nil]; exact h
      · rw [show gapL parB 0 x t = [] from rfl, List.append_nil]; omega
    | succ n ih =>
      intro i x w H v hi h0 h1 h2 h3 h4 h5 h
      by_cases g : x < t
      · have e : gapL parB (n + 1) x t = (x, parB x t) :: gapL parB n (x + parB x t) t := by
          show (if x < t then _ else _) = _
          rw [if_pos g]
        obtain ⟨p1, p2, p3⟩ := parB_ok h0 g h3 h4
        have p4 := pP_8 p1
        obtain ⟨w1, z1, z2, z3⟩ := zc_hAdd (sc := sc) h.2.2.1 (p := x) (z := parB x t) (by omega) (by omega)
        obtain ⟨w2, y1, y2, y3, y4⟩ := ih (i + 1) (x + parB x t) w1 (H ++ [(x, parB x t)]) (zj (parB x t)) (by omega) (by omega) (by omega) h2 (by omega) h4 (by rw [List.length_append, List.length_singleton]; omega) (sR_H h z2 z3)
        rw [List.append_assoc, List.singleton_append] at y3 y4
        rw [e]
        exact ⟨w2, V75_5 h.1 ⟨by omega, fun _ => by omega, fun _ => ⟨by omega, fun _ => by omega, fun _ => ⟨_, zc_largestPart (by omega) (by omega), _, h.2.2.1.ob, w1, z1, y1⟩⟩⟩, zFm_trans (zFm_H z2) y2, y3, y4⟩
      · have e : gapL parB (n + 1) x t = [] := by
          show (if x < t then _ else _) = _
          rw [if_neg g]
        rw [e, List.append_nil]
        exact ⟨w, V75_5 h.1 ⟨by omega, fun _ => by omega, fun _ => ⟨by omega, fun _ => ⟨rfl, rfl, rfl, rfl⟩, fun _ => by omega⟩⟩, zFm_refl _ _ _, h, by omega⟩
  obtain ⟨h0, h1, h2, h3, h4⟩ := hq
  obtain ⟨w', z1, z2, z3, z4⟩ := key 128 0 f w H zmk (by omega) h0 h1 h2 h3 h4 hl h
  exact ⟨w', Zc_of rfl rfl (V75_0 z1), z2, z3, z4⟩
theorem zc_classOf_4 (h : sR w 4 m k hn sn cn B H pg) (hp : okPg pg) {p : Int} (hr : zrg p) : Zc sc 80 [zp m, zj p] w (some (zj (clsF pg p))) w 0 0 := by
  have hpl := hp.1
  unfold clsF
  by_cases g : 0 ≤ p ∧ p < 8
  · rw [if_pos g]
    exact Zc_of rfl rfl (V80_0 h.1 (h.2.2.2.2.2 rfl) ⟨by omega, fun _ => by omega, fun _ => ⟨by omega, fun _ => by omega, fun _ => ⟨by omega, rfl, rfl, rfl, rfl⟩⟩⟩)
  · rw [if_neg g]
    exact Zc_of rfl rfl (V80_0 h.1 (h.2.2.2.2.2 rfl) ⟨by omega, fun _ => ⟨rfl, rfl, rfl, rfl⟩, fun _ => ⟨by omega, fun _ => ⟨rfl, rfl, rfl, rfl⟩, fun _ => by omega⟩⟩)
theorem zc_addGap_4 (h : sR w 4 m k hn sn cn B H pg) (hp : okPg pg) {f t : Int} (hq : QF 4 pg f t) {n : Nat} (hl : LC 4 n f H.length) : ∃ w', Zc sc 79 [zp m, zj f, zj t] w none w' 0 0 ∧ zFm w w' m (msz 4) ∧ sR w' 4 m k hn sn cn B (H ++ gapL (partC 4 pg) 128 f t) pg ∧ LC 4 (n + 1) t (H ++ gapL (partC 4 pg) 128 f t).length := by
  have key : ∀ (n i : Nat) (x : Int) (w : List zE) (H : List hl_T) (v : Value), i + n = 128 → gS pg t x → 8 * (H.length : Int) ≤ x → sR w 4 m k hn sn cn B H pg → ∃ w', Zr sc 79 5 [zp m, zj f, zj t, zj x, zj i, v] [] w none w' 0 0 ∧ zFm w w' m (msz 4) ∧ sR w' 4 m k hn sn cn B (H ++ gapL (parS pg) n x t) pg ∧ 8 * ((H ++ gapL (parS pg) n x t).length : Int) ≤ t := by
    intro n
    induction n with
    | zero =>
      intro i x w H v hi hg h5 h
      obtain ⟨h0, h1, h2, -⟩ := id hg
      refine ⟨w, V79_5 h.1 ⟨by omega, fun _ => ⟨rfl, rfl, rfl, rfl⟩, fun _ => by omega⟩, zFm_refl _ _ _, ?_, ?_⟩
      · rw [show gapL (parS pg) 0 x t = [] from rfl, List.append_nil]; exact h
      · rw [show gapL (parS pg) 0 x t = [] from rfl, List.append_nil]; omega
    | succ n ih =>
      intro i x w H v hi hg h5 h
      obtain ⟨h0, h1, h2, -⟩ := id hg
      by_cases g : x < t
      · have e : gapL (parS pg) (n + 1) x t = (x, parS pg x t) :: gapL (parS pg) n (x + parS pg x t) t := by
          show (if x < t then _ else _) = _
          rw [if_pos g]
        obtain ⟨p1, p2, p3, -⟩ := parS_ok hg g
        obtain ⟨w1, z1, z2, z3⟩ := zc_hAdd (sc := sc) h.2.2.1 (p := x) (z := parS pg x t) (by omega) (by omega)
        obtain ⟨w2, y1, y2, y3, y4⟩ := ih (i + 1) (x + parS pg x t) w1 (H ++ [(x, parS pg x t)]) (zj (parS pg x t)) (by omega) p3 (by rw [List.length_append, List.length_singleton]; omega) (sR_H h z2 z3)
        rw [List.append_assoc, List.singleton_append] at y3 y4
        rw [e]
        refine ⟨w2, ?_, zFm_trans (zFm_H z2) y2, y3, y4⟩
        have hcl := zc_classOf_4 (sc := sc) h hp (p := x / 128) ⟨by omega, by omega⟩
        have hcr : zrg (clsF pg (x / 128)) := by
          have := hp.2 (x / 128)
          unfold clsF
          split <;> omega
        by_cases c1 : x % 128 = 0
        · by_cases c2 : 128 ≤ t - x
          · have e1 : parS pg x t = (t - x) / 128 * 128 := by unfold parS; rw [if_pos ⟨c1, c2⟩]
            rw [e1] at z1 y1
            exact V79_5 h.1 ⟨by omega, fun _ => by omega, fun _ => ⟨by omega, fun _ => by omega, fun _ => ⟨by omega, by omega, fun q => absurd c1 q, fun _ => ⟨by omega, fun _ => by omega, fun _ => ⟨by omega, _, h.2.2.1.ob, w1, z1, y1⟩⟩⟩⟩⟩
          · have e1 : parS pg x t = max (clsF pg (x / 128)) 8 := by unfold parS; rw [if_neg (fun q => c2 q.2)]
            rw [e1] at z1 y1
            exact V79_5 h.1 ⟨by omega, fun _ => by omega, fun _ => ⟨by omega, fun _ => by omega, fun _ => ⟨by omega, by omega, fun q => absurd c1 q, fun _ => ⟨by omega, fun _ => ⟨by omega, _, hcl, ⟨hcr, by omega⟩, _, h.2.2.1.ob, w1, z1, y1⟩, fun _ => by omega⟩⟩⟩⟩
        · have e1 : parS pg x t = max (clsF pg (x / 128)) 8 := by unfold parS; rw [if_neg (fun q => c1 q.1)]
          rw [e1] at z1 y1
          exact V79_5 h.1 ⟨by omega, fun _ => by omega, fun _ => ⟨by omega, fun _ => by omega, fun _ => ⟨by omega, by omega, fun _ => ⟨by omega, _, hcl, ⟨hcr, by omega⟩, _, h.2.2.1.ob, w1, z1, y1⟩, fun q => absurd c1 q⟩⟩⟩
      · have e : gapL (parS pg) (n + 1) x t = [] := by
          show (if x < t then _ else _) = _
          rw [if_neg g]
        rw [e, List.append_nil]
        exact ⟨w, V79_5 h.1 ⟨by omega, fun _ => by omega, fun _ => ⟨by omega, fun _ => ⟨rfl, rfl, rfl, rfl⟩, fun _ => by omega⟩⟩, zFm_refl _ _ _, h, by omega⟩
  obtain ⟨w', z1, z2, z3, z4⟩ := key 128 0 f w H zmk (by omega) hq hl h
  exact ⟨w', Zc_of rfl rfl (V79_0 z1), z2, z3, z4⟩
theorem sR_setpg (h : sR w 4 m k hn sn cn B H pg) : sR (w.set (m + 11) (za pg')) 4 m k hn sn cn B H pg' ∧ zFm w (w.set (m + 11) (za pg')) m (msz 4) := by
  have hf : zFm w (w.set (m + 11) (za pg')) (m + 11) 1 := zFm_set (by omega) (by omega)
  exact ⟨⟨zFm_get hf h.1 (by omega), sB_fm hf (by omega) h.2.1, sH_fm hf (by omega) h.2.2.1, zFm_get hf h.2.2.2.1 (by omega), zFm_get hf h.2.2.2.2.1 (by omega), fun e => zw_s (h.2.2.2.2.2 e)⟩, zFm_mono hf (by omega) (show _ ≤ m + 12 by omega)⟩
theorem zc_sortPages_4 (h : sR w 4 m k hn sn cn B H pg) (hp : pg.length = 8) : ∃ w', Zc sc 70 [zp m] w none w' 0 0 ∧ zFm w w' m (msz 4) ∧ sR w' 4 m k hn sn cn B H (pgF B) := by
  have inner : ∀ (X : List bk_T) (b : bk_T) (Y : List bk_T), B = X ++ b :: Y → (∀ (w : List zE) (pg : List Int) (v2 v3 v4 v5 : Value), sR w 4 m k hn sn cn B H pg → pg.length = 8 → (∀ p : Int, 0 ≤ p → p < 8 → zgi pg p = lastK (X ++ [b]) p) → ∃ w', Zr sc 70 10 [zp m, zj ((X.length : Int) + 1), v2, v3, v4, v5] [] w none w' 0 0 ∧ zFm w w' m (msz 4) ∧ sR w' 4 m k hn sn cn B H (pgF B)) →
      ∀ (n : Nat) (x fr : Int) (w : List zE) (pg : List Int), x + n = 8 → b.2.1 / 128 ≤ x → (∀ p : Int, b.2.1 / 128 ≤ p → p < x → 128 * p < b.2.1 + b.2.2.2) → sR w 4 m k hn sn cn B H pg → pg.length = 8 → (∀ p : Int, 0 ≤ p → p < 8 → zgi pg p = if p < x then lastK (X ++ [b]) p else lastK X p) →
      ∃ w', Zr sc 70 79 [zp m, zj X.length, zj b.1, zj (kindB b), zj fr, zj x] [] w none w' 0 0 ∧ zFm w w' m (msz 4) ∧ sR w' 4 m k hn sn cn B H (pgF B) := by
    intro X b Y hB cont n
    induction n with
    | zero =>
      intro x fr w pg hx h1 h2 h hl q
      have gb := h.2.1.1.2 b (by rw [hB]; simp)
      obtain ⟨w', z1, z2⟩ := cont w pg (zj b.1) (zj (kindB b)) (zj fr) (zj x) h hl (fun p p0 p1 => by rw [q p p0 p1, if_pos (by omega)])
      exact ⟨w', V70_79 h.1 (h.2.2.2.2.2 rfl) ⟨by omega, fun _ => z1, fun _ => by omega⟩, z2⟩
    | succ n ih =>
      intro x fr w pg hx h1 h2 h hl q
      have hbB : b ∈ B := by rw [hB]; simp
      have gb := h.2.1.1.2 b hbB
      have he := zc_endOf_t (sc := sc) h.2.1 hbB
      by_cases c1 : b.2.1 + b.2.2.2 ≤ x * 128
      · obtain ⟨w', z1, z2⟩ := cont w pg (zj b.1) (zj (kindB b)) (zj fr) (zj x) h hl (fun p p0 p1 => by
          rw [q p p0 p1]
          split
          · rfl
          · rw [lastK_snoc, if_neg (by omega)])
        exact ⟨w', V70_79 h.1 (h.2.2.2.2.2 rfl) ⟨by omega, fun _ => by omega, fun _ => ⟨_, h.2.1.ob, _, he, by omega, fun _ => z1, fun _ => by omega⟩⟩, z2⟩
      · obtain ⟨h', hf⟩ := sR_setpg (pg' := zsi pg x (kindB b)) h
        obtain ⟨w', z1, z2, z3⟩ := ih (x + 1) fr (w.set (m + 11) (za (zsi pg x (kindB b)))) (zsi pg x (kindB b)) (by omega) (by omega) (fun p p0 p1 => by
            by_cases e : p = x
            · omega
            · exact h2 p p0 (by omega)) h' (by rw [zsi_len]; exact hl) (fun p p0 p1 => by
          rw [zgi_set (by omega) (by omega) p0]
          by_cases e : p = x
          · subst e
            rw [if_pos rfl, if_pos (by omega), lastK_snoc, if_pos (by omega)]
          · rw [if_neg e, q p p0 p1]
            by_cases e2 : p < x
            · rw [if_pos e2, if_pos (by omega)]
            · rw [if_neg e2, if_neg (by omega)])
        exact ⟨w', V70_79 h.1 (h.2.2.2.2.2 rfl) ⟨by omega, fun _ => by omega, fun _ => ⟨_, h.2.1.ob, _, he, by omega, fun _ => by omega, fun _ => ⟨by omega, z1⟩⟩⟩, zFm_trans hf z2, z3⟩
  have outer : ∀ (Y X : List bk_T) (w : List zE) (pg : List Int) (v2 v3 v4 v5 : Value), B = X ++ Y → sR w 4 m k hn sn cn B H pg → pg.length = 8 → (∀ p : Int, 0 ≤ p → p < 8 → zgi pg p = lastK X p) → ∃ w', Zr sc 70 10 [zp m, zj X.length, v2, v3, v4, v5] [] w none w' 0 0 ∧ zFm w w' m (msz 4) ∧ sR w' 4 m k hn sn cn B H (pgF B) := by
    intro Y
    induction Y with
    | nil =>
      intro X w pg v2 v3 v4 v5 e h hl q
      rw [List.append_nil] at e
      subst e
      have e2 : pg = pgF B := pg_ext hl (pgF_len B) (fun p p0 p1 => by rw [q p p0 p1, pgF_get B p0 p1])
      have hBl := h.2.1.2.1
      exact ⟨w, V70_10 h.1 ⟨_, h.2.1.ob, _, zc_howMany h.2.1, by omega, fun _ => ⟨rfl, rfl, rfl, rfl⟩, fun _ => by omega⟩, zFm_refl _ _ _, e2 ▸ h⟩
    | cons b Y ih =>
      intro X w pg v2 v3 v4 v5 e h hl q
      have hk : B[X.length]? = some b := by rw [e]; exact mid_eq
      have hbB := List.mem_of_getElem? hk
      have hlt := (List.getElem?_eq_some_iff.mp hk).1
      have hBl := h.2.1.2.1
      have gb := h.2.1.1.2 b hbB
      obtain ⟨w', z1, z2⟩ := inner X b Y e (fun w pg v2 v3 v4 v5 h hl q => by
        have := ih (X ++ [b]) w pg v2 v3 v4 v5 (by rw [e]; simp) h hl q
        rw [List.length_append] at this
        exact this) (8 - b.2.1 / 128).toNat (b.2.1 / 128) (b.2.1 / 128) w pg (by omega) (Int.le_refl _) (fun p p0 p1 => by omega) h hl (fun p p0 p1 => by
          rw [q p p0 p1]
          split
          · rw [lastK_snoc, if_neg (by omega)]
          · rfl)
      have em : max (b.2.1 / 128) 0 = b.2.1 / 128 := by omega
      rw [← em] at z1
      refine ⟨w', V70_10 h.1 ⟨_, h.2.1.ob, _, zc_howMany h.2.1, by omega, fun _ => by omega, fun _ => ⟨_, zc_inOrder h.2.1 hk, _, zc_roomOf_t h.2.1 hbB, by omega, fun g => ⟨_, zc_placeOf_t h.2.1 hbB, by omega, by omega, ?_⟩, fun g => ⟨_, zc_roomOf_t h.2.1 hbB, _, zc_placeOf_t h.2.1 hbB, by omega, by omega, ?_⟩⟩⟩, z2⟩
      · have ek : kindB b = -1 := by unfold kindB; rw [if_neg (by omega)]
        rw [ek, em] at z1
        rw [em]
        exact z1
      · have ek : kindB b = b.2.2.2 := by unfold kindB; rw [if_pos (by omega)]
        rw [ek, em] at z1
        rw [em]
        exact z1
  have hfl := zc_fill (sc := sc) (v := 0) (by omega) (h.2.2.2.2.2 rfl)
  obtain ⟨h', hf⟩ := sR_setpg (pg' := List.replicate pg.length 0) h
  obtain ⟨w', z1, z2, z3⟩ := outer B [] _ _ zmk zmk zmk zmk rfl h' (by rw [List.length_replicate]; exact hp) (fun p _ _ => zgi_rep _ _)
  exact ⟨w', Zc_of rfl rfl (V70_0 h.1 ⟨_, hfl, z1⟩), zFm_trans hf z2, z3⟩
theorem layOut_key_1 (hq : gcB 1 B) : ∀ (Y X : List bk_T) (f : Int) (H : List hl_T) (w : List zE) (v : Value), B = X ++ Y → sR w 1 m k hn sn cn B H (pgF B) → gOK (QF 1 (pgF B)) Y f → LC 1 X.length f H.length → ∃ w', Zr sc 69 15 [zp m, zj f, zj X.length, v] [] w none w' 0 0 ∧ zFm w w' m (msz 1) ∧ sR w' 1 m k hn sn cn B (H ++ holL (partC 1 (pgF B)) Y f) (pgF B) := by
  intro Y
  induction Y with
  | nil =>
    intro X f H w v e h hg hl
    rw [List.append_nil] at e
    subst e
    have hBl := h.2.1.2.1
    have hp := pgF_ok h.2.1.1
    obtain ⟨w', z1, z2, z3, -⟩ := zc_addGap_1 (sc := sc) h  hg hl 
    exact ⟨w', V69_15_1 h.1 ⟨_, h.2.1.ob, _, zc_howMany h.2.1, by omega, fun _ => ⟨w', z1, rfl, rfl, rfl, rfl⟩, fun _ => by omega⟩, z2, z3⟩
  | cons b Y ih =>
    intro X f H w v e h hg hl
    have hk : B[X.length]? = some b := by rw [e]; exact mid_eq
    have hbB := List.mem_of_getElem? hk
    have hlt := (List.getElem?_eq_some_iff.mp hk).1
    have hBl := h.2.1.2.1
    have gb := h.2.1.1.2 b hbB
    have hp := pgF_ok h.2.1.1
    obtain ⟨w1, z1, z2, z3, z4⟩ := zc_addGap_1 (sc := sc) h  hg.1 hl 
    obtain ⟨w2, y1, y2, y3⟩ := ih (X ++ [b]) (b.2.1 + b.2.2.2) _ w1 (zj b.1) (by rw [e]; simp) z3 hg.2 (by rw [List.length_append]; exact lc_up_1 z4 (by omega))
    rw [List.append_assoc] at y3
    rw [List.length_append] at y1
    exact ⟨w2, V69_15_1 h.1 ⟨_, h.2.1.ob, _, zc_howMany h.2.1, by omega, fun _ => by omega, fun _ => ⟨_, zc_inOrder h.2.1 hk, _, zc_placeOf_t h.2.1 hbB, w1, z1, _, _, _, _, _, _, _, _, _, z3.1, _, z3.2.1.ob, _, zc_endOf_t z3.2.1 hbB, y1⟩⟩, zFm_trans z2 y2, y3⟩
theorem layOut_key_2 (hq : gcB 2 B) : ∀ (Y X : List bk_T) (f : Int) (H : List hl_T) (w : List zE) (v : Value), B = X ++ Y → sR w 2 m k hn sn cn B H (pgF B) → gOK (QF 2 (pgF B)) Y f → LC 2 X.length f H.length → ∃ w', Zr sc 69 15 [zp m, zj f, zj X.length, v] [] w none w' 0 0 ∧ zFm w w' m (msz 2) ∧ sR w' 2 m k hn sn cn B (H ++ holL (partC 2 (pgF B)) Y f) (pgF B) := by
  intro Y
  induction Y with
  | nil =>
    intro X f H w v e h hg hl
    rw [List.append_nil] at e
    subst e
    have hBl := h.2.1.2.1
    have hp := pgF_ok h.2.1.1
    obtain ⟨w', z1, z2, z3, -⟩ := zc_addGap_2 (sc := sc) h  hg hl (by omega)
    exact ⟨w', V69_15_2 h.1 ⟨_, h.2.1.ob, _, zc_howMany h.2.1, by omega, fun _ => ⟨w', z1, rfl, rfl, rfl, rfl⟩, fun _ => by omega⟩, z2, z3⟩
  | cons b Y ih =>
    intro X f H w v e h hg hl
    have hk : B[X.length]? = some b := by rw [e]; exact mid_eq
    have hbB := List.mem_of_getElem? hk
    have hlt := (List.getElem?_eq_some_iff.mp hk).1
    have hBl := h.2.1.2.1
    have gb := h.2.1.1.2 b hbB
    have hp := pgF_ok h.2.1.1
    obtain ⟨w1, z1, z2, z3, z4⟩ := zc_addGap_2 (sc := sc) h  hg.1 hl (by omega)
    obtain ⟨w2, y1, y2, y3⟩ := ih (X ++ [b]) (b.2.1 + b.2.2.2) _ w1 (zj b.1) (by rw [e]; simp) z3 hg.2 (by rw [List.length_append]; exact lc_up_2 z4 (by omega))
    rw [List.append_assoc] at y3
    rw [List.length_append] at y1
    exact ⟨w2, V69_15_2 h.1 ⟨_, h.2.1.ob, _, zc_howMany h.2.1, by omega, fun _ => by omega, fun _ => ⟨_, zc_inOrder h.2.1 hk, _, zc_placeOf_t h.2.1 hbB, w1, z1, _, _, _, _, _, _, _, _, _, z3.1, _, z3.2.1.ob, _, zc_endOf_t z3.2.1 hbB, y1⟩⟩, zFm_trans z2 y2, y3⟩
theorem layOut_key_4 (hq : gcB 4 B) : ∀ (Y X : List bk_T) (f : Int) (H : List hl_T) (w : List zE) (v : Value), B = X ++ Y → sR w 4 m k hn sn cn B H (pgF B) → gOK (QF 4 (pgF B)) Y f → LC 4 X.length f H.length → ∃ w', Zr sc 69 15 [zp m, zj f, zj X.length, v] [] w none w' 0 0 ∧ zFm w w' m (msz 4) ∧ sR w' 4 m k hn sn cn B (H ++ holL (partC 4 (pgF B)) Y f) (pgF B) := by
  intro Y
  induction Y with
  | nil =>
    intro X f H w v e h hg hl
    rw [List.append_nil] at e
    subst e
    have hBl := h.2.1.2.1
    have hp := pgF_ok h.2.1.1
    obtain ⟨w', z1, z2, z3, -⟩ := zc_addGap_4 (sc := sc) h hp hg hl 
    exact ⟨w', V69_15_4 h.1 ⟨_, h.2.1.ob, _, zc_howMany h.2.1, by omega, fun _ => ⟨w', z1, rfl, rfl, rfl, rfl⟩, fun _ => by omega⟩, z2, z3⟩
  | cons b Y ih =>
    intro X f H w v e h hg hl
    have hk : B[X.length]? = some b := by rw [e]; exact mid_eq
    have hbB := List.mem_of_getElem? hk
    have hlt := (List.getElem?_eq_some_iff.mp hk).1
    have hBl := h.2.1.2.1
    have gb := h.2.1.1.2 b hbB
    have hp := pgF_ok h.2.1.1
    obtain ⟨w1, z1, z2, z3, z4⟩ := zc_addGap_4 (sc := sc) h hp hg.1 hl 
    obtain ⟨w2, y1, y2, y3⟩ := ih (X ++ [b]) (b.2.1 + b.2.2.2) _ w1 (zj b.1) (by rw [e]; simp) z3 hg.2 (by rw [List.length_append]; exact lc_up_4 z4 (by omega))
    rw [List.append_assoc] at y3
    rw [List.length_append] at y1
    exact ⟨w2, V69_15_4 h.1 ⟨_, h.2.1.ob, _, zc_howMany h.2.1, by omega, fun _ => by omega, fun _ => ⟨_, zc_inOrder h.2.1 hk, _, zc_placeOf_t h.2.1 hbB, w1, z1, _, _, _, _, _, _, _, _, _, z3.1, _, z3.2.1.ob, _, zc_endOf_t z3.2.1 hbB, y1⟩⟩, zFm_trans z2 y2, y3⟩
theorem zc_layOut_4 (h : sR w 4 m k hn sn cn B H pg) (hp : pg.length = 8) (hq : gcB 4 B) : ∃ w', Zc sc 69 [zp m] w none w' 0 0 ∧ zFm w w' m (msz 4) ∧ sR w' 4 m k hn sn cn B (holF 4 B) (pgF B) := by
  obtain ⟨w1, z1, z2, z3⟩ := zc_sortPages_4 (sc := sc) h hp
  obtain ⟨w2, y1, y2, y3⟩ := zc_hRemoveAll (sc := sc) z3.2.2.1
  obtain ⟨w3, x1, x2, x3⟩ := layOut_key_4 (sc := sc) hq B [] 0 [] w2 zmk rfl (sR_H z3 y2 y3) (gOK_of (Or.inr (Or.inr rfl)) h.2.1.1 hq) (show 8 * ((0 : Nat) : Int) ≤ 0 by decide)
  exact ⟨w3, Zc_of rfl rfl (V69_0_4 h.1 ⟨w1, z1, _, _, _, _, _, _, _, _, _, z3.1, _, z3.2.2.1.ob, w2, y1, x1⟩), zFm_trans z2 (zFm_trans (zFm_H y2) x2), x3⟩
theorem zc_layOut_1 (h : sR w 1 m k hn sn cn B H pg) (hp : pg.length = 8) (hq : gcB 1 B) : ∃ w', Zc sc 69 [zp m] w none w' 0 0 ∧ zFm w w' m (msz 1) ∧ sR w' 1 m k hn sn cn B (holF 1 B) (pgF B) := by
  have z1 : Zc sc 73 [zp m] w none w 0 0 := Zc_of rfl rfl (V73_0_1 ⟨rfl, rfl, rfl, rfl⟩)
  obtain ⟨w2, y1, y2, y3⟩ := zc_hRemoveAll (sc := sc) h.2.2.1
  obtain ⟨w3, x1, x2, x3⟩ := layOut_key_1 (sc := sc) hq B [] 0 [] w2 zmk rfl (sR_pg (by decide) (sR_H h y2 y3)) (gOK_of (Or.inl rfl) h.2.1.1 hq) (show 8 * ((0 : Nat) : Int) ≤ 0 by decide)
  exact ⟨w3, Zc_of rfl rfl (V69_0_1 h.1 ⟨z1, _, h.2.2.1.ob, w2, y1, x1⟩), zFm_trans (zFm_H y2) x2, x3⟩
theorem zc_layOut_2 (h : sR w 2 m k hn sn cn B H pg) (hp : pg.length = 8) (hq : gcB 2 B) : ∃ w', Zc sc 69 [zp m] w none w' 0 0 ∧ zFm w w' m (msz 2) ∧ sR w' 2 m k hn sn cn B (holF 2 B) (pgF B) := by
  have z1 : Zc sc 73 [zp m] w none w 0 0 := Zc_of rfl rfl (V73_0_2 ⟨rfl, rfl, rfl, rfl⟩)
  obtain ⟨w2, y1, y2, y3⟩ := zc_hRemoveAll (sc := sc) h.2.2.1
  obtain ⟨w3, x1, x2, x3⟩ := layOut_key_2 (sc := sc) hq B [] 0 [] w2 zmk rfl (sR_pg (by decide) (sR_H h y2 y3)) (gOK_of (Or.inr (Or.inl rfl)) h.2.1.1 hq) (Nat.le_refl _)
  exact ⟨w3, Zc_of rfl rfl (V69_0_2 h.1 ⟨z1, _, h.2.2.1.ob, w2, y1, x1⟩), zFm_trans (zFm_H y2) x2, x3⟩
end LAY
