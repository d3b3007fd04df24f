/-! ===== the pool's holes ===== -/
def zAg (w w' : List zE) (l n : Nat) : Prop := w.length ≤ w'.length ∧ ∀ b, b < w.length → l ≤ b → b < l + n → w'[b]? = w[b]?
theorem zAg_get {w w' : List zE} {l n b : Nat} {x : zE} (h : zAg w w' l n) (hb : w[b]? = some x) (h1 : l ≤ b) (h2 : b < l + n) : w'[b]? = some x := by
  rw [h.2 b (List.getElem?_eq_some_iff.mp hb).1 h1 h2]
  exact hb
theorem sB_ag {w w' : List zE} {l n b : Nat} {B : List bk_T} (hf : zAg w w' l n) (h1 : l ≤ b) (h2 : b + 5 ≤ l + n) (h : sB w b B) : sB w' b B := by
  obtain ⟨hok, hl, h0, pl, sz, rm, bp, hR, k1, k2, k3, k4⟩ := h
  exact ⟨hok, hl, zAg_get hf h0 (by omega) (by omega), pl, sz, rm, bp, hR, zAg_get hf k1 (by omega) (by omega), zAg_get hf k2 (by omega) (by omega), zAg_get hf k3 (by omega) (by omega), zAg_get hf k4 (by omega) (by omega)⟩
theorem sH_ag {w w' : List zE} {l n b : Nat} {H : List hl_T} (hf : zAg w w' l n) (h1 : l ≤ b) (h2 : b + 3 ≤ l + n) (h : sH w b H) : sH w' b H := by
  obtain ⟨hok, hl, h0, op, oz, hR, k1, k2⟩ := h
  exact ⟨hok, hl, zAg_get hf h0 (by omega) (by omega), op, oz, hR, zAg_get hf k1 (by omega) (by omega), zAg_get hf k2 (by omega) (by omega)⟩
theorem sT_ag {w w' : List zE} {l n b : Nat} {D : List dd_T} (hf : zAg w w' l n) (h1 : l ≤ b) (h2 : b + 4 ≤ l + n) (h : sT w b D) : sT w' b D := by
  obtain ⟨hok, hl, h0, tk, tn, tz, hl2, hR, k1, k2, k3⟩ := h
  exact ⟨hok, hl, zAg_get hf h0 (by omega) (by omega), tk, tn, tz, hl2, hR, zAg_get hf k1 (by omega) (by omega), zAg_get hf k2 (by omega) (by omega), zAg_get hf k3 (by omega) (by omega)⟩
theorem sQ_ag {w w' : List zE} {l n c m : Nat} {k : mk_T} {hn : Int} {cn : List Int} {B : List bk_T} (hf : zAg w w' l n) (h1 : l ≤ m) (h2 : m + msz c ≤ l + n) (h : sQ w c m k hn cn B) : sQ w' c m k hn cn B := by
  obtain ⟨q1, q2, q3, q4, sn, q5, k0, k1, k2, k3, k4, k5⟩ := h
  have hz := msz_ge c
  have hz4 : c = 4 → msz c = 12 := fun e => by subst e; rfl
  exact ⟨q1, q2, q3, q4, sn, q5, zAg_get hf k0 (by omega) (by omega), sB_ag hf (by omega) (by omega) k1, sH_ag hf (by omega) (by omega) k2, zAg_get hf k3 (by omega) (by omega), zAg_get hf k4 (by omega) (by omega), fun e => zAg_get hf (k5 e) (by omega) (by have := hz4 e; omega)⟩
theorem sL_ag {w w' : List zE} {l wy : Nat} {st hd : Int} {D : List dd_T} {K : Nat → mk_T} {HN : Nat → Int} {CN : Nat → List Int} {BB : Nat → List bk_T} (hf : zAg w w' l 72) (h : sL w l wy st hd D K HN CN BB) : sL w' l wy st hd D K HN CN BB := by
  obtain ⟨h1, h2, h3, h4, h5⟩ := h
  refine ⟨h1, zAg_get hf h2 (by omega) (by omega), sT_ag hf (by omega) (by omega) h3, h4, fun i hi => ?_⟩
  obtain ⟨q1, q2, q3⟩ := h5 i hi
  have := off_rg hi
  exact ⟨q1, sQ_ag hf (by omega) (by omega) q2, q3⟩
def zF2 (w w' : List zE) (q : Nat) : Prop := w.length ≤ w'.length ∧ ∀ b, b < w.length → b ≠ q → (b < q + 73 ∨ q + 78 ≤ b) → w'[b]? = w[b]?
theorem zF2_refl (w : List zE) (q : Nat) : zF2 w w q := ⟨Nat.le_refl _, fun _ _ _ _ => rfl⟩
theorem zF2_trans {w w1 w2 : List zE} {q : Nat} (h : zF2 w w1 q) (k : zF2 w1 w2 q) : zF2 w w2 q :=
  ⟨Nat.le_trans h.1 k.1, fun b hb h1 h2 => by rw [k.2 b (Nat.lt_of_lt_of_le hb h.1) h1 h2, h.2 b hb h1 h2]⟩
theorem zF2_of {w w' : List zE} {q a n : Nat} (h : zFm w w' a n) (hr : (a = q ∧ n ≤ 1) ∨ (q + 73 ≤ a ∧ a + n ≤ q + 78)) : zF2 w w' q :=
  ⟨h.1, fun b hb h1 h2 => h.2 b hb (by omega)⟩
theorem zF2_0 {w w' : List zE} {q : Nat} (h : zFm w w' 0 0) : zF2 w w' q := ⟨h.1, fun b hb _ _ => h.2 b hb (by omega)⟩
theorem zF2_ag {w w' : List zE} {q : Nat} (h : zF2 w w' q) : zAg w w' (q + 1) 72 := ⟨h.1, fun b hb h1 h2 => h.2 b hb (by omega) (by omega)⟩
theorem zF2_fm {w w' : List zE} {q : Nat} (h : zF2 w w' q) : zFm w w' q 78 := ⟨h.1, fun b hb h1 => h.2 b hb (by omega) (by omega)⟩
section POH
variable {sc : List Value} {w w' : List zE} {q : Nat} {x x' : ps_T} {ow ow' sz rm am cn de : List Int} {B X Y : List bk_T} {S : List Int} {wy : Nat}
theorem zp_holeAt_own (h : sC w q x ow sz rm am cn de) {f : Int} (hf : 0 ≤ f ∧ f < 1024) (ho : 0 ≤ zgi ow f ∧ zgi ow f ≤ 80) : Zc sc 127 [zp q, zj f] w (some (zj 0)) w 0 0 := by
  obtain ⟨g0, g1, g2, g3, g4, g5, g6, g7, ⟨l1, l2, l3, l4, l5⟩, g9⟩ := id h
  exact Zc_of rfl rfl (V127_0 g0 g1 ⟨by omega, by omega, fun q => by omega, fun _ => ⟨rfl, rfl, rfl, rfl⟩⟩)
theorem zp_holeAt_F (h : sC w q x ow sz rm am cn de) (hwy : x.2.1 = wy) (hw4 : wy < 4) (hok : okB B) (hr : RO ow B) {f t : Int} (hf : 0 ≤ f) (hft : f < t) (ht : t ≤ 1024) (hfree : ∀ u : Int, f ≤ u → u < t → zgi ow u < 0) (hnx : t = 1024 ∨ 0 ≤ zgi ow t) : Zc sc 127 [zp q, zj f] w (some (zj (parF f t))) w 0 0 := by
  obtain ⟨g0, g1, g2, g3, g4, g5, g6, g7, ⟨l1, l2, l3, l4, l5⟩, g9⟩ := id h
  have key : ∀ (m : Nat) (u : Int), f + u + m = t → 1 ≤ u → Zr sc 127 21 [zp q, zj f, zj u] [] w (some (zj (parF f t))) w 0 0 := by
    intro m
    induction m with
    | zero =>
      intro u hu h0
      rcases hnx with e | e
      · exact V127_21 g0 g1 ⟨by omega, fun _ => ⟨zj_e (by unfold parF; omega), rfl, rfl, rfl⟩, fun q => by omega⟩
      · by_cases c : 1024 ≤ f + u
        · exact V127_21 g0 g1 ⟨by omega, fun _ => ⟨zj_e (by unfold parF; omega), rfl, rfl, rfl⟩, fun q => absurd c q⟩
        · have hu2 := (RO_free hok hr (u := f + u) (by omega) (by omega)).1
          rw [show t = f + u by omega] at e
          exact V127_21 g0 g1 ⟨by omega, fun q => absurd q c, fun _ => ⟨by omega, by omega, fun _ => ⟨zj_e (by unfold parF; omega), rfl, rfl, rfl⟩, fun q => absurd e q⟩⟩
    | succ m ih =>
      intro u hu h0
      have hu2 := (RO_free hok hr (u := f + u) (by omega) (by omega)).1
      have hu3 := hfree (f + u) (by omega) (by omega)
      exact V127_21 g0 g1 ⟨by omega, fun q => by omega, fun _ => ⟨by omega, by omega, fun q => by omega, fun _ => ih (u + 1) (by omega) (by omega)⟩⟩
  have hu2 := (RO_free hok hr (u := f) (by omega) (by omega)).1
  have hu3 := hfree f (Int.le_refl _) hft
  exact Zc_of rfl rfl (V127_0 g0 g1 ⟨by omega, by omega, fun _ => ⟨by omega, fun q => by omega, fun _ => key (t - f - 1).toNat 1 (by omega) (by omega)⟩, fun q => by omega⟩)
theorem zp_holeAt_B (h : sC w q x ow sz rm am cn de) (hwy : x.2.1 = 4) (hok : okB B) (hr : RO ow B) {f t : Int} (hf : 0 ≤ f) (hft : f < t) (ht : t ≤ 1024) (hf8 : f % 8 = 0) (ht8 : t % 8 = 0) (hfree : ∀ u : Int, f ≤ u → u < t → zgi ow u < 0) (hnx : t = 1024 ∨ 0 ≤ zgi ow t) : Zc sc 127 [zp q, zj f] w (some (zj (parB f t))) w 0 0 := by
  obtain ⟨g0, g1, g2, g3, g4, g5, g6, g7, ⟨l1, l2, l3, l4, l5⟩, g9⟩ := id h
  have stp : ∀ (v r : Int), 1 ≤ v → v < 1024 → (f % (2 * v) = 0 → f + 2 * v ≤ 1024) → (¬ (f % (2 * v) = 0 ∧ 2 * v ≤ t - f) → r = v) → (f % (2 * v) = 0 ∧ 2 * v ≤ t - f → Zr sc 127 55 [zp q, zj f, zj (v * 2)] [] w (some (zj r)) w 0 0) → Zr sc 127 55 [zp q, zj f, zj v] [] w (some (zj r)) w 0 0 := fun v r v0 v1 k0 k1 k2 => by
    have e1 := Int.emod_nonneg f (show 2 * v ≠ 0 by omega)
    have e2 := Int.emod_lt_of_pos f (show 0 < 2 * v by omega)
    by_cases c1 : f % (2 * v) = 0
    · have c3 := k0 c1
      obtain ⟨b, z1, z2⟩ := zp_isFree (sc := sc) h hok hr (f := f) (n := 2 * v) hf (by omega) c3
      by_cases c2 : 2 * v ≤ t - f
      · rcases z2 with ⟨rfl, -⟩ | ⟨rfl, u, u1, u2, u3⟩
        · exact V127_55 g0 ⟨by omega, fun q => by omega, fun _ => ⟨by omega, by omega, fun q => absurd c1 q, fun _ => ⟨_, z1, by omega, fun q => by omega, fun _ => k2 ⟨c1, c2⟩⟩⟩⟩
        · have := hfree u u1 (by omega)
          omega
      · rcases z2 with ⟨rfl, z2⟩ | ⟨rfl, -⟩
        · rcases hnx with e | e
          · omega
          · have := z2 t (by omega) (by omega)
            omega
        · exact V127_55 g0 ⟨by omega, fun q => by omega, fun _ => ⟨by omega, by omega, fun q => absurd c1 q, fun _ => ⟨_, z1, by omega, fun _ => ⟨zj_e (k1 (fun q => c2 q.2)), rfl, rfl, rfl⟩, fun q => by omega⟩⟩⟩
    · exact V127_55 g0 ⟨by omega, fun q => by omega, fun _ => ⟨by omega, by omega, fun _ => ⟨zj_e (k1 (fun q => c1 q.1)), rfl, rfl, rfl⟩, fun q => absurd c1 q⟩⟩
  have main : Zr sc 127 55 [zp q, zj f, zj 1] [] w (some (zj (parB f t))) w 0 0 := by
    refine stp 1 _ (by omega) (by omega) (fun _ => by omega) (fun n => absurd ⟨by omega, by omega⟩ n) (fun _ => ?_)
    refine stp 2 _ (by omega) (by omega) (fun _ => by omega) (fun n => absurd ⟨by omega, by omega⟩ n) (fun _ => ?_)
    refine stp 4 _ (by omega) (by omega) (fun _ => by omega) (fun n => absurd ⟨by omega, by omega⟩ n) (fun _ => ?_)
    refine stp 8 _ (by omega) (by omega) (fun _ => by omega) (fun n => ?_) (fun c16 => ?_)
    · unfold parB
      rw [if_neg (by omega), if_neg (by omega), if_neg (by omega), if_neg (by omega), if_neg (by omega), if_neg (by omega), if_neg (by omega)]
    refine stp 16 _ (by omega) (by omega) (fun _ => by omega) (fun n => ?_) (fun c32 => ?_)
    · unfold parB
      rw [if_neg (by omega), if_neg (by omega), if_neg (by omega), if_neg (by omega), if_neg (by omega), if_neg (by omega), if_pos (by omega)]
    refine stp 32 _ (by omega) (by omega) (fun _ => by omega) (fun n => ?_) (fun c64 => ?_)
    · unfold parB
      rw [if_neg (by omega), if_neg (by omega), if_neg (by omega), if_neg (by omega), if_neg (by omega), if_pos (by omega)]
    refine stp 64 _ (by omega) (by omega) (fun _ => by omega) (fun n => ?_) (fun c128 => ?_)
    · unfold parB
      rw [if_neg (by omega), if_neg (by omega), if_neg (by omega), if_neg (by omega), if_pos (by omega)]
    refine stp 128 _ (by omega) (by omega) (fun _ => by omega) (fun n => ?_) (fun c256 => ?_)
    · unfold parB
      rw [if_neg (by omega), if_neg (by omega), if_neg (by omega), if_pos (by omega)]
    refine stp 256 _ (by omega) (by omega) (fun _ => by omega) (fun n => ?_) (fun c512 => ?_)
    · unfold parB
      rw [if_neg (by omega), if_neg (by omega), if_pos (by omega)]
    refine stp 512 _ (by omega) (by omega) (fun _ => by omega) (fun n => ?_) (fun c1024 => ?_)
    · unfold parB
      rw [if_neg (by omega), if_pos (by omega)]
    · have e : parB f t = 1024 := by
        unfold parB
        rw [if_pos (by omega)]
      rw [e]
      exact V127_55 g0 ⟨by omega, fun _ => ⟨rfl, rfl, rfl, rfl⟩, fun q => by omega⟩
  have hu2 := (RO_free hok hr (u := f) (by omega) (by omega)).1
  have hu3 := hfree f (Int.le_refl _) hft
  exact Zc_of rfl rfl (V127_0 g0 g1 ⟨by omega, by omega, fun _ => ⟨by omega, fun _ => ⟨by omega, fun q => absurd hwy q, fun _ => main⟩, fun q => by omega⟩, fun q => by omega⟩)
/-- with slabs: that it comes to an end -/
theorem zp_holeAt_S (h : sC w q x ow sz rm am cn de) (hwy : x.2.1 = 5) (hok : okB B) (hg : gcB 4 B) (hr : RO ow B) (hl : LR rm B) {f : Int} (hf : 0 ≤ f ∧ f < 1024) : ∃ r, Zc sc 127 [zp q, zj f] w (some (zj r)) w 0 0 ∧ 0 ≤ r ∧ r ≤ 2000 := by
  have hu2 := (RO_free hok hr (u := f) (by omega) (by omega)).1
  by_cases c0 : 0 ≤ zgi ow f
  · exact ⟨0, zp_holeAt_own h hf ⟨c0, hu2.2⟩, by omega, by omega⟩
  obtain ⟨g0, g1, g2, g3, g4, g5, g6, g7, ⟨l1, l2, l3, l4, l5⟩, g9⟩ := id h
  have pc := zp_pageClass (sc := sc) h hok hg hr hl (p := f / 128) (by omega)
  have hrg := (pgF_ok hok).2 (f / 128)
  rw [pgF_get _ (by omega) (by omega)] at hrg
  have loop : ∀ (m : Nat) (u : Int), f + u + 128 * m ≥ 1024 → 0 ≤ u → u ≤ 1200 → ∃ r, Zr sc 127 132 [zp q, zj f, zj u] [] w (some (zj r)) w 0 0 ∧ 0 ≤ r ∧ r ≤ 2000 := by
    intro m
    induction m with
    | zero => intro u hu h0 h1; exact ⟨u, V127_132 g0 ⟨by omega, fun _ => ⟨rfl, rfl, rfl, rfl⟩, fun q => by omega⟩, by omega, by omega⟩
    | succ m ih =>
      intro u hu h0 h1
      by_cases c : 1024 ≤ f + u
      · exact ⟨u, V127_132 g0 ⟨by omega, fun _ => ⟨rfl, rfl, rfl, rfl⟩, fun q => absurd c q⟩, by omega, by omega⟩
      · have pc := zp_pageClass (sc := sc) h hok hg hr hl (p := (f + u) / 128) (by omega)
        have hrg := (pgF_ok hok).2 ((f + u) / 128)
        rw [pgF_get _ (by omega) (by omega)] at hrg
        by_cases c2 : lastK B ((f + u) / 128) = 0
        · obtain ⟨r, z1, z2⟩ := ih (u + 128) (by omega) (by omega) (by omega)
          exact ⟨r, V127_132 g0 ⟨by omega, fun q => absurd q c, fun _ => ⟨by omega, _, pc, by omega, fun q => absurd c2 q, fun _ => z1⟩⟩, z2⟩
        · exact ⟨u, V127_132 g0 ⟨by omega, fun q => absurd q c, fun _ => ⟨by omega, _, pc, by omega, fun _ => ⟨rfl, rfl, rfl, rfl⟩, fun q => absurd c2 q⟩⟩, by omega, by omega⟩
  by_cases c3 : lastK B (f / 128) ≤ 0
  · obtain ⟨r, z1, z2⟩ := loop 8 128 (by omega) (by omega) (by omega)
    exact ⟨r, Zc_of rfl rfl (V127_0 g0 g1 ⟨by omega, by omega, fun _ => ⟨by omega, fun _ => ⟨by omega, fun _ => ⟨by omega, _, pc, by omega, fun _ => z1, fun q => absurd c3 q⟩, fun q => by omega⟩, fun q => by omega⟩, fun q => by omega⟩), z2⟩
  · have e1 := Int.emod_nonneg f (show lastK B (f / 128) ≠ 0 by omega)
    have e2 := Int.emod_lt_of_pos f (show 0 < lastK B (f / 128) by omega)
    by_cases c4 : f % lastK B (f / 128) = 0
    · exact ⟨_, Zc_of rfl rfl (V127_0 g0 g1 ⟨by omega, by omega, fun _ => ⟨by omega, fun _ => ⟨by omega, fun _ => ⟨by omega, _, pc, by omega, fun q => absurd q c3, fun _ => ⟨by omega, _, pc, by omega, by omega, fun q => absurd c4 q, fun _ => ⟨by omega, _, pc, rfl, rfl, rfl, rfl⟩⟩⟩, fun q => by omega⟩, fun q => by omega⟩, fun q => by omega⟩), by omega, by omega⟩
    · exact ⟨0, Zc_of rfl rfl (V127_0 g0 g1 ⟨by omega, by omega, fun _ => ⟨by omega, fun _ => ⟨by omega, fun _ => ⟨by omega, _, pc, by omega, fun q => absurd q c3, fun _ => ⟨by omega, _, pc, by omega, by omega, fun _ => ⟨rfl, rfl, rfl, rfl⟩, fun q => absurd c4 q⟩⟩, fun q => by omega⟩, fun q => by omega⟩, fun q => by omega⟩), by omega, by omega⟩
def rowP (row : List Int) (H : List hl_T) : Prop := row.length = 2 * H.length ∧ ∀ (j : Nat) y, H[j]? = some y → zgi row (2 * (j : Int)) = y.1 ∧ zgi row (2 * (j : Int) + 1) = y.2
theorem zicp_get {l1 l2 : List Int} {n : Int} {k : Int} (h0 : 0 ≤ k) (h1 : k < n) (h2 : (l2.length : Int) = n) : zgi (zicp l1 l2 0 0 n) k = zgi l1 k := by
  have hb : Nat.beq n.toNat 0 = false := by
    cases h : Nat.beq n.toNat 0 with
    | false => rfl
    | true =>
      have := Nat.eq_of_beq_eq_true h
      omega
  unfold zgi zicp
  rw [hb, cond_false, List.getD_eq_getElem?_getD, List.getElem?_map, List.getElem?_range (by omega)]
  show (bif (decide ((0 : Int).toNat ≤ k.toNat) && decide (k.toNat < (0 : Int).toNat + n.toNat)) then l1.getD ((0 : Int).toNat + (k.toNat - (0 : Int).toNat)) 0 else l2.getD k.toNat 0) = _
  rw [decide_eq_true (show (0 : Int).toNat ≤ k.toNat by omega), decide_eq_true (show k.toNat < (0 : Int).toNat + n.toNat by omega), Bool.and_self, cond_true]
  congr 1
  omega
/-- the row of the holes, made by any walk that gives one hole after the other -/
theorem zp_holes_any (h : sC w q x ow sz rm am cn de) (R : Int → List hl_T) (T : Prop) (I : Int → Prop) (hI : I 0) (hstep : ∀ f : Int, 0 ≤ f → f < 1024 → I f → ∀ w1, sC w1 q x ow sz rm am cn de → ∃ r, Zc sc 127 [zp q, zj f] w1 (some (zj r)) w1 0 0 ∧ (0 ≤ r ∧ r ≤ 2000) ∧ I (f + max 1 r) ∧ (T → (r = 0 → R f = R (f + 1)) ∧ (1 ≤ r → R f = (f, r) :: R (f + r)))) (hend : T → ∀ f, 1024 ≤ f → R f = []) :
    ∃ p w' s row, Zc sc 126 [zp q] w (some (zp p)) w' 2 s ∧ s ≤ 4096 ∧ zFm w w' 0 0 ∧ w.length ≤ p ∧ w'[p]? = some (za row) ∧ row.length ≤ 2048 ∧ (T → rowP row (R 0)) := by
  have hlw : q < w.length := (List.getElem?_eq_some_iff.mp h.1).1
  have loop : ∀ (m : Nat) (f : Int) (P : List hl_T) (l : List Int) (w0 : List zE) (v : Value), f + m ≥ 1024 → 0 ≤ f → f ≤ 4000 → I f → P.length ≤ f → P.length ≤ 1024 → sC w0 q x ow sz rm am cn de → zFm w w0 0 0 → w0.length = w.length + 1 → w0[w.length]? = some (za l) → l.length = 2048 → (∀ (j : Nat) y, P[j]? = some y → zgi l (2 * (j : Int)) = y.1 ∧ zgi l (2 * (j : Int) + 1) = y.2) → (T → R 0 = P ++ R f) →
      ∃ p w' s row, Zr sc 126 10 [zp q, zp w.length, zj (2 * (P.length : Int)), zj f, v] [] w0 (some (zp p)) w' 1 s ∧ s ≤ 2048 ∧ zFm w w' 0 0 ∧ w.length ≤ p ∧ w'[p]? = some (za row) ∧ row.length ≤ 2048 ∧ (T → rowP row (R 0)) := by
    intro m
    induction m with
    | zero =>
      intro f P l w0 v hm h0 h4 hi hP hP2 hc hz hwl hp hll hpre hR
      obtain ⟨g0, g1, g2, g3, g4, g5, g6, g7, ⟨l1, l2, l3, l4, l5⟩, g9⟩ := id h
      have k0 := hc.1
      have hrl : ((List.replicate ((2 * (P.length : Int)) : Int).toNat (0 : Int)).length : Int) = 2 * P.length := by rw [List.length_replicate]; omega
      refine ⟨w.length + 1, _, (2 * (P.length : Int)).toNat, zicp l (List.replicate ((2 * (P.length : Int)) : Int).toNat 0) 0 0 (2 * (P.length : Int)), V126_10 k0 ⟨by omega, fun _ => ⟨by omega, w.length + 1, by omega, 0, 0, ⟨rfl, by omega⟩, l, hp, ⟨⟨by omega, by omega, by omega⟩, ⟨by omega, by omega, by rw [List.length_replicate]; omega⟩, by omega⟩, rfl, rfl, rfl, rfl⟩, fun q => by omega⟩, by omega, ?_, by omega, ?_, by rw [zicp_len, List.length_replicate]; omega, fun hT => ?_⟩
      · exact zFm_new hz (zFm_trans zFm_app (zFm_set (a := w.length + 1) (n := 1) (by omega) (by omega))) (by omega)
      · exact zw_s (zw_n (by omega))
      · have e := hR hT
        rw [hend hT f (by omega), List.append_nil] at e
        rw [e]
        refine ⟨by rw [zicp_len, List.length_replicate]; omega, fun j y hj => ?_⟩
        have hjl := (List.getElem?_eq_some_iff.mp hj).1
        rw [zicp_get (by omega) (by omega) hrl, zicp_get (by omega) (by omega) hrl]
        exact hpre j y hj
    | succ m ih =>
      intro f P l w0 v hm h0 h4 hi hP hP2 hc hz hwl hp hll hpre hR
      by_cases c : 1024 ≤ f
      · exact ih f P l w0 v (by omega) h0 h4 hi hP hP2 hc hz hwl hp hll hpre hR
      · obtain ⟨r, z1, z2, zi, z3⟩ := hstep f h0 (by omega) hi w0 hc
        have k0 := hc.1
        by_cases c2 : r ≤ 0
        · obtain rfl : r = 0 := by omega
          obtain ⟨p, w', s, row, y1, y2⟩ := ih (f + 1) P l w0 (zj 0) (by omega) (by omega) (by omega) zi (by omega) hP2 hc hz hwl hp hll hpre (fun hT => by rw [hR hT, (z3 hT).1 rfl])
          exact ⟨p, w', s, row, V126_10 k0 ⟨by omega, fun q => absurd q c, fun _ => ⟨_, z1, by omega, fun _ => ⟨by omega, y1⟩, fun q => by omega⟩⟩, y2⟩
        · have hc2 : sC ((w0.set w.length (za (zsi l (2 * (P.length : Int)) f))).set w.length (za (zsi (zsi l (2 * (P.length : Int)) f) (2 * (P.length : Int) + 1) r))) q x ow sz rm am cn de := by
            have hz2 : zFm w ((w0.set w.length (za (zsi l (2 * (P.length : Int)) f))).set w.length (za (zsi (zsi l (2 * (P.length : Int)) f) (2 * (P.length : Int) + 1) r))) 0 0 := zFm_new hz (zFm_st (zFm_set (a := w.length) (n := 1) (by omega) (by omega)) (by omega) (by omega)) (Nat.le_refl _)
            exact sC_new hz2 h
          obtain ⟨p, w', s, row, y1, y2⟩ := ih (f + max 1 r) (P ++ [(f, r)]) _ _ (zj r) (by omega) (by omega) (by omega) zi (by rw [List.length_append, List.length_singleton]; omega) (by rw [List.length_append, List.length_singleton]; omega) hc2 (zFm_new hz (zFm_st (zFm_set (a := w.length) (n := 1) (by omega) (by omega)) (by omega) (by omega)) (Nat.le_refl _)) (by rw [List.length_set, List.length_set]; exact hwl) (zw_s (zw_s hp)) (by rw [zsi_len, zsi_len]; exact hll) (fun j y hj => by
            rw [zgi_set (by omega) (by rw [zsi_len]; omega) (by omega), zgi_set (by omega) (by omega) (by omega), zgi_set (by omega) (by rw [zsi_len]; omega) (by omega), zgi_set (by omega) (by omega) (by omega)]
            by_cases e : j = P.length
            · subst e
              rw [mid_eq] at hj
              cases hj
              rw [if_neg (by omega), if_pos rfl, if_pos rfl]
              exact ⟨rfl, rfl⟩
            · have hjl := (List.getElem?_eq_some_iff.mp hj).1
              rw [List.length_append, List.length_singleton] at hjl
              rw [mid_lt (by omega)] at hj
              rw [if_neg (by omega), if_neg (by omega), if_neg (by omega), if_neg (by omega)]
              exact hpre j y hj) (fun hT => by rw [hR hT, (z3 hT).2 (by omega), List.append_assoc, show max 1 r = r by omega]; rfl)
          rw [show (2 * ((P ++ [(f, r)]).length : Int)) = 2 * (P.length : Int) + 1 + 1 by rw [List.length_append, List.length_singleton]; omega] at y1
          exact ⟨p, w', s, row, V126_10 k0 ⟨by omega, fun q => absurd q c, fun _ => ⟨_, z1, by omega, fun q => absurd q c2, fun _ => ⟨l, hp, by omega, by rw [zsi_len]; omega, by omega, y1⟩⟩⟩, y2⟩
  have hf0 : zFm w (w ++ [za (List.replicate (2048 : Int).toNat (0 : Int))]) 0 0 := zFm_app
  obtain ⟨p, w', s, row, y1, y2, y3⟩ := loop 1024 0 [] (List.replicate (2048 : Int).toNat 0) (w ++ [za (List.replicate (2048 : Int).toNat (0 : Int))]) zmk (by omega) (by omega) (by omega) hI (by decide) (by decide) (sC_new hf0 h) hf0 (by rw [List.length_append, List.length_singleton]) (zw_n rfl) (by rw [List.length_replicate]; rfl) (fun j y hj => by simp at hj) (fun _ => rfl)
  exact ⟨p, w', 2048 + s, row, Zc_of rfl rfl (V126_0 ⟨by omega, w.length, rfl, 1, s, ⟨rfl, by omega⟩, y1⟩), by omega, y3⟩
end POH
