/-! ===== the pool: pages, giving back, holes ===== -/
def LR (rm : List Int) (B : List bk_T) : Prop := ∀ b ∈ B, zgi rm b.1 = b.2.2.2
def remH (part : Int → Int → Int) : List bk_T → Int → List hl_T
  | [], at0 => gapL part 128 at0 1024
  | b :: Y, at0 => if at0 < b.2.1 + b.2.2.2 then (if at0 < b.2.1 then gapL part 128 at0 b.2.1 else []) ++ holL part Y (b.2.1 + b.2.2.2) else remH part Y at0
theorem gapL_e (part : Int → Int → Int) (n : Nat) {f t : Int} (h : t ≤ f) : gapL part n f t = [] := by
  cases n with
  | zero => rfl
  | succ n =>
    show (if f < t then _ else _) = _
    rw [if_neg (by omega)]
theorem remH_eq (part : Int → Int → Int) : ∀ (Y : List bk_T) (f : Int), okB Y → (∀ b ∈ Y, f ≤ b.2.1) → remH part Y f = holL part Y f := by
  intro Y
  cases Y with
  | nil => intro f _ _; rfl
  | cons b Y =>
    intro f ho hf
    have ho' := (okB_mid (X := [])).mp ho
    have gb := ho'.2.2.2
    have := hf b List.mem_cons_self
    show (if f < b.2.1 + b.2.2.2 then (if f < b.2.1 then gapL part 128 f b.2.1 else []) ++ holL part Y (b.2.1 + b.2.2.2) else remH part Y f) = gapL part 128 f b.2.1 ++ holL part Y (b.2.1 + b.2.2.2)
    rw [if_pos (by omega)]
    by_cases c : f < b.2.1
    · rw [if_pos c]
    · rw [if_neg c, gapL_e part 128 (by omega)]
theorem remH_own (part : Int → Int → Int) : ∀ (Y : List bk_T) (f : Int), okB Y → (∃ b ∈ Y, b.2.1 ≤ f ∧ f < b.2.1 + b.2.2.2) → remH part Y f = remH part Y (f + 1) := by
  intro Y
  induction Y with
  | nil => intro f _ h; obtain ⟨b, hb, -⟩ := h; cases hb
  | cons b Y ih =>
    intro f ho h
    have ho' := (okB_mid (X := [])).mp ho
    have gb := ho'.2.2.2
    show (if f < b.2.1 + b.2.2.2 then (if f < b.2.1 then gapL part 128 f b.2.1 else []) ++ holL part Y (b.2.1 + b.2.2.2) else remH part Y f) = (if f + 1 < b.2.1 + b.2.2.2 then (if f + 1 < b.2.1 then gapL part 128 (f + 1) b.2.1 else []) ++ holL part Y (b.2.1 + b.2.2.2) else remH part Y (f + 1))
    obtain ⟨y, hy, e1, e2⟩ := h
    rcases List.mem_cons.mp hy with rfl | hy
    · rw [if_pos e2, if_neg (by omega)]
      by_cases c : f + 1 < y.2.1 + y.2.2.2
      · rw [if_pos c, if_neg (by omega)]
      · rw [if_neg c, remH_eq part Y (f + 1) ho'.1 (fun z hz => by have := (ho'.2.2.1 z hz).2; omega), show f + 1 = y.2.1 + y.2.2.2 by omega]
        rfl
    · have := (ho'.2.2.1 y hy).2
      rw [if_neg (by omega), if_neg (by omega)]
      exact ih f ho'.1 ⟨y, hy, e1, e2⟩
def pgood (part : Int → Int → Int) (G : Int → Prop) : Prop := G 1024 ∧ ∀ f t : Int, G f → G t → 0 ≤ f → f < t → t ≤ 1024 → (1 ≤ part f t ∧ f + part f t ≤ t ∧ G (f + part f t)) ∧ gapL part 128 f t = (f, part f t) :: gapL part 128 (f + part f t) t
theorem pgood_F : pgood parF (fun _ => True) := by
  refine ⟨trivial, fun f t _ _ h0 h1 h2 => ⟨⟨by unfold parF; omega, by unfold parF; omega, trivial⟩, ?_⟩⟩
  have e : gapL parF 128 f t = if f < t then [(f, t - f)] else [] := gapL_F
  rw [e, if_pos h1, gapL_e parF 128 (show t ≤ f + parF f t by unfold parF; omega)]
  rfl
theorem gapL_fuelB : ∀ (n m : Nat) (f t : Int), 0 ≤ f → f % 8 = 0 → t % 8 = 0 → t - f ≤ 8 * n → t - f ≤ 8 * m → gapL parB n f t = gapL parB m f t := by
  intro n
  induction n with
  | zero => intro m f t h0 h1 h2 h3 h4; rw [gapL_e parB 0 (by omega), gapL_e parB m (by omega)]
  | succ n ih =>
    intro m f t h0 h1 h2 h3 h4
    by_cases g : f < t
    · obtain ⟨p1, p2, p3⟩ := parB_ok h0 g h1 h2
      have p4 := pP_8 p1
      cases m with
      | zero => omega
      | succ m =>
        show (if f < t then (f, parB f t) :: gapL parB n (f + parB f t) t else []) = (if f < t then (f, parB f t) :: gapL parB m (f + parB f t) t else [])
        rw [if_pos g, if_pos g, ih m (f + parB f t) t (by omega) (by omega) h2 (by omega) (by omega)]
    · rw [gapL_e parB _ (by omega), gapL_e parB _ (by omega)]
theorem pgood_B : pgood parB (fun f => f % 8 = 0) := by
  refine ⟨by decide, fun f t hf ht h0 h1 h2 => ?_⟩
  obtain ⟨p1, p2, p3⟩ := parB_ok h0 h1 hf ht
  have p4 := pP_8 p1
  dsimp only at hf ht
  refine ⟨⟨by omega, by omega, by dsimp only; omega⟩, ?_⟩
  show (if f < t then (f, parB f t) :: gapL parB 127 (f + parB f t) t else []) = _
  rw [if_pos h1, gapL_fuelB 127 128 (f + parB f t) t (by omega) (by omega) ht (by omega) (by omega)]
/-- at a free unit: where the next block begins, and the hole there -/
theorem remH_free {part : Int → Int → Int} {G : Int → Prop} (hG : pgood part G) : ∀ (Y : List bk_T) (f : Int), okB Y → 0 ≤ f → f < 1024 → (∀ b ∈ Y, ¬ (b.2.1 ≤ f ∧ f < b.2.1 + b.2.2.2)) → G f → (∀ b ∈ Y, G b.2.1) →
    ∃ t, f < t ∧ t ≤ 1024 ∧ G t ∧ (∀ b ∈ Y, b.2.1 + b.2.2.2 ≤ f ∨ t ≤ b.2.1) ∧ (t = 1024 ∨ ∃ b ∈ Y, b.2.1 = t) ∧ remH part Y f = (f, part f t) :: remH part Y (f + part f t) := by
  intro Y
  induction Y with
  | nil =>
    intro f ho h0 h1 hno gf gY
    exact ⟨1024, h1, Int.le_refl _, hG.1, fun b hb => (by cases hb), Or.inl rfl, (hG.2 f 1024 gf hG.1 h0 h1 (Int.le_refl _)).2⟩
  | cons b Y ih =>
    intro f ho h0 h1 hno gf gY
    have ho' := (okB_mid (X := [])).mp ho
    have gb := ho'.2.2.2
    have hb := hno b List.mem_cons_self
    by_cases c : f < b.2.1
    · obtain ⟨⟨k1, k2, k3⟩, k4⟩ := hG.2 f b.2.1 gf (gY b List.mem_cons_self) h0 c (by omega)
      refine ⟨b.2.1, c, by omega, gY b List.mem_cons_self, fun y hy => ?_, Or.inr ⟨b, List.mem_cons_self, rfl⟩, ?_⟩
      · rcases List.mem_cons.mp hy with rfl | hy
        · exact Or.inr (Int.le_refl _)
        · have := (ho'.2.2.1 y hy).2
          exact Or.inr (by omega)
      · show (if f < b.2.1 + b.2.2.2 then (if f < b.2.1 then gapL part 128 f b.2.1 else []) ++ holL part Y (b.2.1 + b.2.2.2) else remH part Y f) = (f, part f b.2.1) :: (if f + part f b.2.1 < b.2.1 + b.2.2.2 then (if f + part f b.2.1 < b.2.1 then gapL part 128 (f + part f b.2.1) b.2.1 else []) ++ holL part Y (b.2.1 + b.2.2.2) else remH part Y (f + part f b.2.1))
        rw [if_pos (by omega), if_pos c, if_pos (by omega), k4]
        by_cases c2 : f + part f b.2.1 < b.2.1
        · rw [if_pos c2]; rfl
        · rw [if_neg c2, gapL_e part 128 (by omega)]; rfl
    · obtain ⟨t, t1, t2, t3, t4, t5, t6⟩ := ih f ho'.1 h0 h1 (fun y hy => hno y (List.mem_cons_of_mem _ hy)) gf (fun y hy => gY y (List.mem_cons_of_mem _ hy))
      obtain ⟨⟨k1, k2, k3⟩, k4⟩ := hG.2 f t gf t3 h0 t1 t2
      refine ⟨t, t1, t2, t3, fun y hy => ?_, t5.imp id (fun ⟨y, hy, e⟩ => ⟨y, List.mem_cons_of_mem _ hy, e⟩), ?_⟩
      · rcases List.mem_cons.mp hy with rfl | hy
        · exact Or.inl (by omega)
        · exact t4 y hy
      · show (if f < b.2.1 + b.2.2.2 then (if f < b.2.1 then gapL part 128 f b.2.1 else []) ++ holL part Y (b.2.1 + b.2.2.2) else remH part Y f) = (f, part f t) :: (if f + part f t < b.2.1 + b.2.2.2 then (if f + part f t < b.2.1 then gapL part 128 (f + part f t) b.2.1 else []) ++ holL part Y (b.2.1 + b.2.2.2) else remH part Y (f + part f t))
        rw [if_neg (by omega), if_neg (by omega), t6]
section POM
variable {sc : List Value} {w w' : List zE} {q : Nat} {x x' : ps_T} {ow ow' sz rm am cn de : List Int} {B X Y : List bk_T} {S : List Int}
theorem zp_pageClass (h : sC w q x ow sz rm am cn de) (hok : okB B) (hg : gcB 4 B) (hr : RO ow B) (hl : LR rm B) {p : Int} (hp : 0 ≤ p ∧ p < 8) : Zc sc 129 [zp q, zj p] w (some (zj (lastK B p))) w 0 0 := by
  obtain ⟨g0, g1, g2, g3, g4, g5, g6, g7, ⟨l1, l2, l3, l4, l5⟩, g9⟩ := id h
  obtain ⟨r, z1, z2⟩ := zp_isFree (sc := sc) h hok hr (f := 128 * p) (n := 128) (by omega) (by omega) (by omega)
  rcases z2 with ⟨rfl, hf⟩ | ⟨rfl, u0, e1, e2, e3⟩
  · have e0 : lastK B p = 0 := pgF_none (fun b hb ho => by
      have gb := hok.2 b hb
      unfold onPg at ho
      by_cases c : b.2.1 ≤ 128 * p
      · have := hf (128 * p) (Int.le_refl _) (by omega)
        exact ((RO_free hok hr (by omega) (by omega)).2.mp this) b hb ⟨c, ho.2⟩
      · have := hf b.2.1 (by omega) (by omega)
        exact ((RO_free hok hr (by omega) (by omega)).2.mp this) b hb ⟨Int.le_refl _, by omega⟩)
    rw [e0]
    exact Zc_of rfl rfl (V129_0 g0 ⟨_, z1, by omega, fun q => by omega, fun _ => ⟨rfl, rfl, rfl, rfl⟩⟩)
  · have key : ∀ (m : Nat) (u : Int), u + m = u0 → 128 * p ≤ u → Zr sc 129 23 [zp q, zj p, zj u] [] w (some (zj (lastK B p))) w 0 0 := by
      intro m
      have own : ∀ u : Int, 128 * p ≤ u → u < 128 * p + 128 → 0 ≤ zgi ow u → Zr sc 129 23 [zp q, zj p, zj u] [] w (some (zj (lastK B p))) w 0 0 := fun u h0 h1 h2 => by
        have hu2 := (RO_free hok hr (u := u) (by omega) (by omega)).1
        obtain ⟨b, hb, e, e4, e5⟩ := RO_own hr (u := u) (by omega) (by omega) h2 rfl
        have gb := hok.2 b hb
        have hrm := hl b hb
        rw [e] at hrm
        have ho : onPg b p := by unfold onPg; omega
        rcases hg.1 b hb with hs | hs
        · have h8 := pS_8 hs.1
          have ek := pgF_small hok hg hb hs.1 ho
          exact V129_23 g0 g1 g3 ⟨by omega, by omega, fun q => by omega, fun _ => ⟨by omega, by omega, by omega, fun _ => ⟨by omega, by omega, zj_e (by omega), rfl, rfl, rfl⟩, fun q => by omega⟩⟩
        · have ek := pgF_large hok hg hb hs.1 ho
          exact V129_23 g0 g1 g3 ⟨by omega, by omega, fun q => by omega, fun _ => ⟨by omega, by omega, by omega, fun q => by omega, fun _ => ⟨zj_e ek, rfl, rfl, rfl⟩⟩⟩
      induction m with
      | zero => intro u hu h0; exact own u h0 (by omega) (by rw [show u = u0 by omega]; exact e3)
      | succ m ih =>
        intro u hu h0
        by_cases c : zgi ow u < 0
        · have hu2 := (RO_free hok hr (u := u) (by omega) (by omega)).1
          exact V129_23 g0 g1 g3 ⟨by omega, by omega, fun _ => ih (u + 1) (by omega) (by omega), fun q => absurd c q⟩
        · exact own u h0 (by omega) (by omega)
    exact Zc_of rfl rfl (V129_0 g0 ⟨_, z1, by omega, fun _ => key (u0 - 128 * p).toNat (128 * p) (by omega) (Int.le_refl _), fun q => by omega⟩)
theorem sC_cn (h : sC w q x ow sz rm am cn de) {cn' : List Int} (hl : cn'.length = 5) : sC (w.set (q + 77) (za cn')) q x ow sz rm am cn' de ∧ zFm w (w.set (q + 77) (za cn')) (q + 73) 5 := by
  obtain ⟨g0, g1, g2, g3, g4, g5, g6, g7, ⟨l1, l2, l3, l4, l5⟩, g9⟩ := id h
  exact ⟨⟨zw_o (by omega) g0, zw_o (by omega) g1, zw_o (by omega) g2, zw_o (by omega) g3, zw_o (by omega) g4, zw_s g5, zw_o (by omega) g6, g7, ⟨l1, l2, l3, l4, hl⟩, g9⟩, zFm_set (by omega) (by omega)⟩
theorem bud {its a : Int} (h : its = 8 ∨ its = 16 ∨ its = 32 ∨ its = 64 ∨ its = 128 ∨ its = 256 ∨ its = 512) (h0 : 0 ≤ a) (h1 : a % its = 0) (h2 : a + its ≤ 1024) : (0 ≤ a / its ∧ a / its ≤ 1024) ∧ ((a / its) % 2 = 0 → a + its + its ≤ 1024 ∧ a % (its * 2) = 0) ∧ ((a / its) % 2 ≠ 0 → its ≤ a ∧ (a - its) % (its * 2) = 0) := by
  rcases h with rfl | rfl | rfl | rfl | rfl | rfl | rfl <;> omega
theorem RO_give {b : bk_T} (hok : okB (X ++ b :: Y)) (hr : RO ow (X ++ b :: Y)) (hf : fillP ow ow' b.2.1 b.2.2.2 (-1)) : RO ow' (X ++ Y) := by
  have hm := okB_mid.mp hok
  refine ⟨fun y hy u u0 u1 => ?_, fun u u0 u1 hno => ?_⟩
  · have gy := hm.1.2 y hy
    have hd : ¬ (b.2.1 ≤ u ∧ u < b.2.1 + b.2.2.2) := fun q => by
      rcases List.mem_append.mp hy with h | h
      · have := (hm.2.1 y h).2; omega
      · have := (hm.2.2.1 y h).2; omega
    rw [hf.2 u (by omega), if_neg hd]
    exact hr.1 y (mem_mid.mpr (Or.inl hy)) u u0 u1
  · rw [hf.2 u u0]
    by_cases c : b.2.1 ≤ u ∧ u < b.2.1 + b.2.2.2
    · rw [if_pos c]
    · rw [if_neg c]
      exact hr.2 u u0 u1 (fun y hy => by
        rcases mem_mid.mp hy with hy | rfl
        · exact hno y hy
        · exact c)
theorem zp_give {b : bk_T} {wy : Nat} (h : sC w q x ow sz rm am cn de) (hwy : x.2.1 = wy) (hw6 : wy < 6) (hok : okB (X ++ b :: Y)) (hg : gcB (clsL wy) (X ++ b :: Y)) (hr : RO ow (X ++ b :: Y)) (hl : LR rm (X ++ b :: Y)) : ∃ w' ow' cn', Zc sc 140 [zp q, zj b.2.1, zj b.2.2.2] w none w' 0 0 ∧ zFm w w' (q + 73) 5 ∧ sC w' q x ow' sz rm am cn' de ∧ fillP ow ow' b.2.1 b.2.2.2 (-1) ∧ RO ow' (X ++ Y) := by
  have gb := hok.2 b (by simp)
  have hm := okB_mid.mp hok
  have hg2 : gcB (clsL wy) (X ++ Y) := gc_sub hg (fun x hx => mem_mid.mpr (Or.inl hx))
  have hl2 : LR rm (X ++ Y) := fun y hy => hl y (mem_mid.mpr (Or.inl hy))
  have hgb : wy = 4 → pP b.2.2.2 ∧ b.2.1 % b.2.2.2 = 0 := fun e => by
    subst e
    exact hg b (by simp)
  -- behind the emptying
  have tail : ∀ (w1 : List zE) (o1 c1 : List Int) (x3 x4 : Int) (v : Value), sC w1 q x o1 sz rm am c1 de → RO o1 (X ++ Y) → ∃ w' cn', Zr sc 140 161 [zp q, zj b.2.1, zj b.2.2.2, zj x3, zj x4, v] [] w1 none w' 0 0 ∧ zFm w1 w' (q + 73) 5 ∧ sC w' q x o1 sz rm am cn' de := by
    intro w1 o1 c1 x3 x4 v h ho
    obtain ⟨g0, g1, g2, g3, g4, g5, g6, g7, ⟨l1, l2, l3, l4, l5⟩, g9⟩ := id h
    have fin : ∀ W, Zr sc 140 198 [zp q, zj b.2.1, zj b.2.2.2, zj x3, zj x4, v] [] W none W 0 0 := fun W => V140_198 ⟨rfl, rfl, rfl, rfl⟩
    by_cases c5 : x.2.1 = 5
    · obtain rfl : wy = 5 := by omega
      by_cases c6 : 128 ≤ b.2.2.2
      · exact ⟨w1, c1, V140_161 g0 g5 ⟨by omega, fun q => absurd c5 q, fun _ => ⟨by omega, fun _ => fin _, fun q => absurd c6 q⟩⟩, zFm_refl _ _ _, h⟩
      · have pc := zp_pageClass (sc := sc) h hm.1 hg2 ho hl2 (p := b.2.1 / 128) (by omega)
        have hrg := (pgF_ok hm.1).2 (b.2.1 / 128)
        rw [pgF_get _ (by omega) (by omega)] at hrg
        by_cases c7 : lastK (X ++ Y) (b.2.1 / 128) = 0
        · obtain ⟨k1, k2⟩ := sC_cn h (cn' := zsi c1 2 (zgi c1 2 + 1)) (by rw [zsi_len]; exact l5)
          exact ⟨_, _, V140_161 g0 g5 ⟨by omega, fun q => absurd c5 q, fun _ => ⟨by omega, fun q => absurd q c6, fun _ => ⟨by omega, _, pc, by omega, fun q => absurd c7 q, fun _ => ⟨by omega, by omega, fin _⟩⟩⟩⟩, k2, k1⟩
        · exact ⟨w1, c1, V140_161 g0 g5 ⟨by omega, fun q => absurd c5 q, fun _ => ⟨by omega, fun q => absurd q c6, fun _ => ⟨by omega, _, pc, by omega, fun _ => fin _, fun q => absurd c7 q⟩⟩⟩, zFm_refl _ _ _, h⟩
    · exact ⟨w1, c1, V140_161 g0 g5 ⟨by omega, fun _ => fin _, fun q => absurd c5 q⟩, zFm_refl _ _ _, h⟩
  have loop : ∀ (n : Nat) (w1 : List zE) (o1 c1 : List Int) (a its : Int) (v : Value), (wy = 4 → pP its ∧ 0 ≤ a ∧ a % its = 0 ∧ a + its ≤ 1024 ∧ 1024 ≤ its * 2 ^ n) → sC w1 q x o1 sz rm am c1 de → RO o1 (X ++ Y) → ∃ w' cn', Zr sc 140 83 [zp q, zj b.2.1, zj b.2.2.2, zj a, zj its, v] [] w1 none w' 0 0 ∧ zFm w1 w' (q + 73) 5 ∧ sC w' q x o1 sz rm am cn' de := by
    intro n
    induction n with
    | zero =>
      intro w1 o1 c1 a its v h4 h ho
      obtain ⟨g0, g1, g2, g3, g4, g5, g6, g7, ⟨l1, l2, l3, l4, l5⟩, g9⟩ := id h
      obtain ⟨w2, c2, z1, z2⟩ := tail w1 o1 c1 a its v h ho
      by_cases c4 : x.2.1 = 4
      · have k := h4 (by omega)
        have k5 := k.2.2.2.2
        rw [Int.pow_zero] at k5
        have k8 := pP_8 k.1
        exact ⟨w2, c2, V140_83 g0 g5 ⟨by omega, fun q => absurd c4 q, fun _ => ⟨by omega, fun _ => z1, fun q => by omega⟩⟩, z2⟩
      · exact ⟨w2, c2, V140_83 g0 g5 ⟨by omega, fun _ => z1, fun q => absurd c4 q⟩, z2⟩
    | succ n ih =>
      intro w1 o1 c1 a its v h4 h ho
      obtain ⟨g0, g1, g2, g3, g4, g5, g6, g7, ⟨l1, l2, l3, l4, l5⟩, g9⟩ := id h
      obtain ⟨w2, c2, z1, z2⟩ := tail w1 o1 c1 a its v h ho
      by_cases c4 : x.2.1 = 4
      · obtain ⟨k1, k2, k3, k4, k5⟩ := h4 (by omega)
        by_cases c1024 : 1024 ≤ its
        · have k8 := pP_8 k1
          exact ⟨w2, c2, V140_83 g0 g5 ⟨by omega, fun q => absurd c4 q, fun _ => ⟨by omega, fun _ => z1, fun q => absurd c1024 q⟩⟩, z2⟩
        · have ki : its = 8 ∨ its = 16 ∨ its = 32 ∨ its = 64 ∨ its = 128 ∨ its = 256 ∨ its = 512 := by unfold pP at k1; omega
          obtain ⟨b1, b2, b3⟩ := bud ki k2 k3 k4
          have kp2 : pP (its * 2) := by unfold pP; omega
          rw [Int.pow_succ, Int.mul_comm (2 ^ n) 2, ← Int.mul_assoc] at k5
          obtain ⟨s1, s2⟩ := sC_cn h (cn' := zsi c1 2 (zgi c1 2 + 1)) (by rw [zsi_len]; exact l5)
          by_cases par : (a / its) % 2 = 0
          · have b2' := b2 par
            obtain ⟨r, f1, f2⟩ := zp_isFree (sc := sc) h hm.1 ho (f := a + its) (n := its) (by omega) (by omega) (by omega)
            rcases f2 with ⟨rfl, -⟩ | ⟨rfl, -⟩
            · obtain ⟨w3, c3, y1, y2, y3⟩ := ih _ o1 _ (min a (a + its)) (its * 2) (zj (a + its)) (fun _ => ⟨kp2, by omega, by rw [show min a (a + its) = a by omega]; exact b2'.2, by omega, k5⟩) s1 ho
              exact ⟨w3, c3, V140_83 g0 g5 ⟨by omega, fun q => absurd c4 q, fun _ => ⟨by omega, fun q => absurd q c1024, fun _ => ⟨by omega, by omega, by omega, fun q => absurd par q, fun _ => ⟨_, f1, by omega, fun _ => ⟨by omega, by omega, by omega, y1⟩, fun q => by omega⟩⟩⟩⟩, zFm_trans s2 y2, y3⟩
            · obtain ⟨w3, c3, y1, y2⟩ := tail w1 o1 c1 a its (zj (a + its)) h ho
              exact ⟨w3, c3, V140_83 g0 g5 ⟨by omega, fun q => absurd c4 q, fun _ => ⟨by omega, fun q => absurd q c1024, fun _ => ⟨by omega, by omega, by omega, fun q => absurd par q, fun _ => ⟨_, f1, by omega, fun q => by omega, fun _ => y1⟩⟩⟩⟩, y2⟩
          · have b3' := b3 par
            obtain ⟨r, f1, f2⟩ := zp_isFree (sc := sc) h hm.1 ho (f := a - its) (n := its) (by omega) (by omega) (by omega)
            rcases f2 with ⟨rfl, -⟩ | ⟨rfl, -⟩
            · obtain ⟨w3, c3, y1, y2, y3⟩ := ih _ o1 _ (min a (a - its)) (its * 2) (zj (a - its)) (fun _ => ⟨kp2, by omega, by rw [show min a (a - its) = a - its by omega]; exact b3'.2, by omega, k5⟩) s1 ho
              exact ⟨w3, c3, V140_83 g0 g5 ⟨by omega, fun q => absurd c4 q, fun _ => ⟨by omega, fun q => absurd q c1024, fun _ => ⟨by omega, by omega, by omega, fun _ => ⟨_, f1, by omega, fun _ => ⟨by omega, by omega, by omega, y1⟩, fun q => by omega⟩, fun q => absurd par q⟩⟩⟩, zFm_trans s2 y2, y3⟩
            · obtain ⟨w3, c3, y1, y2⟩ := tail w1 o1 c1 a its (zj (a - its)) h ho
              exact ⟨w3, c3, V140_83 g0 g5 ⟨by omega, fun q => absurd c4 q, fun _ => ⟨by omega, fun q => absurd q c1024, fun _ => ⟨by omega, by omega, by omega, fun _ => ⟨_, f1, by omega, fun q => by omega, fun _ => y1⟩, fun q => absurd par q⟩⟩⟩, y2⟩
      · exact ⟨w2, c2, V140_83 g0 g5 ⟨by omega, fun _ => z1, fun q => absurd c4 q⟩, z2⟩
  have e7 : (2 : Int) ^ 7 = 128 := by decide
  have start : ∀ (w1 : List zE) (c1 : List Int), sC w1 q x ow sz rm am c1 de → ∃ w' ow' cn', Zr sc 140 71 [zp q, zj b.2.1, zj b.2.2.2, zmk, zmk, zmk] [] w1 none w' 0 0 ∧ zFm w1 w' (q + 73) 5 ∧ sC w' q x ow' sz rm am cn' de ∧ fillP ow ow' b.2.1 b.2.2.2 (-1) ∧ RO ow' (X ++ Y) := by
    intro w1 c1 h
    obtain ⟨g0, g1, g2, g3, g4, g5, g6, g7, ⟨l1, l2, l3, l4, l5⟩, g9⟩ := id h
    obtain ⟨w2, o2, z1, z2, z3, z4⟩ := zp_fill (sc := sc) h (f := b.2.1) (n := b.2.2.2) (v := -1) (by omega) (by omega) (by omega)
    have hro := RO_give hok hr z4
    obtain ⟨w3, c3, y1, y2, y3⟩ := loop 7 w2 o2 c1 b.2.1 b.2.2.2 zmk (fun e => by
      obtain ⟨k1, k2⟩ := hgb e
      have := pP_8 k1
      exact ⟨k1, by omega, k2, by omega, by omega⟩) z3 hro
    exact ⟨w3, o2, c3, V140_71 g0 ⟨w2, z1, y1⟩, zFm_trans (zFm_mono z2 (by omega) (by omega)) y2, y3, z4, hro⟩
  obtain ⟨g0, g1, g2, g3, g4, g5, g6, g7, ⟨l1, l2, l3, l4, l5⟩, g9⟩ := id h
  by_cases c4 : 4 ≤ x.2.1
  · obtain ⟨w3, o3, c3, y1, y2⟩ := start w cn h
    exact ⟨w3, o3, c3, Zc_of rfl rfl (V140_0 g0 g5 g1 ⟨by omega, fun _ => y1, fun q => absurd c4 q⟩), y2⟩
  · have two : ∀ c1 c2 : List Int, c1.length = 5 → c2.length = 5 → ∃ w' ow' cn', Zr sc 140 71 [zp q, zj b.2.1, zj b.2.2.2, zmk, zmk, zmk] [] ((w.set (q + 77) (za c1)).set (q + 77) (za c2)) none w' 0 0 ∧ zFm w w' (q + 73) 5 ∧ sC w' q x ow' sz rm am cn' de ∧ fillP ow ow' b.2.1 b.2.2.2 (-1) ∧ RO ow' (X ++ Y) := fun c1 c2 k1 k2 => by
      obtain ⟨s1, s2⟩ := sC_cn h k1
      obtain ⟨t1, t2⟩ := sC_cn s1 k2
      obtain ⟨w3, o3, c3, y1, y2, y3⟩ := start _ _ t1
      exact ⟨w3, o3, c3, y1, zFm_trans s2 (zFm_trans t2 y2), y3⟩
    have sec : ∀ d : Int, ∃ w' ow' cn', (((0 : Int) ≤ 2 ∧ 2 < ((zsi cn 2 ((zgi cn 2) + d)).length : Int) ∧ 2 ≤ (2147483647 : Int)) ∧ ((zrg (b.2.1 + b.2.2.2) ∧ zrg 1024) ∧ ((1024 ≤ (b.2.1 + b.2.2.2) → (((0 : Int) ≤ 2 ∧ 2 < ((zsi cn 2 ((zgi cn 2) + d)).length : Int) ∧ 2 ≤ (2147483647 : Int)) ∧ Zr sc 140 71 [zp q, zj b.2.1, zj b.2.2.2, zmk, zmk, zmk] [] ((w.set (q + 77) (za (zsi cn 2 ((zgi cn 2) + d)))).set (q + 77) (za (zsi (zsi cn 2 ((zgi cn 2) + d)) 2 ((zgi (zsi cn 2 ((zgi cn 2) + d)) 2) + 0)))) none w' 0 0)) ∧ (¬ (1024 ≤ (b.2.1 + b.2.2.2)) → (((0 : Int) ≤ (b.2.1 + b.2.2.2) ∧ (b.2.1 + b.2.2.2) < (ow.length : Int) ∧ (b.2.1 + b.2.2.2) ≤ (2147483647 : Int)) ∧ ((zrg (zgi ow (b.2.1 + b.2.2.2))) ∧ ((0 ≤ (zgi ow (b.2.1 + b.2.2.2)) → (((0 : Int) ≤ 2 ∧ 2 < ((zsi cn 2 ((zgi cn 2) + d)).length : Int) ∧ 2 ≤ (2147483647 : Int)) ∧ Zr sc 140 71 [zp q, zj b.2.1, zj b.2.2.2, zmk, zmk, zmk] [] ((w.set (q + 77) (za (zsi cn 2 ((zgi cn 2) + d)))).set (q + 77) (za (zsi (zsi cn 2 ((zgi cn 2) + d)) 2 ((zgi (zsi cn 2 ((zgi cn 2) + d)) 2) + 0)))) none w' 0 0)) ∧ (¬ (0 ≤ (zgi ow (b.2.1 + b.2.2.2))) → (((0 : Int) ≤ 2 ∧ 2 < ((zsi cn 2 ((zgi cn 2) + d)).length : Int) ∧ 2 ≤ (2147483647 : Int)) ∧ Zr sc 140 71 [zp q, zj b.2.1, zj b.2.2.2, zmk, zmk, zmk] [] ((w.set (q + 77) (za (zsi cn 2 ((zgi cn 2) + d)))).set (q + 77) (za (zsi (zsi cn 2 ((zgi cn 2) + d)) 2 ((zgi (zsi cn 2 ((zgi cn 2) + d)) 2) + 1)))) none w' 0 0))))))))) ∧ zFm w w' (q + 73) 5 ∧ sC w' q x ow' sz rm am cn' de ∧ fillP ow ow' b.2.1 b.2.2.2 (-1) ∧ RO ow' (X ++ Y) := fun d => by
      have lc : (zsi cn 2 (zgi cn 2 + d)).length = 5 := by rw [zsi_len]; exact l5
      have lc2 : ∀ e, (zsi (zsi cn 2 (zgi cn 2 + d)) 2 e).length = 5 := fun e => by rw [zsi_len]; exact lc
      by_cases c5 : 1024 ≤ b.2.1 + b.2.2.2
      · obtain ⟨w3, o3, c3, y1, y2⟩ := two _ _ lc (lc2 (zgi (zsi cn 2 (zgi cn 2 + d)) 2 + 0))
        exact ⟨w3, o3, c3, ⟨by omega, by omega, fun _ => ⟨by omega, y1⟩, fun q => absurd c5 q⟩, y2⟩
      · have hu2 := (RO_free hok hr (u := b.2.1 + b.2.2.2) (by omega) (by omega)).1
        by_cases c6 : 0 ≤ zgi ow (b.2.1 + b.2.2.2)
        · obtain ⟨w3, o3, c3, y1, y2⟩ := two _ _ lc (lc2 (zgi (zsi cn 2 (zgi cn 2 + d)) 2 + 0))
          exact ⟨w3, o3, c3, ⟨by omega, by omega, fun q => absurd q c5, fun _ => ⟨by omega, by omega, fun _ => ⟨by omega, y1⟩, fun q => absurd c6 q⟩⟩, y2⟩
        · obtain ⟨w3, o3, c3, y1, y2⟩ := two _ _ lc (lc2 (zgi (zsi cn 2 (zgi cn 2 + d)) 2 + 1))
          exact ⟨w3, o3, c3, ⟨by omega, by omega, fun q => absurd q c5, fun _ => ⟨by omega, by omega, fun q => absurd q c6, fun _ => ⟨by omega, y1⟩⟩⟩, y2⟩
    by_cases c7 : b.2.1 ≤ 0
    · obtain ⟨w3, o3, c3, y1, y2⟩ := sec 0
      exact ⟨w3, o3, c3, Zc_of rfl rfl (V140_0 g0 g5 g1 ⟨by omega, fun q => absurd q c4, fun _ => ⟨by omega, by omega, fun _ => ⟨by omega, y1⟩, fun q => absurd c7 q⟩⟩), y2⟩
    · have hu2 := (RO_free hok hr (u := b.2.1 - 1) (by omega) (by omega)).1
      by_cases c8 : 0 ≤ zgi ow (b.2.1 - 1)
      · obtain ⟨w3, o3, c3, y1, y2⟩ := sec 0
        exact ⟨w3, o3, c3, Zc_of rfl rfl (V140_0 g0 g5 g1 ⟨by omega, fun q => absurd q c4, fun _ => ⟨by omega, by omega, fun q => absurd q c7, fun _ => ⟨by omega, by omega, fun _ => ⟨by omega, y1⟩, fun q => absurd c8 q⟩⟩⟩), y2⟩
      · obtain ⟨w3, o3, c3, y1, y2⟩ := sec 1
        exact ⟨w3, o3, c3, Zc_of rfl rfl (V140_0 g0 g5 g1 ⟨by omega, fun q => absurd q c4, fun _ => ⟨by omega, by omega, fun q => absurd q c7, fun _ => ⟨by omega, by omega, fun q => absurd q c8, fun _ => ⟨by omega, y1⟩⟩⟩⟩), y2⟩
end POM
