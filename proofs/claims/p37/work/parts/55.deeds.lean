/-! ===== the laboratory: deeds, doing again, the checksum ===== -/
theorem dop_k {c : Nat} {d : dd_T} {k k1 : mk_T} {hn hn1 : Int} {cn cn1 : List Int} {B B1 : List bk_T} (h : dop c d k hn cn B k1 hn1 cn1 B1) : k1.1 = k.1 ∧ k1.2.1 = k.2.1 ∧ k1.2.2.1 = k.2.2.1 := by
  obtain ⟨-, h⟩ := h
  rcases h with ⟨-, ⟨-, e, -⟩ | ⟨-, e, -⟩⟩ | ⟨-, e, -⟩ | ⟨-, e, -⟩ | ⟨-, e, -⟩ | ⟨-, e, -⟩ | ⟨-, e, -⟩ <;> (subst e; exact ⟨rfl, rfl, rfl⟩)
theorem fol_k {c : Nat} : ∀ {D : List dd_T} {k k' : mk_T} {hn hn' : Int} {cn cn' : List Int} {B B' : List bk_T}, fol c D k hn cn B k' hn' cn' B' → sumR B ≤ k.2.2.2.2.2.1 → k'.1 = k.1 ∧ k'.2.1 = k.2.1 ∧ k'.2.2.1 = k.2.2.1 ∧ sumR B' ≤ k'.2.2.2.2.2.1 := by
  intro D
  induction D with
  | nil =>
    intro k k' hn hn' cn cn' B B' h hp
    obtain ⟨rfl, rfl, rfl, rfl⟩ := h
    exact ⟨rfl, rfl, rfl, hp⟩
  | cons d D ih =>
    intro k k' hn hn' cn cn' B B' h hp
    obtain ⟨k1, hn1, cn1, B1, h1, h2⟩ := h
    obtain ⟨e1, e2, e3⟩ := dop_k h1
    obtain ⟨i1, i2, i3, i4⟩ := ih h2 (by show sumR B1 ≤ max (k1.2.2.2.2.2.1) (sumR B1); omega)
    exact ⟨i1.trans e1, i2.trans e2, i3.trans e3, i4⟩
def bgF (f : bk_T → Int) (B : List bk_T) (n : Int) : Int := match B.find? (fun b => decide (b.1 = n)) with
  | some b => f b
  | none => -1
theorem bgF_t {B : List bk_T} (hok : okB B) {b : bk_T} (hb : b ∈ B) (f : bk_T → Int) : bgF f B b.1 = f b := by
  unfold bgF
  cases hf : B.find? (fun x => decide (x.1 = b.1)) with
  | none =>
    have := List.find?_eq_none.mp hf b hb
    simp at this
  | some x =>
    have h1 := List.find?_some hf
    have h2 := List.mem_of_find?_eq_some hf
    rw [okB_inj hok h2 hb (of_decide_eq_true h1)]
theorem bgF_f {B : List bk_T} {n : Int} (hb : ∀ b ∈ B, b.1 ≠ n) (f : bk_T → Int) : bgF f B n = -1 := by
  unfold bgF
  rw [List.find?_eq_none.mpr (fun b h => by simpa using hb b h)]
def dF (L : List Int) (d : Int64) : Int64 := L.foldl (fun d v => d * 31 + (Int32.ofInt v).toInt64) d
def nmL (B : List bk_T) : Nat → Int → List Int
  | 0, _ => []
  | m + 1, n => bgF (fun b => b.2.1) B n :: bgF (fun b => b.2.2.1) B n :: bgF (fun b => b.2.2.2) B n :: nmL B m (n + 1)
def hoL : List hl_T → List Int
  | [] => []
  | h :: H => h.1 :: h.2 :: hoL H
def pgL (c : Nat) (B : List bk_T) : Nat → Int → List Int
  | 0, _ => []
  | m + 1, p => clF c B p :: pgL c B m (p + 1)
def wyL (K : Nat → mk_T) (CN : Nat → List Int) : Nat → Nat → List Int
  | 0, _ => []
  | m + 1, i => zgi (CN i) 4 :: (K i).2.2.2.2.2.1 :: wyL K CN m (i + 1)
def dgL (wy : Nat) (n : Nat) (K : Nat → mk_T) (HN : Nat → Int) (CN : Nat → List Int) (BB : Nat → List bk_T) (p1 p2 p3 : Int) : List Int :=
  [(wy : Int), (K wy).2.2.2.1, (n : Int), (K wy).2.2.2.2.1, ((BB wy).length : Int), sumR (BB wy), sumR (BB wy) - sumS (BB wy), maxH (holF (clsL wy) (BB wy)), (K wy).2.2.2.2.2.1, HN wy] ++ [zgi (CN wy) 0, zgi (CN wy) 1, zgi (CN wy) 2, zgi (CN wy) 3, zgi (CN wy) 4] ++
  (nmL (BB wy) (K wy).2.2.2.1.toNat 0 ++ [((holF (clsL wy) (BB wy)).length : Int)] ++ hoL (holF (clsL wy) (BB wy)) ++ pgL (clsL wy) (BB wy) 8 0) ++ [p1, p2, p3] ++ wyL K CN 6 0
theorem dF_app (L M : List Int) (d : Int64) : dF (L ++ M) d = dF M (dF L d) := by
  unfold dF
  rw [List.foldl_append]
section DIG
variable {sc : List Value} {w w' : List zE} {l wy c m : Nat} {st hd : Int} {D : List dd_T} {K : Nat → mk_T} {HN : Nat → Int} {CN : Nat → List Int} {BB : Nat → List bk_T} {k : mk_T} {hn : Int} {cn : List Int} {B : List bk_T}
theorem zc_placeOf_g {a : Nat} (h : sB w a B) {n : Int} (hn : zrg n) : Zc sc 9 [zp a, zj n] w (some (zj (bgF (fun b => b.2.1) B n))) w 0 0 := by
  rcases bcase B n with ⟨b, hb, e⟩ | hno
  · subst e
    rw [bgF_t h.1 hb]
    exact zc_placeOf_t h hb
  · rw [bgF_f hno]
    exact zc_placeOf_f h hn hno
theorem zc_sizeOf_g {a : Nat} (h : sB w a B) {n : Int} (hn : zrg n) : Zc sc 11 [zp a, zj n] w (some (zj (bgF (fun b => b.2.2.1) B n))) w 0 0 := by
  rcases bcase B n with ⟨b, hb, e⟩ | hno
  · subst e
    rw [bgF_t h.1 hb]
    exact zc_sizeOf_t h hb
  · rw [bgF_f hno]
    exact zc_sizeOf_f h hn hno
theorem zc_roomOf_g {a : Nat} (h : sB w a B) {n : Int} (hn : zrg n) : Zc sc 13 [zp a, zj n] w (some (zj (bgF (fun b => b.2.2.2) B n))) w 0 0 := by
  rcases bcase B n with ⟨b, hb, e⟩ | hno
  · subst e
    rw [bgF_t h.1 hb]
    exact zc_roomOf_t h hb
  · rw [bgF_f hno]
    exact zc_roomOf_f h hn hno
theorem zl_pages (hc : c = 1 ∨ c = 2 ∨ c = 4) (h : sQ w c m k hn cn B) {x0 : Int64} {a5 a6 : Nat} : ∀ (n : Nat) (p : Int) (d : Int64), p + n = 8 → 0 ≤ p → Zr sc 103 142 [.long x0, zmk, zp m, .long d, zmk, zp a5, zp a6, zj p] [] w (some (.long (dF (pgL c B n p) d))) w 0 0 := by
  obtain ⟨fs, ho⟩ := sQ_ob h
  intro n
  induction n with
  | zero => intro p d e h0; exact V103_142 ⟨by omega, fun _ => ⟨rfl, rfl, rfl, rfl⟩, fun q => by omega⟩
  | succ n ih =>
    intro p d e h0
    obtain ⟨j, hj, z1⟩ := zm_classOf (sc := sc) hc h (p := p) (by omega)
    exact V103_142 ⟨by omega, fun q => by omega, fun _ => ⟨c, fs, j, ho, hj, _, z1, ih (p + 1) _ (by omega) (by omega)⟩⟩
theorem zl_holesD (hc : c = 1 ∨ c = 2 ∨ c = 4) (h : sQ w c m k hn cn B) {x0 : Int64} {a5 : Nat} : ∀ (Y X : List hl_T) (d : Int64), holF c B = X ++ Y → Zr sc 103 93 [.long x0, zmk, zp m, .long d, zmk, zp a5, zp (m + 6), zj X.length] [] w (some (.long (dF (hoL Y ++ pgL c B 8 0) d))) w 0 0 := by
  have hH := sQ_H h
  have hl := hH.2.1
  intro Y
  induction Y with
  | nil =>
    intro X d e
    rw [List.append_nil] at e
    have hxl : (holF c B).length = X.length := by rw [e]
    exact V103_93 ⟨_, hH.ob, _, zc_hHow hH, by omega, fun _ => zl_pages hc h 8 0 d (by omega) (by omega), fun q => absurd (show ((holF c B).length : Int) ≤ X.length by rw [e]; exact Int.le_refl _) q⟩
  | cons x Y ih =>
    intro X d e
    have hx : (holF c B)[X.length]? = some x := by rw [e]; exact mid_eq
    have hlt := (List.getElem?_eq_some_iff.mp hx).1
    have := ih (X ++ [x]) (d * 31 + (Int32.ofInt x.1).toInt64 |>.mul 31 |>.add (Int32.ofInt x.2).toInt64) (by rw [e]; simp)
    rw [List.length_append] at this
    exact V103_93 ⟨_, hH.ob, _, zc_hHow hH, by omega, fun q => by omega, fun _ => ⟨_, zc_hPlace_t hH hx, _, zc_hSize_t hH hx, this⟩⟩
theorem zl_every (hc : c = 1 ∨ c = 2 ∨ c = 4) (h : sQ w c m k hn cn B) (d : Int64) : Zc sc 103 [.long d, zp m] w (some (.long (dF (nmL B (k.2.2.2.1).toNat 0 ++ [((holF c B).length : Int)] ++ hoL (holF c B) ++ pgL c B 8 0) d))) w 0 0 := by
  obtain ⟨fs, ho⟩ := sQ_ob h
  have hB := sQ_B h
  have hH := sQ_H h
  have hk4 := h.2.1.2.2.2.1
  have key : ∀ (n : Nat) (x : Int) (z : Int64), x + n = k.2.2.2.1 → 0 ≤ x → Zr sc 103 11 [.long d, zmk, zp m, .long z, zmk, zp (m + 1), zj x, zmk] [] w (some (.long (dF (nmL B n x ++ [((holF c B).length : Int)] ++ hoL (holF c B) ++ pgL c B 8 0) z))) w 0 0 := by
    intro n
    induction n with
    | zero =>
      intro x z e h0
      have := zl_holesD (sc := sc) hc h (x0 := d) (a5 := m + 1) (holF c B) [] (z * 31 + (Int32.ofInt ((holF c B).length : Int)).toInt64) rfl
      exact V103_11 ⟨c, fs, ho, hc, _, zm_names hc h, by omega, fun _ => ⟨c, fs, ho, hc, _, zm_gaps hc h, _, hH.ob, _, zc_hHow hH, this⟩, fun q => by omega⟩
    | succ n ih =>
      intro x z e h0
      exact V103_11 ⟨c, fs, ho, hc, _, zm_names hc h, by omega, fun q => by omega, fun _ => ⟨_, hB.ob, _, zc_placeOf_g hB (by omega), _, zc_sizeOf_g hB (by omega), _, zc_roomOf_g hB (by omega), ih (x + 1) _ (by omega) (by omega)⟩⟩
  have := key (k.2.2.2.1).toNat 0 d (by omega) (by omega)
  exact Zc_of rfl rfl (V103_0 ⟨c, fs, ho, hc, _, zm_standing hc h, this⟩)
/-- one memory follows the trace -/
theorem zl_follow (h : sL w l wy st hd D K HN CN BB) {i : Nat} (hi : i < 6) : ∃ w' k' hn' cn' B', Zc sc 57 [zp (l + offL i), zp (l + 1)] w (some (zp (l + offL i))) w' 0 0 ∧ zFm w w' l 72 ∧ mOK w' l i st hd D k' hn' cn' B' ∧ k'.2.2.2.2.2.2.1 = D.length ∧
    sL w' l wy st hd D (fun j => if j = i then k' else K j) (fun j => if j = i then hn' else HN j) (fun j => if j = i then cn' else CN j) (fun j => if j = i then B' else BB j) ∧ ((K i).2.2.2.2.2.2.1 = D.length → k' = K i ∧ hn' = HN i ∧ cn' = CN i ∧ B' = BB i) := by
  obtain ⟨h1, h0, hT, hdn, hM⟩ := id h
  obtain ⟨⟨D1, D2, e, hd1, hw1⟩, hQ, hp1, hk1, hk2, hk3⟩ := hM i hi
  have r := off_rg hi
  rw [e] at hT
  obtain ⟨w1, k', hn', cn', B', z1, z2, z3, z4, z5⟩ := zm_follow (sc := sc) (clsL_c i) (t := l + 1) (by omega) hT hQ hw1 hd1
  rw [← e] at z3 z5
  obtain ⟨f1, f2, f3, f4⟩ := fol_k z4 hp1
  have hm : mOK w1 l i st hd D (dnF k' D.length) hn' cn' B' := ⟨⟨D, [], by simp, rfl, z5⟩, z3, f4, f1.trans hk1, f2.trans hk2, f3.trans hk3⟩
  refine ⟨w1, dnF k' D.length, hn', cn', B', z1, zFm_lab hi z2, hm, rfl, sL_one h hi z2 hm (fun _ => rfl), fun hu => ?_⟩
  have e2 : D2 = [] := by
    have : D1.length + D2.length = D.length := by rw [e, List.length_append]
    cases D2 with
    | nil => rfl
    | cons d D2 => rw [List.length_cons] at this; omega
  subst e2
  obtain ⟨rfl, rfl, rfl, rfl⟩ := z4
  refine ⟨?_, rfl, rfl, rfl⟩
  rw [← hu]
  rfl
theorem sL_ext {K2 : Nat → mk_T} {HN2 : Nat → Int} {CN2 : Nat → List Int} {BB2 : Nat → List bk_T} (h : sL w l wy st hd D K HN CN BB) (e : ∀ i, i < 6 → K2 i = K i ∧ HN2 i = HN i ∧ CN2 i = CN i ∧ BB2 i = BB i) : sL w l wy st hd D K2 HN2 CN2 BB2 := by
  obtain ⟨h1, h0, hT, hdn, hM⟩ := h
  refine ⟨h1, h0, hT, by rw [(e wy h1).1]; exact hdn, fun i hi => ?_⟩
  obtain ⟨e1, e2, e3, e4⟩ := e i hi
  rw [e1, e2, e3, e4]
  exact hM i hi
theorem zl_follow_u (h : sL w l wy st hd D K HN CN BB) {i : Nat} (hi : i < 6) (hu : (K i).2.2.2.2.2.2.1 = D.length) : ∃ w', Zc sc 57 [zp (l + offL i), zp (l + 1)] w (some (zp (l + offL i))) w' 0 0 ∧ zFm w w' l 72 ∧ sL w' l wy st hd D K HN CN BB := by
  obtain ⟨w1, k', hn', cn', B', z1, z2, z3, z4, z5, z6⟩ := zl_follow (sc := sc) h hi
  obtain ⟨rfl, rfl, rfl, rfl⟩ := z6 hu
  refine ⟨w1, z1, z2, sL_ext z5 fun j hj => ?_⟩
  by_cases e : j = i
  · subst e
    rw [if_pos rfl, if_pos rfl, if_pos rfl, if_pos rfl]
    exact ⟨rfl, rfl, rfl, rfl⟩
  · rw [if_neg e, if_neg e, if_neg e, if_neg e]
    exact ⟨rfl, rfl, rfl, rfl⟩
theorem zl_again (h : sL w l wy st hd D K HN CN BB) {i : Nat} (hi : i < 6) (hu : (K i).2.2.2.2.2.2.1 = D.length) {x : Int} (hx : 0 ≤ x ∧ x ≤ 7) : ∃ w', Zc sc 55 [zp l, zj i, zj x] w (some (zj (cntF (clsL i) (K i) (CN i) (BB i) x))) w' 0 0 ∧ zFm w w' l 72 ∧ sL w' l wy st hd D K HN CN BB := by
  obtain ⟨w1, z1, z2, z3⟩ := zl_follow_u (sc := sc) h hi hu
  obtain ⟨h1, h0, hT, hdn, hM⟩ := id h
  obtain ⟨-, hQ0, -⟩ := hM i hi
  obtain ⟨fs0, ho0⟩ := sQ_ob hQ0
  obtain ⟨-, hQ, -⟩ := z3.2.2.2.2 i hi
  obtain ⟨fs, ho⟩ := sQ_ob hQ
  have hw : Zc sc 56 [zj (i : Int)] w (some (zj 1)) w 0 0 := Zc_of rfl rfl (V56_0 ⟨by omega, fun q => by omega, fun _ => ⟨by omega, fun q => by omega, fun _ => ⟨rfl, rfl, rfl, rfl⟩⟩⟩)
  exact ⟨w1, Zc_of rfl rfl (V55_0 h0 ⟨_, hw, by omega, fun _ => ⟨by omega, fun q => by omega, fun _ => ⟨by omega, fun _ => ⟨_, zl_memoryOf h0 hi, _, fs0, ho0, clsL_c i, _, w1, z1, _, fs, ho, clsL_c i, _, zm_countOf (clsL_c i) hQ hx, rfl, rfl, rfl, rfl⟩, fun q => by omega⟩⟩, fun q => by omega⟩), z2, z3⟩
end DIG
