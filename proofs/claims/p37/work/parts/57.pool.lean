/-! ===== the pool: its cells, what reads them ===== -/
abbrev ps_T : Type := Int × Int × Int × Int × Int × Int × Int × Int × Nat
def pobj (q : Nat) (x : ps_T) : zE := zob 7 [zp (q + 1), .ref 0, zj (x.1), zj (x.2.1), zj (x.2.2.1), zj (x.2.2.2.1), zp (q + 73), zj (x.2.2.2.2.1), zp (q + 74), zp (q + 75), zp (q + 76), zj (x.2.2.2.2.2.1), zj (x.2.2.2.2.2.2.1), zp (q + 77), zj (x.2.2.2.2.2.2.2.1), zp (x.2.2.2.2.2.2.2.2), zj 1]
def sC (w : List zE) (q : Nat) (x : ps_T) (ow sz rm am cn de : List Int) : Prop :=
  w[q]? = some (pobj q x) ∧ w[q + 73]? = some (za ow) ∧ w[q + 74]? = some (za sz) ∧ w[q + 75]? = some (za rm) ∧ w[q + 76]? = some (za am) ∧ w[q + 77]? = some (za cn) ∧ w[x.2.2.2.2.2.2.2.2]? = some (za de) ∧ q + 78 ≤ x.2.2.2.2.2.2.2.2 ∧ (ow.length = 1024 ∧ sz.length = 81 ∧ rm.length = 81 ∧ am.length = 81 ∧ cn.length = 5) ∧ de.length ≤ 600
def RO (ow : List Int) (B : List bk_T) : Prop := (∀ b ∈ B, ∀ u : Int, b.2.1 ≤ u → u < b.2.1 + b.2.2.2 → zgi ow u = b.1) ∧ ∀ u : Int, 0 ≤ u → u < 1024 → (∀ b ∈ B, ¬ (b.2.1 ≤ u ∧ u < b.2.1 + b.2.2.2)) → zgi ow u = -1
def fillP (ow ow' : List Int) (f n v : Int) : Prop := ow'.length = ow.length ∧ ∀ u : Int, 0 ≤ u → zgi ow' u = if f ≤ u ∧ u < f + n then v else zgi ow u
theorem ucase (B : List bk_T) (u : Int) : (∃ b ∈ B, b.2.1 ≤ u ∧ u < b.2.1 + b.2.2.2) ∨ ∀ b ∈ B, ¬ (b.2.1 ≤ u ∧ u < b.2.1 + b.2.2.2) := by
  by_cases h : ∃ b ∈ B, b.2.1 ≤ u ∧ u < b.2.1 + b.2.2.2
  · exact Or.inl h
  · exact Or.inr fun b hb e => h ⟨b, hb, e⟩
theorem RO_free {ow : List Int} {B : List bk_T} (hok : okB B) (h : RO ow B) {u : Int} (h0 : 0 ≤ u) (h1 : u < 1024) : (-1 ≤ zgi ow u ∧ zgi ow u ≤ 80) ∧ (zgi ow u < 0 ↔ ∀ b ∈ B, ¬ (b.2.1 ≤ u ∧ u < b.2.1 + b.2.2.2)) := by
  rcases ucase B u with ⟨b, hb, e⟩ | hno
  · have := h.1 b hb u e.1 e.2
    have g := hok.2 b hb
    exact ⟨by omega, fun q => by omega, fun q => absurd e (q b hb)⟩
  · have := h.2 u h0 h1 hno
    exact ⟨by omega, fun _ => hno, fun _ => by omega⟩
theorem RO_own {ow : List Int} {B : List bk_T} (h : RO ow B) {u n : Int} (h0 : 0 ≤ u) (h1 : u < 1024) (hn : 0 ≤ n) (e : zgi ow u = n) : ∃ b ∈ B, b.1 = n ∧ b.2.1 ≤ u ∧ u < b.2.1 + b.2.2.2 := by
  rcases ucase B u with ⟨b, hb, q⟩ | hno
  · have := h.1 b hb u q.1 q.2
    exact ⟨b, hb, by omega, q⟩
  · have := h.2 u h0 h1 hno
    omega
section POL
variable {sc : List Value} {w w' : List zE} {q : Nat} {x x' : ps_T} {ow ow' sz rm am cn de : List Int} {B : List bk_T} {S : List Int}
theorem sC_fm {a n : Nat} (hf : zFm w w' a n) (h1 : q + 1 ≤ a) (h2 : a + n ≤ q + 73) (h : sC w q x ow sz rm am cn de) : sC w' q x ow sz rm am cn de := by
  obtain ⟨g0, g1, g2, g3, g4, g5, g6, g7, g8⟩ := h
  exact ⟨zFm_get hf g0 (by omega), zFm_get hf g1 (by omega), zFm_get hf g2 (by omega), zFm_get hf g3 (by omega), zFm_get hf g4 (by omega), zFm_get hf g5 (by omega), zFm_get hf g6 (by omega), g7, g8⟩
theorem sC_new (hf : zFm w w' 0 0) (h : sC w q x ow sz rm am cn de) : sC w' q x ow sz rm am cn de := by
  obtain ⟨g0, g1, g2, g3, g4, g5, g6, g7, g8⟩ := h
  exact ⟨zFm_get hf g0 (by omega), zFm_get hf g1 (by omega), zFm_get hf g2 (by omega), zFm_get hf g3 (by omega), zFm_get hf g4 (by omega), zFm_get hf g5 (by omega), zFm_get hf g6 (by omega), g7, g8⟩
theorem zFm_00 {a n : Nat} (hf : zFm w w' 0 0) : zFm w w' a n := ⟨hf.1, fun b hb _ => hf.2 b hb (by omega)⟩
theorem zand_rg (x : Int) : 0 ≤ zjop 7 x 2147483647 ∧ zjop 7 x 2147483647 ≤ 2147483647 := by
  show 0 ≤ (Int32.ofInt x &&& Int32.ofInt 2147483647).toInt ∧ (Int32.ofInt x &&& Int32.ofInt 2147483647).toInt ≤ 2147483647
  have h : (Int32.ofInt x &&& Int32.ofInt 2147483647).toBitVec.toNat ≤ 2147483647 := by
    rw [Int32.toBitVec_and, BitVec.toNat_and]
    exact Nat.and_le_right
  have e : (Int32.ofInt x &&& Int32.ofInt 2147483647).toInt = ((Int32.ofInt x &&& Int32.ofInt 2147483647).toBitVec.toNat : Int) := by
    show (Int32.ofInt x &&& Int32.ofInt 2147483647).toBitVec.toInt = _
    rw [BitVec.toInt_eq_toNat_of_lt (by omega)]
  omega
theorem zp_draw (h : sC w q x ow sz rm am cn de) (hS : sc = S.map zj) (hl : S.length ≤ 260) (hd : 0 ≤ x.1 ∧ x.1 ≤ 1000000) {n : Int} (hn : 1 ≤ n ∧ n ≤ 2147483647) : ∃ r w', Zc sc 115 [zp q, zj n] w (some (zj r)) w' 0 0 ∧ (0 ≤ r ∧ r < n) ∧ zFm w w' q 1 ∧ sC w' q (x.1 + 1, x.2) ow sz rm am cn de := by
  obtain ⟨g0, g1, g2, g3, g4, g5, g6, g7, ⟨l1, l2, l3, l4, l5⟩, g9⟩ := id h
  have hsl : sc.length = S.length := by rw [hS, List.length_map]
  have z1 : ∃ r, Zc sc 116 [.ref 0, zj (x.1 % 24)] w (some (zj r)) w 0 0 := by
    by_cases c : (sc.length : Int) ≤ x.1 % 24
    · exact ⟨_, Zc_of rfl rfl (V116_0 ⟨by omega, fun _ => ⟨rfl, rfl, rfl, rfl⟩, fun q => absurd c q⟩)⟩
    · exact ⟨_, Zc_of rfl rfl (V116_0 ⟨by omega, fun q => absurd q c, fun _ => ⟨S, hS, by omega, rfl, rfl, rfl, rfl⟩⟩)⟩
  obtain ⟨r, z1⟩ := z1
  have hb := zand_rg (zjop 6 r ((x.1 / 24) % 8) + 97 * x.1)
  have z2 : Zc sc 117 [zj (zjop 6 r ((x.1 / 24) % 8) + 97 * x.1), zj n] w (some (zj (zjop 7 (zjop 6 r ((x.1 / 24) % 8) + 97 * x.1) 2147483647 % n))) w 0 0 := Zc_of rfl rfl (V117_0 ⟨by omega, rfl, rfl, rfl, rfl⟩)
  have e1 := Int.emod_nonneg (zjop 7 (zjop 6 r ((x.1 / 24) % 8) + 97 * x.1) 2147483647) (show n ≠ 0 by omega)
  have e2 := Int.emod_lt_of_pos (zjop 7 (zjop 6 r ((x.1 / 24) % 8) + 97 * x.1) 2147483647) (show 0 < n by omega)
  exact ⟨_, _, Zc_of rfl rfl (V115_0 g0 ⟨by omega, r, z1, by omega, by omega, _, z2, rfl, rfl, rfl, rfl⟩), ⟨e1, e2⟩, zFm_set (by omega) (by omega), zw_s g0, zw_o (by omega) g1, zw_o (by omega) g2, zw_o (by omega) g3, zw_o (by omega) g4, zw_o (by omega) g5, zw_o (show q ≠ x.2.2.2.2.2.2.2.2 by omega) g6, g7, ⟨l1, l2, l3, l4, l5⟩, g9⟩
theorem zp_isFree (h : sC w q x ow sz rm am cn de) (hok : okB B) (hr : RO ow B) {f n : Int} (hf : 0 ≤ f) (hn : 0 ≤ n) (hfn : f + n ≤ 1024) : ∃ r, Zc sc 128 [zp q, zj f, zj n] w (some (zj r)) w 0 0 ∧ ((r = 1 ∧ ∀ u : Int, f ≤ u → u < f + n → zgi ow u < 0) ∨ (r = 0 ∧ ∃ u : Int, f ≤ u ∧ u < f + n ∧ 0 ≤ zgi ow u)) := by
  obtain ⟨g0, g1, g2, g3, g4, g5, g6, g7, ⟨l1, l2, l3, l4, l5⟩, g9⟩ := id h
  have key : ∀ (m : Nat) (u : Int), u + m = f + n → f ≤ u → (∀ v : Int, f ≤ v → v < u → zgi ow v < 0) → ∃ r, Zr sc 128 2 [zp q, zj f, zj n, zj u] [] w (some (zj r)) w 0 0 ∧ ((r = 1 ∧ ∀ u : Int, f ≤ u → u < f + n → zgi ow u < 0) ∨ (r = 0 ∧ ∃ u : Int, f ≤ u ∧ u < f + n ∧ 0 ≤ zgi ow u)) := by
    intro m
    induction m with
    | zero => intro u hu h0 hv; exact ⟨1, V128_2 g0 g1 ⟨by omega, fun _ => ⟨rfl, rfl, rfl, rfl⟩, fun q => by omega⟩, Or.inl ⟨rfl, fun v v0 v1 => hv v v0 (by omega)⟩⟩
    | succ m ih =>
      intro u hu h0 hv
      have hu2 := (RO_free hok hr (u := u) (by omega) (by omega)).1
      by_cases c : zgi ow u < 0
      · obtain ⟨r, z1, z2⟩ := ih (u + 1) (by omega) (by omega) (fun v v0 v1 => by
          by_cases e : v = u
          · subst e; exact c
          · exact hv v v0 (by omega))
        exact ⟨r, V128_2 g0 g1 ⟨by omega, fun q => by omega, fun _ => ⟨by omega, by omega, fun _ => z1, fun q => absurd c q⟩⟩, z2⟩
      · exact ⟨0, V128_2 g0 g1 ⟨by omega, fun q => by omega, fun _ => ⟨by omega, by omega, fun q => absurd q c, fun _ => ⟨rfl, rfl, rfl, rfl⟩⟩⟩, Or.inr ⟨rfl, u, h0, by omega, by omega⟩⟩
  obtain ⟨r, z1, z2⟩ := key n.toNat f (by omega) (Int.le_refl _) (fun v v0 v1 => by omega)
  exact ⟨r, Zc_of rfl rfl (V128_0 z1), z2⟩
theorem zp_place_t (h : sC w q x ow sz rm am cn de) (hok : okB B) (hr : RO ow B) {b : bk_T} (hb : b ∈ B) : Zc sc 138 [zp q, zj b.1] w (some (zj b.2.1)) w 0 0 := by
  obtain ⟨g0, g1, g2, g3, g4, g5, g6, g7, ⟨l1, l2, l3, l4, l5⟩, g9⟩ := id h
  have gb := hok.2 b hb
  have key : ∀ (m : Nat) (u : Int), u + m = b.2.1 → 0 ≤ u → Zr sc 138 2 [zp q, zj b.1, zj u] [] w (some (zj b.2.1)) w 0 0 := by
    intro m
    induction m with
    | zero =>
      intro u hu h0
      obtain rfl : u = b.2.1 := by omega
      have e := hr.1 b hb b.2.1 (Int.le_refl _) (by omega)
      exact V138_2 g0 g1 ⟨by omega, fun q => by omega, fun _ => ⟨by omega, by omega, fun q => absurd e q, fun _ => ⟨rfl, rfl, rfl, rfl⟩⟩⟩
    | succ m ih =>
      intro u hu h0
      have hu2 := (RO_free hok hr (u := u) (by omega) (by omega)).1
      have hne : zgi ow u ≠ b.1 := fun e => by
        obtain ⟨b', hb', e1, e2, e3⟩ := RO_own hr h0 (by omega) gb.1 e
        have := okB_inj hok hb' hb e1
        subst this
        omega
      exact V138_2 g0 g1 ⟨by omega, fun q => by omega, fun _ => ⟨by omega, by omega, fun _ => ih (u + 1) (by omega) (by omega), fun q => absurd hne q⟩⟩
  exact Zc_of rfl rfl (V138_0 (key b.2.1.toNat 0 (by omega) (by omega)))
theorem zp_place_f (h : sC w q x ow sz rm am cn de) (hok : okB B) (hr : RO ow B) {n : Int} (hn : 0 ≤ n ∧ n ≤ 1000) (hb : ∀ b ∈ B, b.1 ≠ n) : Zc sc 138 [zp q, zj n] w (some (zj (-1))) w 0 0 := by
  obtain ⟨g0, g1, g2, g3, g4, g5, g6, g7, ⟨l1, l2, l3, l4, l5⟩, g9⟩ := id h
  have key : ∀ (m : Nat) (u : Int), u + m = 1024 → 0 ≤ u → Zr sc 138 2 [zp q, zj n, zj u] [] w (some (zj (-1))) w 0 0 := by
    intro m
    induction m with
    | zero =>
      intro u hu h0
      exact V138_2 g0 g1 ⟨by omega, fun _ => ⟨rfl, rfl, rfl, rfl⟩, fun q => by omega⟩
    | succ m ih =>
      intro u hu h0
      have hu2 := (RO_free hok hr (u := u) (by omega) (by omega)).1
      have hne : zgi ow u ≠ n := fun e => by
        obtain ⟨b', hb', e1, e2, e3⟩ := RO_own hr h0 (by omega) hn.1 e
        exact hb b' hb' e1
      exact V138_2 g0 g1 ⟨by omega, fun q => by omega, fun _ => ⟨by omega, by omega, fun _ => ih (u + 1) (by omega) (by omega), fun q => absurd hne q⟩⟩
  exact Zc_of rfl rfl (V138_0 (key 1024 0 (by omega) (by omega)))
theorem zp_used (h : sC w q x ow sz rm am cn de) (hok : okB B) (hr : RO ow B) : ∃ r, Zc sc 133 [zp q] w (some (zj r)) w 0 0 ∧ 0 ≤ r ∧ r ≤ 1024 := by
  obtain ⟨g0, g1, g2, g3, g4, g5, g6, g7, ⟨l1, l2, l3, l4, l5⟩, g9⟩ := id h
  have key : ∀ (m : Nat) (u s : Int) (v : Value), u + m = 1024 → 0 ≤ u → 0 ≤ s → s ≤ u → ∃ r, Zr sc 133 13 [zp q, zj s, zp (q + 73), zj (ow.length : Int), zj u, v] [] w (some (zj r)) w 0 0 ∧ 0 ≤ r ∧ r ≤ 1024 := by
    intro m
    induction m with
    | zero => intro u s v hu h0 h1 h2; exact ⟨s, V133_13 ⟨by omega, fun _ => ⟨rfl, rfl, rfl, rfl⟩, fun q => by omega⟩, by omega, by omega⟩
    | succ m ih =>
      intro u s v hu h0 h1 h2
      have hu2 := (RO_free hok hr (u := u) (by omega) (by omega)).1
      by_cases c : zgi ow u < 0
      · obtain ⟨r, z1, z2⟩ := ih (u + 1) (s + 0) (zj (zgi ow u)) (by omega) (by omega) (by omega) (by omega)
        exact ⟨r, V133_13 ⟨by omega, fun q => by omega, fun _ => ⟨_, g1, by omega, by omega, fun _ => z1, fun q => absurd c q⟩⟩, z2⟩
      · obtain ⟨r, z1, z2⟩ := ih (u + 1) (s + 1) (zj (zgi ow u)) (by omega) (by omega) (by omega) (by omega)
        exact ⟨r, V133_13 ⟨by omega, fun q => by omega, fun _ => ⟨_, g1, by omega, by omega, fun q => absurd q c, fun _ => z1⟩⟩, z2⟩
  obtain ⟨r, z1, z2⟩ := key 1024 0 0 zmk (by omega) (by omega) (by omega) (by omega)
  exact ⟨r, Zc_of rfl rfl (V133_0 g0 g1 z1), z2⟩
theorem zp_fill (h : sC w q x ow sz rm am cn de) {f n v : Int} (hf : 0 ≤ f) (hn : 0 ≤ n) (hfn : f + n ≤ 1024) : ∃ w' ow', Zc sc 131 [zp q, zj f, zj n, zj v] w none w' 0 0 ∧ zFm w w' (q + 73) 1 ∧ sC w' q x ow' sz rm am cn de ∧ fillP ow ow' f n v := by
  have key : ∀ (m : Nat) (u : Int) (w0 : List zE) (o0 : List Int), u + m = f + n → f ≤ u → sC w0 q x o0 sz rm am cn de → zFm w w0 (q + 73) 1 → fillP ow o0 f (u - f) v → ∃ w' ow', Zr sc 131 3 [zp q, zj f, zj n, zj v, zj u] [] w0 none w' 0 0 ∧ zFm w w' (q + 73) 1 ∧ sC w' q x ow' sz rm am cn de ∧ fillP ow ow' f n v := by
    intro m
    induction m with
    | zero =>
      intro u w0 o0 hu h0 h hz hp
      obtain ⟨g0, g1, g2, g3, g4, g5, g6, g7, ⟨l1, l2, l3, l4, l5⟩, g9⟩ := id h
      exact ⟨w0, o0, V131_3 g0 g1 ⟨by omega, fun _ => ⟨rfl, rfl, rfl, rfl⟩, fun q => by omega⟩, hz, h, by rw [show u - f = n by omega] at hp; exact hp⟩
    | succ m ih =>
      intro u w0 o0 hu h0 h hz hp
      obtain ⟨g0, g1, g2, g3, g4, g5, g6, g7, ⟨l1, l2, l3, l4, l5⟩, g9⟩ := id h
      have h2 : sC (w0.set (q + 73) (za (zsi o0 u v))) q x (zsi o0 u v) sz rm am cn de := ⟨zw_o (by omega) g0, zw_s g1, zw_o (by omega) g2, zw_o (by omega) g3, zw_o (by omega) g4, zw_o (by omega) g5, zw_o (by omega) g6, g7, ⟨by rw [zsi_len]; exact l1, l2, l3, l4, l5⟩, g9⟩
      obtain ⟨w', ow', z1, z2⟩ := ih (u + 1) _ _ (by omega) (by omega) h2 (zFm_st hz (by omega) (by omega)) ⟨by rw [zsi_len]; exact hp.1, fun t ht => by
        rw [zgi_set (by omega) (by omega) ht]
        have := hp.2 t ht
        by_cases e : t = u
        · rw [if_pos e, if_pos (by omega)]
        · rw [if_neg e, this]
          by_cases e2 : f ≤ t ∧ t < f + (u - f)
          · rw [if_pos e2, if_pos (by omega)]
          · rw [if_neg e2, if_neg (by omega)]⟩
      exact ⟨w', ow', V131_3 g0 g1 ⟨by omega, fun q => by omega, fun _ => ⟨by omega, z1⟩⟩, z2⟩
  obtain ⟨w', ow', z1, z2⟩ := key n.toNat f w ow (by omega) (Int.le_refl _) h (zFm_refl _ _ _) ⟨rfl, fun t ht => by rw [if_neg (by omega)]⟩
  exact ⟨w', ow', Zc_of rfl rfl (V131_0 z1), z2⟩
theorem zicp_len (l1 l2 : List Int) (a b n : Int) : (zicp l1 l2 a b n).length = l2.length := by
  unfold zicp
  cases Nat.beq n.toNat 0 with
  | true => rfl
  | false => simp
theorem zp_did (h : sC w q x ow sz rm am cn de) (hok : okB B) (hr : RO ow B) (hde : de.length ≤ 590) (hpk : 0 ≤ x.2.2.2.2.2.2.2.1 ∧ x.2.2.2.2.2.2.2.1 ≤ 1024) {a b e : Int} : ∃ w' pk' D' de', Zc sc 132 [zp q, zj a, zj b, zj e] w none w' 1 (de.length + 3) ∧ zFm w w' q 1 ∧ sC w' q (x.1, x.2.1, x.2.2.1, x.2.2.2.1, x.2.2.2.2.1, x.2.2.2.2.2.1, x.2.2.2.2.2.2.1, pk', D') ow sz rm am cn de' ∧ (0 ≤ pk' ∧ pk' ≤ 1024) ∧ de'.length = de.length + 3 := by
  obtain ⟨g0, g1, g2, g3, g4, g5, g6, g7, ⟨l1, l2, l3, l4, l5⟩, g9⟩ := id h
  have hlw : q < w.length ∧ x.2.2.2.2.2.2.2.2 < w.length ∧ q + 77 < w.length := ⟨(List.getElem?_eq_some_iff.mp g0).1, (List.getElem?_eq_some_iff.mp g6).1, (List.getElem?_eq_some_iff.mp g5).1⟩
  have hR : ((List.replicate ((de.length : Int) + 3).toNat (0 : Int)).length : Int) = de.length + 3 := by rw [List.length_replicate]; omega
  have cu : ∀ {y : Nat} {Y : zE} {W : List zE}, y ≠ w.length → W[y]? = some Y → ∀ {X : zE}, (W.set w.length X)[y]? = some Y := fun hy hW => zw_o (fun e => hy e.symm) hW
  have lift : ∀ {y : Nat} {Y : zE} {X1 X2 X3 X4 X5 : zE}, w[y]? = some Y → (((((w ++ [X1]).set w.length X2).set w.length X3).set w.length X4).set w.length X5)[y]? = some Y := fun hy => by
    have := (List.getElem?_eq_some_iff.mp hy).1
    exact cu (by omega) (cu (by omega) (cu (by omega) (cu (by omega) (zw_a hy))))
  have h3 : sC (((((w ++ [za (List.replicate (((de.length : Int) + 3) : Int).toNat (0 : Int))]).set w.length (za (zicp de (List.replicate (((de.length : Int) + 3) : Int).toNat (0 : Int)) 0 0 (de.length : Int)))).set w.length (za (zsi (zicp de (List.replicate (((de.length : Int) + 3) : Int).toNat (0 : Int)) 0 0 (de.length : Int)) (de.length : Int) a))).set w.length (za (zsi (zsi (zicp de (List.replicate (((de.length : Int) + 3) : Int).toNat (0 : Int)) 0 0 (de.length : Int)) (de.length : Int) a) ((de.length : Int) + 1) b))).set w.length (za (zsi (zsi (zsi (zicp de (List.replicate (((de.length : Int) + 3) : Int).toNat (0 : Int)) 0 0 (de.length : Int)) (de.length : Int) a) ((de.length : Int) + 1) b) ((de.length : Int) + 2) e))) q x ow sz rm am cn de :=
    ⟨lift g0, lift g1, lift g2, lift g3, lift g4, lift g5, lift g6, g7, ⟨l1, l2, l3, l4, l5⟩, g9⟩
  have h4 : sC ((((((w ++ [za (List.replicate (((de.length : Int) + 3) : Int).toNat (0 : Int))]).set w.length (za (zicp de (List.replicate (((de.length : Int) + 3) : Int).toNat (0 : Int)) 0 0 (de.length : Int)))).set w.length (za (zsi (zicp de (List.replicate (((de.length : Int) + 3) : Int).toNat (0 : Int)) 0 0 (de.length : Int)) (de.length : Int) a))).set w.length (za (zsi (zsi (zicp de (List.replicate (((de.length : Int) + 3) : Int).toNat (0 : Int)) 0 0 (de.length : Int)) (de.length : Int) a) ((de.length : Int) + 1) b))).set w.length (za (zsi (zsi (zsi (zicp de (List.replicate (((de.length : Int) + 3) : Int).toNat (0 : Int)) 0 0 (de.length : Int)) (de.length : Int) a) ((de.length : Int) + 1) b) ((de.length : Int) + 2) e))).set q (pobj q (x.1, x.2.1, x.2.2.1, x.2.2.2.1, x.2.2.2.2.1, x.2.2.2.2.2.1, x.2.2.2.2.2.2.1, x.2.2.2.2.2.2.2.1, w.length))) q (x.1, x.2.1, x.2.2.1, x.2.2.2.1, x.2.2.2.2.1, x.2.2.2.2.2.1, x.2.2.2.2.2.2.1, x.2.2.2.2.2.2.2.1, w.length) ow sz rm am cn (zsi (zsi (zsi (zicp de (List.replicate (((de.length : Int) + 3) : Int).toNat (0 : Int)) 0 0 (de.length : Int)) (de.length : Int) a) ((de.length : Int) + 1) b) ((de.length : Int) + 2) e) :=
    ⟨zw_s (lift g0), zw_o (by omega) (lift g1), zw_o (by omega) (lift g2), zw_o (by omega) (lift g3), zw_o (by omega) (lift g4), zw_o (by omega) (lift g5), zw_o (by show q ≠ w.length; omega) (zw_s (zw_s (zw_s (zw_s (zw_n rfl))))), by show q + 78 ≤ w.length; omega, ⟨l1, l2, l3, l4, l5⟩, by rw [zsi_len, zsi_len, zsi_len, zicp_len, List.length_replicate]; omega⟩
  obtain ⟨r, z1, z2, z3⟩ := zp_used (sc := sc) h4 hok hr
  refine ⟨_, max (x.2.2.2.2.2.2.2.1) r, w.length, zsi (zsi (zsi (zicp de (List.replicate (((de.length : Int) + 3) : Int).toNat (0 : Int)) 0 0 (de.length : Int)) (de.length : Int) a) ((de.length : Int) + 1) b) ((de.length : Int) + 2) e, Zc_of rfl rfl (V132_0 g0 g6 ⟨by omega, w.length, rfl, 0, 0, ⟨rfl, by omega⟩, by omega, by omega, by omega, by rw [zicp_len]; omega, by rw [zsi_len, zicp_len]; omega, by rw [zsi_len, zsi_len, zicp_len]; omega, r, z1, by omega, rfl, rfl, rfl, rfl⟩), ?_, ?_, by omega, by rw [zsi_len, zsi_len, zsi_len, zicp_len, List.length_replicate]; omega⟩
  · have f0 : zFm w (((((w ++ [za (List.replicate (((de.length : Int) + 3) : Int).toNat (0 : Int))]).set w.length (za (zicp de (List.replicate (((de.length : Int) + 3) : Int).toNat (0 : Int)) 0 0 (de.length : Int)))).set w.length (za (zsi (zicp de (List.replicate (((de.length : Int) + 3) : Int).toNat (0 : Int)) 0 0 (de.length : Int)) (de.length : Int) a))).set w.length (za (zsi (zsi (zicp de (List.replicate (((de.length : Int) + 3) : Int).toNat (0 : Int)) 0 0 (de.length : Int)) (de.length : Int) a) ((de.length : Int) + 1) b))).set w.length (za (zsi (zsi (zsi (zicp de (List.replicate (((de.length : Int) + 3) : Int).toNat (0 : Int)) 0 0 (de.length : Int)) (de.length : Int) a) ((de.length : Int) + 1) b) ((de.length : Int) + 2) e))) q 1 := zFm_new zFm_app (zFm_st (zFm_st (zFm_st (zFm_set (a := w.length) (n := 1) (by omega) (by omega)) (by omega) (by omega)) (by omega) (by omega)) (by omega) (by omega)) (Nat.le_refl _)
    exact zFm_st (zFm_st f0 (by omega) (by omega)) (by omega) (by omega)
  · obtain ⟨k0, k1, k2, k3, k4, k5, k6, k7, k8, k9⟩ := h4
    exact ⟨zw_s k0, zw_o (by omega) k1, zw_o (by omega) k2, zw_o (by omega) k3, zw_o (by omega) k4, zw_o (by omega) k5, zw_o (by show q ≠ w.length; omega) k6, k7, k8, k9⟩
theorem zp_roomOf (h : sC w q x ow sz rm am cn de) {wy : Nat} (hwy : x.2.1 = wy) (hw6 : wy < 6) (hs : x.2.2.1 = 1 ∨ x.2.2.1 = 2 ∨ x.2.2.1 = 4 ∨ x.2.2.1 = 8) (hh : 0 ≤ x.2.2.2.1 ∧ x.2.2.2.1 ≤ 8) {z : Int} (hz : 1 ≤ z ∧ z ≤ 300) : Zc sc 123 [zp q, zj z] w (some (zj (roomF (clsL wy) (x.2.2.1) (x.2.2.2.1) z))) w 0 0 := by
  obtain ⟨g0, g1, g2, g3, g4, g5, g6, g7, ⟨l1, l2, l3, l4, l5⟩, g9⟩ := id h
  have dbl : ∀ (r v : Int), 4 ≤ x.2.1 → (x.2.1 = 4 ∨ z + x.2.2.2.1 ≤ 128) → 0 < v → v ≤ 600 → (v < z + x.2.2.2.1 → Zr sc 123 46 [zp q, zj z, zj (z + x.2.2.2.1), zj (v + v)] [] w (some (zj r)) w 0 0) → (z + x.2.2.2.1 ≤ v → r = v) → Zr sc 123 46 [zp q, zj z, zj (z + x.2.2.2.1), zj v] [] w (some (zj r)) w 0 0 := fun r v h4 hc v0 v1 k1 k2 => by
    by_cases c : z + x.2.2.2.1 ≤ v
    · exact V123_46 g0 ⟨by omega, fun _ => ⟨zj_e (k2 c), rfl, rfl, rfl⟩, fun q => absurd c q⟩
    · by_cases c4 : x.2.1 = 4
      · exact V123_46 g0 ⟨by omega, fun q => absurd q c, fun _ => ⟨by omega, fun _ => ⟨by omega, fun _ => k1 (by omega), fun q => absurd c4 q⟩, fun q => by omega⟩⟩
      · exact V123_46 g0 ⟨by omega, fun q => absurd q c, fun _ => ⟨by omega, fun _ => ⟨by omega, fun q => absurd q c4, fun _ => ⟨by omega, fun q => by omega, fun _ => k1 (by omega)⟩⟩, fun q => by omega⟩⟩
  have pw : 4 ≤ x.2.1 → (x.2.1 = 4 ∨ z + x.2.2.2.1 ≤ 128) → Zr sc 123 46 [zp q, zj z, zj (z + x.2.2.2.1), zj 8] [] w (some (zj (pw2 (z + x.2.2.2.1)))) w 0 0 := fun h4 hc => by
    unfold pw2
    refine dbl _ 8 h4 hc (by omega) (by omega) (fun k1 => ?_) (fun g => by rw [if_pos g])
    rw [if_neg (by omega)]
    refine dbl _ 16 h4 hc (by omega) (by omega) (fun k1 => ?_) (fun g => by rw [if_pos g])
    rw [if_neg (by omega)]
    refine dbl _ 32 h4 hc (by omega) (by omega) (fun k1 => ?_) (fun g => by rw [if_pos g])
    rw [if_neg (by omega)]
    refine dbl _ 64 h4 hc (by omega) (by omega) (fun k1 => ?_) (fun g => by rw [if_pos g])
    rw [if_neg (by omega)]
    refine dbl _ 128 h4 hc (by omega) (by omega) (fun k1 => ?_) (fun g => by rw [if_pos g])
    rw [if_neg (by omega)]
    refine dbl _ 256 h4 hc (by omega) (by omega) (fun k1 => ?_) (fun g => by rw [if_pos g])
    rw [if_neg (by omega)]
    exact V123_46 g0 ⟨by omega, fun _ => ⟨zj_e (by rw [if_pos (by omega)]; rfl), rfl, rfl, rfl⟩, fun q => absurd (show z + x.2.2.2.1 ≤ 256 + 256 by omega) q⟩
  by_cases c4 : x.2.1 = 4
  · have e : roomF (clsL wy) (x.2.2.1) (x.2.2.2.1) z = pw2 (z + x.2.2.2.1) := by
      obtain rfl : wy = 4 := by omega
      rfl
    rw [e]
    exact Zc_of rfl rfl (V123_0 g0 ⟨by omega, fun _ => ⟨by omega, fun _ => pw (by omega) (Or.inl c4), fun q => absurd c4 q⟩, fun q => by omega⟩)
  by_cases c5 : x.2.1 = 5
  · have e : roomF (clsL wy) (x.2.2.1) (x.2.2.2.1) z = if z + x.2.2.2.1 ≤ 128 then pw2 (z + x.2.2.2.1) else upF (z + x.2.2.2.1) 128 := by
      obtain rfl : wy = 5 := by omega
      rfl
    rw [e]
    by_cases c6 : z + x.2.2.2.1 ≤ 128
    · rw [if_pos c6]
      exact Zc_of rfl rfl (V123_0 g0 ⟨by omega, fun _ => ⟨by omega, fun q => absurd q c4, fun _ => ⟨by omega, fun q => by omega, fun _ => pw (by omega) (Or.inr c6)⟩⟩, fun q => by omega⟩)
    · rw [if_neg c6]
      have up : ∀ (n : Nat) (v : Int), 0 < v → v ≤ 600 → v % 128 = 0 → v - 128 < z + x.2.2.2.1 → z + x.2.2.2.1 ≤ v + 128 * n → Zr sc 123 46 [zp q, zj z, zj (z + x.2.2.2.1), zj v] [] w (some (zj (upF (z + x.2.2.2.1) 128))) w 0 0 := by
        intro n
        induction n with
        | zero => intro v v0 v1 v2 v3 v4; exact V123_46 g0 ⟨by omega, fun _ => ⟨zj_e (by unfold upF; omega), rfl, rfl, rfl⟩, fun q => by omega⟩
        | succ n ih =>
          intro v v0 v1 v2 v3 v4
          by_cases c : z + x.2.2.2.1 ≤ v
          · exact V123_46 g0 ⟨by omega, fun _ => ⟨zj_e (by unfold upF; omega), rfl, rfl, rfl⟩, fun q => absurd c q⟩
          · exact V123_46 g0 ⟨by omega, fun q => absurd q c, fun _ => ⟨by omega, fun _ => ⟨by omega, fun q => absurd q c4, fun _ => ⟨by omega, fun _ => ih (v + 128) (by omega) (by omega) (by omega) (by omega) (by omega), fun q => by omega⟩⟩, fun q => by omega⟩⟩
      exact Zc_of rfl rfl (V123_0 g0 ⟨by omega, fun _ => ⟨by omega, fun q => absurd q c4, fun _ => ⟨by omega, fun _ => up 3 128 (by omega) (by omega) (by omega) (by omega) (by omega), fun q => by omega⟩⟩, fun q => by omega⟩)
  · have e : roomF (clsL wy) (x.2.2.1) (x.2.2.2.1) z = upF (z + x.2.2.2.1) (x.2.2.1) := by
      have : wy = 0 ∨ wy = 1 ∨ wy = 2 ∨ wy = 3 := by omega
      rcases this with rfl | rfl | rfl | rfl <;> rfl
    rw [e]
    have up : ∀ (n : Nat) (v : Int), 0 < v → v ≤ 600 → (∃ j : Int, v = j * x.2.2.1) → v - x.2.2.1 < z + x.2.2.2.1 → z + x.2.2.2.1 ≤ v + n → Zr sc 123 46 [zp q, zj z, zj (z + x.2.2.2.1), zj v] [] w (some (zj (upF (z + x.2.2.2.1) (x.2.2.1)))) w 0 0 := by
      have fin : ∀ v : Int, (∃ j : Int, v = j * x.2.2.1) → v - x.2.2.1 < z + x.2.2.2.1 → z + x.2.2.2.1 ≤ v → v = upF (z + x.2.2.2.1) (x.2.2.1) := fun v hv h1 h2 => by
        obtain ⟨j, hj⟩ := hv
        unfold upF
        rcases hs with e | e | e | e <;> rw [e] at hj h1 ⊢ <;> omega
      intro n
      induction n with
      | zero => intro v v0 v1 v2 v3 v4; exact V123_46 g0 ⟨by omega, fun _ => ⟨zj_e (fin v v2 v3 (by omega)).symm, rfl, rfl, rfl⟩, fun q => by omega⟩
      | succ n ih =>
        intro v v0 v1 v2 v3 v4
        by_cases c : z + x.2.2.2.1 ≤ v
        · exact V123_46 g0 ⟨by omega, fun _ => ⟨zj_e (fin v v2 v3 c).symm, rfl, rfl, rfl⟩, fun q => absurd c q⟩
        · obtain ⟨j, hj⟩ := v2
          exact V123_46 g0 ⟨by omega, fun q => absurd q c, fun _ => ⟨by omega, fun q => by omega, fun _ => ih (v + x.2.2.1) (by omega) (by omega) ⟨j + 1, by rw [Int.add_mul, Int.one_mul, hj]⟩ (by omega) (by omega)⟩⟩
    exact Zc_of rfl rfl (V123_0 g0 ⟨by omega, fun q => by omega, fun _ => up 400 (x.2.2.1) (by omega) (by omega) ⟨1, by omega⟩ (by omega) (by omega)⟩)
end POL
