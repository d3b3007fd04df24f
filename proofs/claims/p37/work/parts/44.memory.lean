/-! ===== a memory's cells; what only reads them ===== -/
abbrev mk_T : Type := Int × Int × Int × Int × Int × Int × Int × List Int
def mex (c m : Nat) : List Value := match c with
  | 4 => [zp (m + 11)]
  | _ => []
def msz (c : Nat) : Nat := match c with
  | 4 => 12
  | _ => 11
def mobj (c m : Nat) (k : mk_T) (hn sn : Int) : zE := zob c ([zp (m + 1), zp (m + 6), zj k.1, zj k.2.1, zj k.2.2.1, zj hn, zj sn, zp (m + 9), zp (m + 10), zj k.2.2.2.1, zj k.2.2.2.2.1, zj k.2.2.2.2.2.1, zj k.2.2.2.2.2.2.1] ++ mex c m)
def okK (k : mk_T) : Prop := (0 ≤ k.1 ∧ k.1 ≤ 5) ∧ (k.2.1 = 1 ∨ k.2.1 = 2 ∨ k.2.1 = 4 ∨ k.2.1 = 8) ∧ (0 ≤ k.2.2.1 ∧ k.2.2.1 ≤ 8) ∧ (0 ≤ k.2.2.2.1 ∧ k.2.2.2.1 ≤ 80) ∧ (0 ≤ k.2.2.2.2.1 + 200 ∧ k.2.2.2.2.1 ≤ 200) ∧ (0 ≤ k.2.2.2.2.2.1 ∧ k.2.2.2.2.2.1 ≤ 1024) ∧ (0 ≤ k.2.2.2.2.2.2.1 ∧ k.2.2.2.2.2.2.1 ≤ 150) ∧ k.2.2.2.2.2.2.2.length = 80 ∧ ∀ i, 0 ≤ zgi (k.2.2.2.2.2.2.2) i + 200 ∧ zgi (k.2.2.2.2.2.2.2) i ≤ 200
def sR (w : List zE) (c m : Nat) (k : mk_T) (hn sn : Int) (cn : List Int) (B : List bk_T) (H : List hl_T) (pg : List Int) : Prop :=
  w[m]? = some (mobj c m k hn sn) ∧ sB w (m + 1) B ∧ sH w (m + 6) H ∧ w[m + 9]? = some (za cn) ∧ w[m + 10]? = some (za (k.2.2.2.2.2.2.2)) ∧ (c = 4 → w[m + 11]? = some (za pg))
theorem sR_fm {w w' : List zE} {a n c m : Nat} {k : mk_T} {hn sn : Int} {cn : List Int} {B : List bk_T} {H : List hl_T} {pg : List Int} (hf : zFm w w' a n) (ho : m + msz c ≤ a ∨ a + n ≤ m) (h : sR w c m k hn sn cn B H pg) : sR w' c m k hn sn cn B H pg := by
  have hz : 11 ≤ msz c := by unfold msz; split <;> omega
  have hz4 : c = 4 → msz c = 12 := fun e => by subst e; rfl
  obtain ⟨h0, h1, h2, h3, h4, h5⟩ := h
  exact ⟨zFm_get hf h0 (by omega), sB_fm hf (by omega) h1, sH_fm hf (by omega) h2, zFm_get hf h3 (by omega), zFm_get hf h4 (by omega), fun e => zFm_get hf (h5 e) (by have := hz4 e; omega)⟩
def cLe (cn cn' : List Int) (n : Int) : Prop := cn'.length = 5 ∧ ∀ i : Int, 0 ≤ i → i ≤ 4 → zgi cn i ≤ zgi cn' i ∧ zgi cn' i ≤ zgi cn i + n
theorem cLe_refl {cn : List Int} (h : cn.length = 5) {n : Int} (hn : 0 ≤ n) : cLe cn cn n := ⟨h, fun i _ _ => ⟨Int.le_refl _, by omega⟩⟩
theorem cLe_trans {c0 c1 c2 : List Int} {n1 n2 n : Int} (h : cLe c0 c1 n1) (k : cLe c1 c2 n2) (hn : n1 + n2 ≤ n) : cLe c0 c2 n :=
  ⟨k.1, fun i h0 h4 => by have := h.2 i h0 h4; have := k.2 i h0 h4; omega⟩
theorem cLe_set {cn : List Int} {x v n : Int} (h : cn.length = 5) (hx : 0 ≤ x ∧ x ≤ 4) (hv : 0 ≤ v ∧ v ≤ n) : cLe cn (zsi cn x (zgi cn x + v)) n :=
  ⟨by rw [zsi_len]; exact h, fun i h0 h4 => by
    rw [zgi_set (by omega) (by omega) h0]
    by_cases e : i = x
    · subst e; rw [if_pos rfl]; omega
    · rw [if_neg e]; omega⟩
theorem cLe_mono {c0 c1 : List Int} {n1 n : Int} (h : cLe c0 c1 n1) (hn : n1 ≤ n) : cLe c0 c1 n := ⟨h.1, fun i h0 h4 => by have := h.2 i h0 h4; omega⟩
-- rooms
def pw2 (n : Int) : Int := if n ≤ 8 then 8 else if n ≤ 16 then 16 else if n ≤ 32 then 32 else if n ≤ 64 then 64 else if n ≤ 128 then 128 else if n ≤ 256 then 256 else if n ≤ 512 then 512 else 1024
def upF (n s : Int) : Int := (n + s - 1) / s * s
def roomF (c : Nat) (st hd size : Int) : Int := match c with
  | 2 => upF (size + hd) st
  | 1 => pw2 (size + hd)
  | _ => if size + hd ≤ 128 then pw2 (size + hd) else upF (size + hd) 128
theorem zjop_up_chk : (List.range 450).all (fun n => [1, 2, 4, 8, 128].all fun s => decide (zjop 7 ((n : Nat) : Int) (-s) = ((n : Nat) : Int) / s * s)) = true := by decide +kernel
theorem zjop_up {n s : Int} (h0 : 0 ≤ n) (h1 : n < 450) (hs : s = 1 ∨ s = 2 ∨ s = 4 ∨ s = 8 ∨ s = 128) : zjop 7 n (-s) = n / s * s := by
  have h := List.all_eq_true.mp zjop_up_chk n.toNat (List.mem_range.mpr (by omega))
  have h2 := List.all_eq_true.mp h s (by rcases hs with rfl | rfl | rfl | rfl | rfl <;> simp)
  have h3 := of_decide_eq_true h2
  rwa [Int.toNat_of_nonneg h0] at h3
section MEM
variable {sc : List Value} {w : List zE} {m : Nat} {k : mk_T} {hn sn : Int} {cn : List Int} {B : List bk_T} {H : List hl_T} {pg : List Int}
theorem zc_madeUp {n s : Int} (h0 : 1 ≤ n) (h1 : n < 320) (hs : s = 1 ∨ s = 2 ∨ s = 4 ∨ s = 8 ∨ s = 128) : Zc sc 41 [zj n, zj s] w (some (zj (upF n s))) w 0 0 :=
  Zc_of rfl rfl (V41_0 ⟨by rw [zjop_up (by omega) (by omega) hs]; rfl, rfl, rfl, rfl⟩)
theorem zc_room_2 (h : sR w 2 m k hn sn cn B H pg) (hk : okK k) {z : Int} (hz : 1 ≤ z ∧ z ≤ 300) : Zc sc 40 [zp m, zj z] w (some (zj (roomF 2 (k.2.1) (k.2.2.1) z))) w 0 0 := by
  obtain ⟨-, k1, k2, -⟩ := hk
  exact Zc_of rfl rfl (V40_0 h.1 ⟨_, zc_madeUp (by omega) (by omega) (by omega), rfl, rfl, rfl, rfl⟩)
theorem zc_room_1 (h : sR w 1 m k hn sn cn B H pg) (hk : okK k) {z : Int} (hz : 1 ≤ z ∧ z ≤ 300) : Zc sc 39 [zp m, zj z] w (some (zj (roomF 1 (k.2.1) (k.2.2.1) z))) w 0 0 := by
  obtain ⟨-, k1, k2, -⟩ := hk
  have q10 : Zr sc 39 3 [zp m, zj z, zj 1024] [] w (some (zj 1024)) w 0 0 := V39_3 h.1 ⟨by omega, fun _ => ⟨rfl, rfl, rfl, rfl⟩, fun _ => by omega⟩
  have stp : ∀ x r : Int, 0 ≤ x → x < 1024 → (x < z + k.2.2.1 → Zr sc 39 3 [zp m, zj z, zj (x * 2)] [] w (some (zj r)) w 0 0) → (z + k.2.2.1 ≤ x → r = x) → Zr sc 39 3 [zp m, zj z, zj x] [] w (some (zj r)) w 0 0 := fun x r h0 h1 h2 h3 =>
    V39_3 h.1 ⟨by omega, fun _ => by omega, fun _ => ⟨by omega, fun g => h2 g, fun g => ⟨zj_e (h3 (by omega)), rfl, rfl, rfl⟩⟩⟩
  refine Zc_of rfl rfl (V39_0 ?_)
  show Zr sc 39 3 _ _ _ (some (zj (pw2 (z + k.2.2.1)))) _ _ _
  unfold pw2
  refine stp 8 _ (by omega) (by omega) (fun g1 => ?_) (fun g => by rw [if_pos g])
  rw [if_neg (by omega)]
  refine stp 16 _ (by omega) (by omega) (fun g2 => ?_) (fun g => by rw [if_pos g])
  rw [if_neg (by omega)]
  refine stp 32 _ (by omega) (by omega) (fun g3 => ?_) (fun g => by rw [if_pos g])
  rw [if_neg (by omega)]
  refine stp 64 _ (by omega) (by omega) (fun g4 => ?_) (fun g => by rw [if_pos g])
  rw [if_neg (by omega)]
  refine stp 128 _ (by omega) (by omega) (fun g5 => ?_) (fun g => by rw [if_pos g])
  rw [if_neg (by omega)]
  refine stp 256 _ (by omega) (by omega) (fun g6 => ?_) (fun g => by rw [if_pos g])
  rw [if_neg (by omega)]
  refine stp 512 _ (by omega) (by omega) (fun g7 => ?_) (fun g => by rw [if_pos g])
  rw [if_neg (by omega)]
  exact q10
theorem zc_room_4 (h : sR w 4 m k hn sn cn B H pg) (hk : okK k) {z : Int} (hz : 1 ≤ z ∧ z ≤ 300) : Zc sc 42 [zp m, zj z] w (some (zj (roomF 4 (k.2.1) (k.2.2.1) z))) w 0 0 := by
  obtain ⟨-, k1, k2, -⟩ := hk
  have q9 : ∀ r, r = upF (z + k.2.2.1) 128 → Zr sc 42 3 [zp m, zj z, zj 256] [] w (some (zj r)) w 0 0 := fun r hr => V42_3 h.1 ⟨by omega, fun _ => ⟨_, zc_madeUp (by omega) (by omega) (by omega), zj_e hr, rfl, rfl, rfl⟩, fun _ => by omega⟩
  have stp : ∀ x r : Int, 0 ≤ x → x < 129 → (x < z + k.2.2.1 → Zr sc 42 3 [zp m, zj z, zj (x * 2)] [] w (some (zj r)) w 0 0) → (z + k.2.2.1 ≤ x → r = x) → Zr sc 42 3 [zp m, zj z, zj x] [] w (some (zj r)) w 0 0 := fun x r h0 h1 h2 h3 =>
    V42_3 h.1 ⟨by omega, fun _ => by omega, fun _ => ⟨by omega, fun g => h2 g, fun g => ⟨zj_e (h3 (by omega)), rfl, rfl, rfl⟩⟩⟩
  refine Zc_of rfl rfl (V42_0 ?_)
  show Zr sc 42 3 _ _ _ (some (zj (if z + k.2.2.1 ≤ 128 then pw2 (z + k.2.2.1) else upF (z + k.2.2.1) 128))) _ _ _
  unfold pw2
  refine stp 8 _ (by omega) (by omega) (fun g1 => ?_) (fun g => by rw [if_pos (show z + k.2.2.1 ≤ 128 by omega), if_pos g])
  rw [if_neg (show ¬ z + k.2.2.1 ≤ 8 by omega)]
  refine stp 16 _ (by omega) (by omega) (fun g2 => ?_) (fun g => by rw [if_pos (show z + k.2.2.1 ≤ 128 by omega), if_pos g])
  rw [if_neg (show ¬ z + k.2.2.1 ≤ 16 by omega)]
  refine stp 32 _ (by omega) (by omega) (fun g3 => ?_) (fun g => by rw [if_pos (show z + k.2.2.1 ≤ 128 by omega), if_pos g])
  rw [if_neg (show ¬ z + k.2.2.1 ≤ 32 by omega)]
  refine stp 64 _ (by omega) (by omega) (fun g4 => ?_) (fun g => by rw [if_pos (show z + k.2.2.1 ≤ 128 by omega), if_pos g])
  rw [if_neg (show ¬ z + k.2.2.1 ≤ 64 by omega)]
  refine stp 128 _ (by omega) (by omega) (fun g5 => ?_) (fun g => by rw [if_pos (show z + k.2.2.1 ≤ 128 by omega), if_pos g])
  exact q9 _ (by rw [if_neg (by omega)])
-- splits
theorem zc_splits_1 {x y : Int} (hx : 0 ≤ x ∧ x ≤ 1024) (hy : zrg y) : ∃ r, Zc sc 65 [zp m, zj x, zj y] w (some (zj r)) w 0 0 ∧ 0 ≤ r ∧ r ≤ 10 := by
  have key : ∀ (n : Nat) (i v : Int), 0 ≤ v → v ≤ 1024 → v < 2 ^ n → ∃ r, Zr sc 65 7 [zp m, zj x, zj y, zj i, zj v] [] w (some (zj r)) w 0 0 ∧ i ≤ r ∧ r ≤ i + n := by
    intro n
    induction n with
    | zero =>
      intro i v h0 hq h1
      rw [Int.pow_zero] at h1
      exact ⟨i, V65_7 ⟨by omega, fun _ => ⟨rfl, rfl, rfl, rfl⟩, fun _ => by omega⟩, by omega, by omega⟩
    | succ n ih =>
      intro i v h0 hq h1
      by_cases hv : v ≤ 0
      · exact ⟨i, V65_7 ⟨by omega, fun _ => ⟨rfl, rfl, rfl, rfl⟩, fun _ => by omega⟩, by omega, by omega⟩
      · rw [Int.pow_succ] at h1
        by_cases hy2 : v < y
        · exact ⟨i, V65_7 ⟨⟨by omega, by omega⟩, fun _ => by omega, fun _ => ⟨⟨⟨by omega, by omega⟩, hy⟩, fun _ => ⟨rfl, rfl, rfl, rfl⟩, fun _ => by omega⟩⟩, by omega, by omega⟩
        · obtain ⟨r, z1, z2, z3⟩ := ih (i + 1) (v / 2) (by omega) (by omega) (by omega)
          exact ⟨r, V65_7 ⟨⟨by omega, by omega⟩, fun _ => by omega, fun _ => ⟨⟨⟨by omega, by omega⟩, hy⟩, fun _ => by omega, fun _ => ⟨by omega, z1⟩⟩⟩, by omega, by omega⟩
  have e10 : (2 : Int) ^ 10 = 1024 := by decide
  obtain ⟨r, z1, z2, z3⟩ := key 10 0 (x / 2) (by omega) (by omega) (by omega)
  exact ⟨r, Zc_of rfl rfl (V65_0 ⟨by omega, z1⟩), by omega, by omega⟩
theorem zc_splits_2 {x y : Int} (hx : zrg x) (hy : zrg y) : ∃ r, Zc sc 66 [zp m, zj x, zj y] w (some (zj r)) w 0 0 ∧ 0 ≤ r ∧ r ≤ 10 := by
  by_cases h : x ≤ y
  · exact ⟨0, Zc_of rfl rfl (V66_0 ⟨by omega, fun _ => ⟨rfl, rfl, rfl, rfl⟩, fun _ => by omega⟩), by omega, by omega⟩
  · exact ⟨1, Zc_of rfl rfl (V66_0 ⟨by omega, fun _ => by omega, fun _ => ⟨rfl, rfl, rfl, rfl⟩⟩), by omega, by omega⟩
theorem zc_splits_4 {x y : Int} (hx : zrg x) (hy : zrg y) : ∃ r, Zc sc 67 [zp m, zj x, zj y] w (some (zj r)) w 0 0 ∧ 0 ≤ r ∧ r ≤ 10 := by
  by_cases h : 128 ≤ y
  · exact ⟨0, Zc_of rfl rfl (V67_0 ⟨by omega, fun _ => ⟨rfl, rfl, rfl, rfl⟩, fun _ => by omega⟩), by omega, by omega⟩
  · by_cases h2 : x < 128
    · exact ⟨0, Zc_of rfl rfl (V67_0 ⟨by omega, fun _ => by omega, fun _ => ⟨by omega, fun _ => ⟨rfl, rfl, rfl, rfl⟩, fun _ => by omega⟩⟩), by omega, by omega⟩
    · exact ⟨1, Zc_of rfl rfl (V67_0 ⟨by omega, fun _ => by omega, fun _ => ⟨by omega, fun _ => by omega, fun _ => ⟨rfl, rfl, rfl, rfl⟩⟩⟩), by omega, by omega⟩
-- what reads a field; a count; the hand
theorem zc_names_1 (h : sR w 1 m k hn sn cn B H pg) : Zc sc 3 [zp m] w (some (zj (k.2.2.2.1))) w 0 0 := Zc_of rfl rfl (V3_0_1 h.1 ⟨rfl, rfl, rfl, rfl⟩)
theorem zc_standing_1 (h : sR w 1 m k hn sn cn B H pg) : Zc sc 6 [zp m] w (some (zp (m + 1))) w 0 0 := Zc_of rfl rfl (V6_0_1 h.1 ⟨rfl, rfl, rfl, rfl⟩)
theorem zc_gaps_1 (h : sR w 1 m k hn sn cn B H pg) : Zc sc 20 [zp m] w (some (zp (m + 6))) w 0 0 := Zc_of rfl rfl (V20_0_1 h.1 ⟨rfl, rfl, rfl, rfl⟩)
theorem zc_arenas_1 (h : sR w 1 m k hn sn cn B H pg) : Zc sc 101 [zp m] w (some (zj (k.2.2.2.2.1))) w 0 0 := Zc_of rfl rfl (V101_0_1 h.1 ⟨rfl, rfl, rfl, rfl⟩)
theorem zc_hand_1 (h : sR w 1 m k hn sn cn B H pg) : Zc sc 102 [zp m] w (some (zj hn)) w 0 0 := Zc_of rfl rfl (V102_0_1 h.1 ⟨rfl, rfl, rfl, rfl⟩)
theorem zc_countOf_1 (h : sR w 1 m k hn sn cn B H pg) (hc : cn.length = 5) {x : Int} (hx : 0 ≤ x ∧ x ≤ 7) : Zc sc 34 [zp m, zj x] w (some (zj (if x ≤ 4 then zgi cn x else if x = 5 then k.2.2.2.2.2.1 else if x = 6 then H.length else maxH H))) w 0 0 := by
  refine Zc_of rfl rfl (V34_0_1 h.1 h.2.2.2.1 ⟨by omega, fun g => ⟨by omega, fun _ => by omega, fun _ => ⟨by omega, fun _ => by omega, fun _ => ⟨by omega, ?_, rfl, rfl, rfl⟩⟩⟩, fun g => ⟨?_, rfl, rfl, rfl⟩, fun g => ⟨_, h.2.2.1.ob, _, zc_hHow h.2.2.1, ?_, rfl, rfl, rfl⟩, fun g => ⟨_, h.2.2.1.ob, _, zc_hLargest h.2.2.1, ?_, rfl, rfl, rfl⟩⟩)
  · rw [if_pos (by omega)]
  · rw [if_neg (by omega), if_pos g]
  · rw [if_neg (by omega), if_neg (by omega), if_pos g]
  · rw [if_neg (by omega), if_neg (by omega), if_neg (by omega)]
theorem zc_count_1 (h : sR w 1 m k hn sn cn B H pg) (hc : cn.length = 5) {x v : Int} (hx : 0 ≤ x ∧ x ≤ 4) : ∃ w', Zc sc 64 [zp m, zj x, zj v] w none w' 0 0 ∧ zFm w w' m (msz 1) ∧ sR w' 1 m k hn sn (zsi cn x (zgi cn x + v)) B H pg := by
  have hf : zFm w (w.set (m + 9) (za (zsi cn x (zgi cn x + v)))) (m + 9) 1 := zFm_set (by omega) (by omega)
  exact ⟨_, Zc_of rfl rfl (V64_0_1 h.1 h.2.2.2.1 ⟨by omega, fun _ => by omega, fun _ => ⟨by omega, fun _ => by omega, fun _ => ⟨by omega, by omega, rfl, rfl, rfl, rfl⟩⟩⟩), zFm_mono hf (by omega) (show _ ≤ m + 11 by omega), zFm_get hf h.1 (by omega), sB_fm hf (by omega) h.2.1, sH_fm hf (by omega) h.2.2.1, zw_s h.2.2.2.1, zFm_get hf h.2.2.2.2.1 (by omega), fun e => zFm_get hf (h.2.2.2.2.2 e) (by omega)⟩
theorem zc_handBehind_1 (h : sR w 1 m k hn sn cn B H pg) {e : Int} (he : zrg e) : ∃ w', Zc sc 81 [zp m, zj e] w none w' 0 0 ∧ zFm w w' m (msz 1) ∧ sR w' 1 m k (if 1024 ≤ e then 0 else e) sn cn B H pg := by
  have hf : zFm w (w.set m (mobj 1 m k (if 1024 ≤ e then 0 else e) sn)) m 1 := zFm_set (by omega) (by omega)
  refine ⟨_, Zc_of rfl rfl (V81_0_1 h.1 ⟨by omega, fun g => ⟨rfl, ?_, rfl, rfl⟩, fun g => ⟨rfl, ?_, rfl, rfl⟩⟩), zFm_mono hf (by omega) (show _ ≤ m + 11 by omega), zw_s h.1, sB_fm hf (by omega) h.2.1, sH_fm hf (by omega) h.2.2.1, zFm_get hf h.2.2.2.1 (by omega), zFm_get hf h.2.2.2.2.1 (by omega), fun e => zFm_get hf (h.2.2.2.2.2 e) (by omega)⟩
  · rw [if_pos g]; rfl
  · rw [if_neg g]; rfl
theorem zc_names_2 (h : sR w 2 m k hn sn cn B H pg) : Zc sc 3 [zp m] w (some (zj (k.2.2.2.1))) w 0 0 := Zc_of rfl rfl (V3_0_2 h.1 ⟨rfl, rfl, rfl, rfl⟩)
theorem zc_standing_2 (h : sR w 2 m k hn sn cn B H pg) : Zc sc 6 [zp m] w (some (zp (m + 1))) w 0 0 := Zc_of rfl rfl (V6_0_2 h.1 ⟨rfl, rfl, rfl, rfl⟩)
theorem zc_gaps_2 (h : sR w 2 m k hn sn cn B H pg) : Zc sc 20 [zp m] w (some (zp (m + 6))) w 0 0 := Zc_of rfl rfl (V20_0_2 h.1 ⟨rfl, rfl, rfl, rfl⟩)
theorem zc_arenas_2 (h : sR w 2 m k hn sn cn B H pg) : Zc sc 101 [zp m] w (some (zj (k.2.2.2.2.1))) w 0 0 := Zc_of rfl rfl (V101_0_2 h.1 ⟨rfl, rfl, rfl, rfl⟩)
theorem zc_hand_2 (h : sR w 2 m k hn sn cn B H pg) : Zc sc 102 [zp m] w (some (zj hn)) w 0 0 := Zc_of rfl rfl (V102_0_2 h.1 ⟨rfl, rfl, rfl, rfl⟩)
theorem zc_countOf_2 (h : sR w 2 m k hn sn cn B H pg) (hc : cn.length = 5) {x : Int} (hx : 0 ≤ x ∧ x ≤ 7) : Zc sc 34 [zp m, zj x] w (some (zj (if x ≤ 4 then zgi cn x else if x = 5 then k.2.2.2.2.2.1 else if x = 6 then H.length else maxH H))) w 0 0 := by
  refine Zc_of rfl rfl (V34_0_2 h.1 h.2.2.2.1 ⟨by omega, fun g => ⟨by omega, fun _ => by omega, fun _ => ⟨by omega, fun _ => by omega, fun _ => ⟨by omega, ?_, rfl, rfl, rfl⟩⟩⟩, fun g => ⟨?_, rfl, rfl, rfl⟩, fun g => ⟨_, h.2.2.1.ob, _, zc_hHow h.2.2.1, ?_, rfl, rfl, rfl⟩, fun g => ⟨_, h.2.2.1.ob, _, zc_hLargest h.2.2.1, ?_, rfl, rfl, rfl⟩⟩)
  · rw [if_pos (by omega)]
  · rw [if_neg (by omega), if_pos g]
  · rw [if_neg (by omega), if_neg (by omega), if_pos g]
  · rw [if_neg (by omega), if_neg (by omega), if_neg (by omega)]
theorem zc_count_2 (h : sR w 2 m k hn sn cn B H pg) (hc : cn.length = 5) {x v : Int} (hx : 0 ≤ x ∧ x ≤ 4) : ∃ w', Zc sc 64 [zp m, zj x, zj v] w none w' 0 0 ∧ zFm w w' m (msz 2) ∧ sR w' 2 m k hn sn (zsi cn x (zgi cn x + v)) B H pg := by
  have hf : zFm w (w.set (m + 9) (za (zsi cn x (zgi cn x + v)))) (m + 9) 1 := zFm_set (by omega) (by omega)
  exact ⟨_, Zc_of rfl rfl (V64_0_2 h.1 h.2.2.2.1 ⟨by omega, fun _ => by omega, fun _ => ⟨by omega, fun _ => by omega, fun _ => ⟨by omega, by omega, rfl, rfl, rfl, rfl⟩⟩⟩), zFm_mono hf (by omega) (show _ ≤ m + 11 by omega), zFm_get hf h.1 (by omega), sB_fm hf (by omega) h.2.1, sH_fm hf (by omega) h.2.2.1, zw_s h.2.2.2.1, zFm_get hf h.2.2.2.2.1 (by omega), fun e => zFm_get hf (h.2.2.2.2.2 e) (by omega)⟩
theorem zc_handBehind_2 (h : sR w 2 m k hn sn cn B H pg) {e : Int} (he : zrg e) : ∃ w', Zc sc 81 [zp m, zj e] w none w' 0 0 ∧ zFm w w' m (msz 2) ∧ sR w' 2 m k (if 1024 ≤ e then 0 else e) sn cn B H pg := by
  have hf : zFm w (w.set m (mobj 2 m k (if 1024 ≤ e then 0 else e) sn)) m 1 := zFm_set (by omega) (by omega)
  refine ⟨_, Zc_of rfl rfl (V81_0_2 h.1 ⟨by omega, fun g => ⟨rfl, ?_, rfl, rfl⟩, fun g => ⟨rfl, ?_, rfl, rfl⟩⟩), zFm_mono hf (by omega) (show _ ≤ m + 11 by omega), zw_s h.1, sB_fm hf (by omega) h.2.1, sH_fm hf (by omega) h.2.2.1, zFm_get hf h.2.2.2.1 (by omega), zFm_get hf h.2.2.2.2.1 (by omega), fun e => zFm_get hf (h.2.2.2.2.2 e) (by omega)⟩
  · rw [if_pos g]; rfl
  · rw [if_neg g]; rfl
theorem zc_names_4 (h : sR w 4 m k hn sn cn B H pg) : Zc sc 3 [zp m] w (some (zj (k.2.2.2.1))) w 0 0 := Zc_of rfl rfl (V3_0_4 h.1 ⟨rfl, rfl, rfl, rfl⟩)
theorem zc_standing_4 (h : sR w 4 m k hn sn cn B H pg) : Zc sc 6 [zp m] w (some (zp (m + 1))) w 0 0 := Zc_of rfl rfl (V6_0_4 h.1 ⟨rfl, rfl, rfl, rfl⟩)
theorem zc_gaps_4 (h : sR w 4 m k hn sn cn B H pg) : Zc sc 20 [zp m] w (some (zp (m + 6))) w 0 0 := Zc_of rfl rfl (V20_0_4 h.1 ⟨rfl, rfl, rfl, rfl⟩)
theorem zc_arenas_4 (h : sR w 4 m k hn sn cn B H pg) : Zc sc 101 [zp m] w (some (zj (k.2.2.2.2.1))) w 0 0 := Zc_of rfl rfl (V101_0_4 h.1 ⟨rfl, rfl, rfl, rfl⟩)
theorem zc_hand_4 (h : sR w 4 m k hn sn cn B H pg) : Zc sc 102 [zp m] w (some (zj hn)) w 0 0 := Zc_of rfl rfl (V102_0_4 h.1 ⟨rfl, rfl, rfl, rfl⟩)
theorem zc_countOf_4 (h : sR w 4 m k hn sn cn B H pg) (hc : cn.length = 5) {x : Int} (hx : 0 ≤ x ∧ x ≤ 7) : Zc sc 34 [zp m, zj x] w (some (zj (if x ≤ 4 then zgi cn x else if x = 5 then k.2.2.2.2.2.1 else if x = 6 then H.length else maxH H))) w 0 0 := by
  refine Zc_of rfl rfl (V34_0_4 h.1 h.2.2.2.1 ⟨by omega, fun g => ⟨by omega, fun _ => by omega, fun _ => ⟨by omega, fun _ => by omega, fun _ => ⟨by omega, ?_, rfl, rfl, rfl⟩⟩⟩, fun g => ⟨?_, rfl, rfl, rfl⟩, fun g => ⟨_, h.2.2.1.ob, _, zc_hHow h.2.2.1, ?_, rfl, rfl, rfl⟩, fun g => ⟨_, h.2.2.1.ob, _, zc_hLargest h.2.2.1, ?_, rfl, rfl, rfl⟩⟩)
  · rw [if_pos (by omega)]
  · rw [if_neg (by omega), if_pos g]
  · rw [if_neg (by omega), if_neg (by omega), if_pos g]
  · rw [if_neg (by omega), if_neg (by omega), if_neg (by omega)]
theorem zc_count_4 (h : sR w 4 m k hn sn cn B H pg) (hc : cn.length = 5) {x v : Int} (hx : 0 ≤ x ∧ x ≤ 4) : ∃ w', Zc sc 64 [zp m, zj x, zj v] w none w' 0 0 ∧ zFm w w' m (msz 4) ∧ sR w' 4 m k hn sn (zsi cn x (zgi cn x + v)) B H pg := by
  have hf : zFm w (w.set (m + 9) (za (zsi cn x (zgi cn x + v)))) (m + 9) 1 := zFm_set (by omega) (by omega)
  exact ⟨_, Zc_of rfl rfl (V64_0_4 h.1 h.2.2.2.1 ⟨by omega, fun _ => by omega, fun _ => ⟨by omega, fun _ => by omega, fun _ => ⟨by omega, by omega, rfl, rfl, rfl, rfl⟩⟩⟩), zFm_mono hf (by omega) (show _ ≤ m + 12 by omega), zFm_get hf h.1 (by omega), sB_fm hf (by omega) h.2.1, sH_fm hf (by omega) h.2.2.1, zw_s h.2.2.2.1, zFm_get hf h.2.2.2.2.1 (by omega), fun e => zFm_get hf (h.2.2.2.2.2 e) (by omega)⟩
theorem zc_handBehind_4 (h : sR w 4 m k hn sn cn B H pg) {e : Int} (he : zrg e) : ∃ w', Zc sc 81 [zp m, zj e] w none w' 0 0 ∧ zFm w w' m (msz 4) ∧ sR w' 4 m k (if 1024 ≤ e then 0 else e) sn cn B H pg := by
  have hf : zFm w (w.set m (mobj 4 m k (if 1024 ≤ e then 0 else e) sn)) m 1 := zFm_set (by omega) (by omega)
  refine ⟨_, Zc_of rfl rfl (V81_0_4 h.1 ⟨by omega, fun g => ⟨rfl, ?_, rfl, rfl⟩, fun g => ⟨rfl, ?_, rfl, rfl⟩⟩), zFm_mono hf (by omega) (show _ ≤ m + 12 by omega), zw_s h.1, sB_fm hf (by omega) h.2.1, sH_fm hf (by omega) h.2.2.1, zFm_get hf h.2.2.2.1 (by omega), zFm_get hf h.2.2.2.2.1 (by omega), fun e => zFm_get hf (h.2.2.2.2.2 e) (by omega)⟩
  · rw [if_pos g]; rfl
  · rw [if_neg g]; rfl
end MEM
