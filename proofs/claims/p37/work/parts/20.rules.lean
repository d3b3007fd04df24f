/-! ===== runs without fuel: what a method does from a place on; one rule for each kind of instruction ===== -/
def zj (n : Int) : Value := .int (Int32.ofInt n)
def zp (k : Nat) : Value := .ref (k + 1)
def za (l : List Int) : zE := .inl (l.map zj)
def zob (c : Nat) (fs : List Value) : zE := .inr (.inr (c, fs))
abbrev zrg (n : Int) : Prop := -2147483648 ≤ n ∧ n ≤ 2147483647
def zgi (l : List Int) (x : Int) : Int := l.getD x.toNat 0
def zsi (l : List Int) (x v : Int) : List Int := l.set x.toNat v
def zN0 : zSz := ([], [])
def Zr (sc : List Value) (i pc : Nat) (lv st : List Value) (w : List zE) (ov : Option Value) (w' : List zE) (c s : Nat) : Prop :=
  ∃ N, ∀ n, N ≤ n → ∀ M, N ≤ M → ∀ d, N ≤ d → ∀ c0 s0, zloop sc zN0 (zcall sc zN0 M d) n i pc lv st (false, w) c0 s0 = some (.inl ov, (false, w'), c0 + c, s0 + s)
def Zc (sc : List Value) (j : Nat) (as : List Value) (w : List zE) (ov : Option Value) (w' : List zE) (c s : Nat) : Prop :=
  ∃ N, ∀ M, N ≤ M → ∀ d, N ≤ d → zcall sc zN0 M d j as (false, w) = some (.inl ov, (false, w'), c, s)
section ZRL
variable {sc : List Value} {i pc : Nat} {lv st : List Value} {w w' : List zE} {ov : Option Value} {c s : Nat} {ins : Instr}
theorem Zr_st {q : Nat × List Value × List Value} (h : zfd (zil i) pc = some ins) (h1 : zret ins (zrt i) st = none) (h2 : zps zN0 ins pc lv st = some q) (k : Zr sc i q.1 q.2.1 q.2.2 w ov w' c s) : Zr sc i pc lv st w ov w' c s := by
  obtain ⟨N, hN⟩ := k
  refine ⟨N + 1, fun n hn M hM d hd c0 s0 => ?_⟩
  obtain ⟨n, rfl⟩ : ∃ n', n = n' + 1 := ⟨n - 1, by omega⟩
  simp only [zloop, zfrc_eq, h, h1, h2]
  exact hN n (by omega) M (by omega) d (by omega) c0 s0
theorem Zr_mem {pc' dc ds : Nat} {st' : List Value} {w1 : List zE} (h : zfd (zil i) pc = some ins) (h1 : zret ins (zrt i) st = none) (h2 : zps zN0 ins pc lv st = none) (h3 : zmem sc i ins pc st (false, w) = some (pc', st', (false, w1), dc, ds)) (k : Zr sc i pc' lv st' w1 ov w' c s) : Zr sc i pc lv st w ov w' (dc + c) (ds + s) := by
  obtain ⟨N, hN⟩ := k
  refine ⟨N + 1, fun n hn M hM d hd c0 s0 => ?_⟩
  obtain ⟨n, rfl⟩ : ∃ n', n = n' + 1 := ⟨n - 1, by omega⟩
  simp only [zloop, zfrc_eq, h, h1, h2, h3]
  rw [hN n (by omega) M (by omega) d (by omega)]
  simp only [Nat.add_assoc]
theorem Zr_mem0 {pc' : Nat} {st' : List Value} {w1 : List zE} (h : zfd (zil i) pc = some ins) (h1 : zret ins (zrt i) st = none) (h2 : zps zN0 ins pc lv st = none) (h3 : zmem sc i ins pc st (false, w) = some (pc', st', (false, w1), 0, 0)) (k : Zr sc i pc' lv st' w1 ov w' c s) : Zr sc i pc lv st w ov w' c s := by
  have := Zr_mem h h1 h2 h3 k
  rwa [Nat.zero_add, Nat.zero_add] at this
theorem Zr_ret (h : zfd (zil i) pc = some ins) (h1 : zret ins (zrt i) st = some ov) : Zr sc i pc lv st w ov w 0 0 := by
  refine ⟨1, fun n hn M hM d hd c0 s0 => ?_⟩
  obtain ⟨n, rfl⟩ : ∃ n', n = n' + 1 := ⟨n - 1, by omega⟩
  simp only [zloop, zfrc_eq, h, h1, Nat.add_zero]
theorem Zr_call {kd j c1 s1 : Nat} {as rest : List Value} {ov1 : Option Value} {w1 : List zE} (h : zfd (zil i) pc = some ins) (h1 : zret ins (zrt i) st = none) (h2 : zps zN0 ins pc lv st = none) (h3 : zmem sc i ins pc st (false, w) = none) (h4 : zinv i ins st (false, w) = some (kd, j, as, rest)) (h5 : decide (8 < zsum rest) = false) (h6 : kd < 6)
    (k : Zc sc j as w ov1 w1 c1 s1) (k2 : Zr sc i (pc + 3) lv (ov1.toList ++ rest) w1 ov w' c s) : Zr sc i pc lv st w ov w' (c1 + c) (s1 + s) := by
  obtain ⟨N, hN⟩ := k
  obtain ⟨N2, hN2⟩ := k2
  refine ⟨N + N2 + 1, fun n hn M hM d hd c0 s0 => ?_⟩
  obtain ⟨n, rfl⟩ : ∃ n', n = n' + 1 := ⟨n - 1, by omega⟩
  simp only [zloop, zfrc_eq, h, h1, h2, h3, h4, h5, cond_false]
  rw [hN M (by omega) d (by omega)]
  have e := hN2 n (by omega) M (by omega) d (by omega) (c0 + c1) (s0 + s1)
  rw [Nat.add_assoc, Nat.add_assoc] at e
  match kd, h6 with
  | 0, _ => exact e
  | 1, _ => exact e
  | 2, _ => exact e
  | 3, _ => exact e
  | 4, _ => exact e
  | 5, _ => exact e
theorem Zr_obj {j : Nat} {as rest : List Value} (h : zfd (zil i) pc = some ins) (h1 : zret ins (zrt i) st = none) (h2 : zps zN0 ins pc lv st = none) (h3 : zmem sc i ins pc st (false, w) = none) (h4 : zinv i ins st (false, w) = some (6, j, as, rest)) (h5 : decide (8 < zsum rest) = false)
    (k : Zr sc i (pc + 3) lv rest w ov w' c s) : Zr sc i pc lv st w ov w' c s := by
  obtain ⟨N, hN⟩ := k
  refine ⟨N + 1, fun n hn M hM d hd c0 s0 => ?_⟩
  obtain ⟨n, rfl⟩ : ∃ n', n = n' + 1 := ⟨n - 1, by omega⟩
  simp only [zloop, zfrc_eq, h, h1, h2, h3, h4, h5, cond_false]
  exact hN n (by omega) M (by omega) d (by omega) c0 s0
theorem Zr_mx {b : Bool} {j : Nat} {v : Value} {as rest : List Value} (h : zfd (zil i) pc = some ins) (h1 : zret ins (zrt i) st = none) (h2 : zps zN0 ins pc lv st = none) (h3 : zmem sc i ins pc st (false, w) = none) (h4 : zinv i ins st (false, w) = some (bif b then 8 else 9, j, as, rest)) (h5 : decide (8 < zsum rest) = false) (h6 : zmx b zN0 as = some v)
    (k : Zr sc i (pc + 3) lv (v :: rest) w ov w' c s) : Zr sc i pc lv st w ov w' c s := by
  obtain ⟨N, hN⟩ := k
  refine ⟨N + 1, fun n hn M hM d hd c0 s0 => ?_⟩
  obtain ⟨n, rfl⟩ : ∃ n', n = n' + 1 := ⟨n - 1, by omega⟩
  simp only [zloop, zfrc_eq, h, h1, h2, h3, h4, h5, cond_false]
  have e := hN n (by omega) M (by omega) d (by omega) c0 s0
  cases b
  · simp only [cond_false, h6]
    exact e
  · simp only [cond_true, h6]
    exact e
theorem Zr_cp {j : Nat} {w1 : List zE} {as rest : List Value} (h : zfd (zil i) pc = some ins) (h1 : zret ins (zrt i) st = none) (h2 : zps zN0 ins pc lv st = none) (h3 : zmem sc i ins pc st (false, w) = none) (h4 : zinv i ins st (false, w) = some (7, j, as, rest)) (h5 : decide (8 < zsum rest) = false) (h6 : zcp as (false, w) = some (false, w1))
    (k : Zr sc i (pc + 3) lv rest w1 ov w' c s) : Zr sc i pc lv st w ov w' c s := by
  obtain ⟨N, hN⟩ := k
  refine ⟨N + 1, fun n hn M hM d hd c0 s0 => ?_⟩
  obtain ⟨n, rfl⟩ : ∃ n', n = n' + 1 := ⟨n - 1, by omega⟩
  simp only [zloop, zfrc_eq, h, h1, h2, h3, h4, h5, cond_false, h6]
  exact hN n (by omega) M (by omega) d (by omega) c0 s0
theorem Zc_of {j : Nat} {as : List Value} (h1 : decide ((zarg as).length ≤ zml j) = true) (h2 : decide (j < zLaw) = true) (k : Zr sc j 0 (zent (zml j) as) [] w ov w' c s) : Zc sc j as w ov w' c s := by
  obtain ⟨N, hN⟩ := k
  refine ⟨N + 1, fun M hM d hd => ?_⟩
  obtain ⟨d, rfl⟩ : ∃ d', d = d' + 1 := ⟨d - 1, by omega⟩
  simp only [zcall, h1, h2, Bool.and_self, cond_true]
  have := hN M (by omega) M (by omega) d (by omega) 0 0
  rw [Nat.zero_add, Nat.zero_add] at this
  exact this
-- numbers
theorem zj_to {n : Int} (h : zrg n) : (Int32.ofInt n).toInt = n := by
  rw [Int32.toInt_ofInt]
  show Int.bmod n 4294967296 = n
  exact Int.bmod_eq_of_le (by have := h.1; omega) (by have := h.2; omega)
theorem zj_of (x : Int32) : zj x.toInt = .int x := by
  unfold zj
  rw [Int32.ofInt_toInt]
theorem zj_rg (x : Int32) : zrg x.toInt := ⟨by have := x.le_toInt; omega, by have := x.toInt_lt; omega⟩
theorem rl_ic {n : Int} (h : zfd (zil i) pc = some (.iconst n)) (k : Zr sc i (pc + 1) lv (zj n :: st) w ov w' c s) : Zr sc i pc lv st w ov w' c s :=
  Zr_st h rfl (q := (pc + 1, lv, zj n :: st)) (by simp only [zps, zfi_eq]; rfl) k
theorem rl_bi {n : Int} (h : zfd (zil i) pc = some (.bipush n)) (hn : (Int8.ofInt n).toInt32 = Int32.ofInt n) (k : Zr sc i (pc + 2) lv (zj n :: st) w ov w' c s) : Zr sc i pc lv st w ov w' c s :=
  Zr_st h rfl (q := (pc + 2, lv, zj n :: st)) (by simp only [zps, zfi_eq, hn]; rfl) k
theorem rl_si {n : Int} (h : zfd (zil i) pc = some (.sipush n)) (hn : (Int16.ofInt n).toInt32 = Int32.ofInt n) (k : Zr sc i (pc + 3) lv (zj n :: st) w ov w' c s) : Zr sc i pc lv st w ov w' c s :=
  Zr_st h rfl (q := (pc + 3, lv, zj n :: st)) (by simp only [zps, zfi_eq, hn]; rfl) k
theorem zbin_j {op : Nat} {x y z : Int} {r : List Value} {p : Nat} (h : zopf op (Int32.ofInt x) (Int32.ofInt y) = some (Int32.ofInt z)) : zbin op zN0 lv (zj y :: zj x :: r) p = some (p, lv, zj z :: r) := by
  unfold zbin zj
  simp only [h, zfi_eq]
theorem rl_add {x y : Int} {r : List Value} (h : zfd (zil i) pc = some .iadd) (k : Zr sc i (pc + 1) lv (zj (x + y) :: r) w ov w' c s) : Zr sc i pc lv (zj y :: zj x :: r) w ov w' c s :=
  Zr_st h rfl (q := (pc + 1, lv, zj (x + y) :: r)) (zbin_j (op := 0) (by rw [Int32.ofInt_add]; rfl)) k
theorem rl_sub {x y : Int} {r : List Value} (h : zfd (zil i) pc = some .isub) (k : Zr sc i (pc + 1) lv (zj (x - y) :: r) w ov w' c s) : Zr sc i pc lv (zj y :: zj x :: r) w ov w' c s :=
  Zr_st h rfl (q := (pc + 1, lv, zj (x - y) :: r)) (zbin_j (op := 1) (by rw [Int32.ofInt_sub]; rfl)) k
theorem rl_mul {x y : Int} {r : List Value} (h : zfd (zil i) pc = some .imul) (k : Zr sc i (pc + 1) lv (zj (x * y) :: r) w ov w' c s) : Zr sc i pc lv (zj y :: zj x :: r) w ov w' c s :=
  Zr_st h rfl (q := (pc + 1, lv, zj (x * y) :: r)) (zbin_j (op := 2) (by rw [Int32.ofInt_mul]; rfl)) k
theorem zj_div {x y : Int} (hx : 0 ≤ x) (hx2 : x ≤ 2147483647) (hy : 0 < y) (hy2 : y ≤ 2147483647) : Int32.ofInt x / Int32.ofInt y = Int32.ofInt (x / y) := by
  apply Int32.toInt_inj.mp
  have h1 : x / y ≤ x := Int.ediv_le_self y hx
  have h0 : 0 ≤ x / y := Int.ediv_nonneg hx (by omega)
  rw [Int32.toInt_div, zj_to ⟨by omega, hx2⟩, zj_to ⟨by omega, hy2⟩, zj_to ⟨by omega, by omega⟩, Int.tdiv_eq_ediv_of_nonneg hx]
  exact Int.bmod_eq_of_le (by omega) (by omega)
theorem zj_ne0 {y : Int} (hy : 0 < y) (hy2 : y ≤ 2147483647) : decide (Int32.ofInt y = 0) = false := by
  rw [decide_eq_false_iff_not]
  intro h
  have := congrArg Int32.toInt h
  rw [zj_to ⟨by omega, hy2⟩] at this
  have e : (0 : Int32).toInt = 0 := rfl
  omega
theorem rl_div {x y : Int} {r : List Value} (h : zfd (zil i) pc = some .idiv) (hx : 0 ≤ x) (hx2 : x ≤ 2147483647) (hy : 0 < y) (hy2 : y ≤ 2147483647) (k : Zr sc i (pc + 1) lv (zj (x / y) :: r) w ov w' c s) : Zr sc i pc lv (zj y :: zj x :: r) w ov w' c s :=
  Zr_st h rfl (q := (pc + 1, lv, zj (x / y) :: r)) (zbin_j (op := 3) (by
    show (bif decide (Int32.ofInt y = 0) then none else some (Int32.ofInt x / Int32.ofInt y)) = _
    rw [zj_ne0 hy hy2, cond_false, zj_div hx hx2 hy hy2])) k
theorem rl_rem {x y : Int} {r : List Value} (h : zfd (zil i) pc = some .irem) (hx : 0 ≤ x) (hx2 : x ≤ 2147483647) (hy : 0 < y) (hy2 : y ≤ 2147483647) (k : Zr sc i (pc + 1) lv (zj (x % y) :: r) w ov w' c s) : Zr sc i pc lv (zj y :: zj x :: r) w ov w' c s :=
  Zr_st h rfl (q := (pc + 1, lv, zj (x % y) :: r)) (zbin_j (op := 4) (by
    show (bif decide (Int32.ofInt y = 0) then none else some (Int32.ofInt x - Int32.ofInt x / Int32.ofInt y * Int32.ofInt y)) = _
    rw [zj_ne0 hy hy2, cond_false, zj_div hx hx2 hy hy2, ← Int32.ofInt_mul, ← Int32.ofInt_sub, Int.emod_def, Int.mul_comm y (x / y)])) k
def zjop (op : Nat) (x y : Int) : Int := match zopf op (Int32.ofInt x) (Int32.ofInt y) with
  | some z => z.toInt
  | none => 0
theorem zjop_e {op : Nat} {x y : Int} {z : Int32} (h : zopf op (Int32.ofInt x) (Int32.ofInt y) = some z) : zopf op (Int32.ofInt x) (Int32.ofInt y) = some (Int32.ofInt (zjop op x y)) := by
  unfold zjop
  rw [h]
  simp only [Int32.ofInt_toInt]
theorem rl_shl {x y : Int} {r : List Value} (h : zfd (zil i) pc = some .ishl) (k : Zr sc i (pc + 1) lv (zj (zjop 5 x y) :: r) w ov w' c s) : Zr sc i pc lv (zj y :: zj x :: r) w ov w' c s :=
  Zr_st h rfl (q := (pc + 1, lv, zj (zjop 5 x y) :: r)) (zbin_j (op := 5) (zjop_e rfl)) k
theorem rl_shr {x y : Int} {r : List Value} (h : zfd (zil i) pc = some .ishr) (k : Zr sc i (pc + 1) lv (zj (zjop 6 x y) :: r) w ov w' c s) : Zr sc i pc lv (zj y :: zj x :: r) w ov w' c s :=
  Zr_st h rfl (q := (pc + 1, lv, zj (zjop 6 x y) :: r)) (zbin_j (op := 6) (zjop_e rfl)) k
theorem rl_and {x y : Int} {r : List Value} (h : zfd (zil i) pc = some .iand) (k : Zr sc i (pc + 1) lv (zj (zjop 7 x y) :: r) w ov w' c s) : Zr sc i pc lv (zj y :: zj x :: r) w ov w' c s :=
  Zr_st h rfl (q := (pc + 1, lv, zj (zjop 7 x y) :: r)) (zbin_j (op := 7) (zjop_e rfl)) k
theorem rl_neg {x : Int} {r : List Value} (h : zfd (zil i) pc = some .ineg) (k : Zr sc i (pc + 1) lv (zj (-x) :: r) w ov w' c s) : Zr sc i pc lv (zj x :: r) w ov w' c s :=
  Zr_st h rfl (q := (pc + 1, lv, zj (-x) :: r)) (by
    unfold zj
    simp only [zps, zfi_eq, Int32.ofInt_neg]) k
theorem zset_eq {α β : Type} {l : List α} {k : Nat} {v : α} {f : List α → Option β} (h : k < l.length) : zset l k v f = f (l.set k v) := by
  induction l generalizing k f with
  | nil => simp at h
  | cons a r ih =>
    cases k with
    | zero => rfl
    | succ k => exact ih (by simpa using h)
theorem zst1_eq {β : Type} {lv : List Value} {a : Nat} {v : Value} {f : List Value → Option β} (hb : zbad lv a = false) (h : a < lv.length) : zst1 lv a v f = f (lv.set a v) := by
  unfold zst1
  rw [hb, cond_false, zset_eq h]
theorem rl_inc {a : Nat} {n x : Int} {p : Nat} (h : zfd (zil i) pc = some (.iinc a n)) (hp : pc + zlen (.iinc a n) = p) (hb : zbad lv a = false) (hx : zat lv a = some (zj x)) (k : Zr sc i p (lv.set a (zj (x + n))) st w ov w' c s) : Zr sc i pc lv st w ov w' c s :=
  Zr_st h rfl (q := (p, lv.set a (zj (x + n)), st)) (by
    subst hp
    have hl : a < lv.length := by
      rw [zat_eq] at hx
      exact (List.getElem?_eq_some_iff.mp hx).1
    unfold zj at hx
    simp only [zps, hx, zfi_eq]
    rw [zst1_eq hb hl, ← Int32.ofInt_add]
    rfl) k
end ZRL
