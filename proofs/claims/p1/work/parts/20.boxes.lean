theorem zi32lo (x : Int32) : -2147483648 ≤ x.toInt := by have h := x.le_toInt; omega
theorem zi32hi (x : Int32) : x.toInt ≤ 2147483647 := by have h := x.toInt_lt; omega
/-! ===== the law's runs: one for each box of scripts ===== -/
abbrev zBx : Type := Nat × (Int × Int) × (Int × Int) × (Int × Int)
def zba (j : UInt32) (r : Int × Int) : Value := bif decide (r.1 = r.2) then .int (Int32.ofInt r.1) else .float j
def zbs (q : zBx) : List Value := [.float 0, zba 1 q.2.1, zba 2 q.2.2.1, zba 3 q.2.2.2]
def zby (q : zBx) : zSz := ([(-2147483648, 2147483647, some (Int32.ofNat q.1)), (q.2.1.1, q.2.1.2, none), (q.2.2.1.1, q.2.2.1.2, none), (q.2.2.2.1, q.2.2.2.2, none)], [])
def zbg (q : zBx) : Bool := zok (zev (zbs q) (zby q))
def zbIn (q : zBx) (xs : Nat → Int32) : Prop := (xs 0 &&& 63 = Int32.ofNat q.1) ∧ (q.2.1.1 ≤ (xs 1).toInt ∧ (xs 1).toInt ≤ q.2.1.2) ∧ (q.2.2.1.1 ≤ (xs 2).toInt ∧ (xs 2).toInt ≤ q.2.2.1.2) ∧ (q.2.2.2.1 ≤ (xs 3).toInt ∧ (xs 3).toInt ≤ q.2.2.2.2)
theorem zba_ok {b z : Nat} {ρ : Nat → Int32} {j : UInt32} {r : Int × Int} {x : Int32} (hρ : ρ j.toNat = x) (h : r.1 ≤ x.toInt ∧ x.toInt ≤ r.2) : zc (b, z, ρ) (zba j r) = .int x := by
  unfold zba
  by_cases he : r.1 = r.2
  · rw [decide_eq_true he]
    show Value.int (Int32.ofInt r.1) = .int x
    have : r.1 = x.toInt := by omega
    rw [this, Int32.ofInt_toInt]
  · rw [decide_eq_false he]
    show Value.int (ρ j.toNat) = .int x
    rw [hρ]
theorem zgo {p : Program} {e : Env} {s : State} {m : MethodId} {below : List Frame} {meth : Method} {c : Code} (l : Launch) (hflags : l.flags = flags0) {b L : Nat} {xs : Nat → Int32} (C0 : lw_At p s m meth c b L xs) (ρ : Nat → Int32) (sc : List Value) (sy : zSz)
    (hlen : sc.length = L) (hsc : ∀ (j : Nat) (v : Value), sc[j]? = some v → zc (b, s.heap.size, ρ) v = .int (xs j)) (hsy : ∀ z, zSyOk (b, z, ρ) sy) (h : zok (zev sc sy) = true) :
    W p l e room_1 s m #[Value.ref b] below meth c s.heap [] 0 0 (lw_Z below #[Value.ref b] s) (entryFrame m ([Value.ref b] : List Value).toArray 9) := by
  obtain ⟨r, h1, h2, h3, h4⟩ := zok_spec h
  exact zlaw_run l hflags C0 ρ sc sy 1000000 60 (by decide) hlen hsc hsy h1 h2 h3 h4
theorem zbox {p : Program} {e : Env} {s : State} {m : MethodId} {below : List Frame} {meth : Method} {c : Code} (l : Launch) (hflags : l.flags = flags0) {b : Nat} {xs : Nat → Int32} (C0 : lw_At p s m meth c b 4 xs) {q : zBx} (hq : zbg q = true) (hin : zbIn q xs) :
    W p l e room_1 s m #[Value.ref b] below meth c s.heap [] 0 0 (lw_Z below #[Value.ref b] s) (entryFrame m ([Value.ref b] : List Value).toArray 9) := by
  obtain ⟨h0, h1, h2, h3⟩ := hin
  refine zgo l hflags C0 xs (zbs q) (zby q) rfl ?_ ?_ hq
  · intro j v hj
    unfold zbs at hj
    match j, hj with
    | 0, hj => cases hj; rfl
    | 1, hj => cases hj; exact zba_ok rfl h1
    | 2, hj => cases hj; exact zba_ok rfl h2
    | 3, hj => cases hj; exact zba_ok rfl h3
    | j + 4, hj => simp at hj
  · intro z
    refine ⟨fun u q9 hu => ?_, fun f hf => by simp [zby] at hf⟩
    unfold zby at hu
    match u, hu with
    | 0, hu => cases hu; exact ⟨zi32lo (xs 0), zi32hi (xs 0), fun k hk => by cases hk; exact h0⟩
    | 1, hu => cases hu; exact ⟨h1.1, h1.2, fun k hk => by cases hk⟩
    | 2, hu => cases hu; exact ⟨h2.1, h2.2, fun k hk => by cases hk⟩
    | 3, hu => cases hu; exact ⟨h3.1, h3.2, fun k hk => by cases hk⟩
    | u + 4, hu => simp at hu
/-! ===== the two runs with a number that is told in figures of itself ===== -/
def zdr (x : Int32) : Nat → Int32
  | 1 => x
  | 4 => x + 2
  | 5 => x + 2 + 4
  | 6 => x + 2 + 4 - 1
  | 7 => (x + 2 + 4 - 1) &&& -4
  | 8 => 1024 - ((x + 2 + 4 - 1) &&& -4)
  | 9 => (x + 2 + 4 - 1) / 4
  | _ => 0
def zdq (xs : Nat → Int32) : Nat → Int32
  | 0 => xs 0
  | 2 => xs 2
  | 3 => xs 3
  | u => zdr (xs 1) u
def zdb : List (Int × Int) := [(3, 302), (7, 306), (6, 305), (4, 304), (720, 1020), (1, 76)]
def zsfa : List (Nat × Value × Value × Value) := [(0, .float 1, .int 2, .float 4), (0, .float 4, .int 4, .float 5), (1, .float 5, .int 1, .float 6), (7, .float 6, .int (-4), .float 7), (0, .int 0, .float 7, .float 7), (1, .int 1024, .float 7, .float 8), (3, .float 6, .int 4, .float 9), (2, .float 9, .int 4, .float 7)]
def zdy (k : Nat) : zSz := ((-2147483648, 2147483647, some (Int32.ofNat k)) :: (1, 300, none) :: (-2147483648, 2147483647, none) :: (-2147483648, 2147483647, none) :: zdb.map fun r => (r.1, r.2, none), zsfa)
def zdv (x : Int32) : Value → Option Int32
  | .int y => some y
  | .float u => bif (decide (u = 0) || decide (u = 2) || decide (u = 3)) then none else some (zdr x u.toNat)
  | _ => none
def zdc (x : Int32) : Bool := ((List.range 6).all fun j => match zdb[j]? with
    | some r => decide (r.1 ≤ (zdr x (j + 4)).toInt) && decide ((zdr x (j + 4)).toInt ≤ r.2)
    | none => false) &&
  zsfa.all fun f => match zdv x f.2.1, zdv x f.2.2.1, zdv x f.2.2.2 with
    | some a, some b, some c => decide (zopf f.1 a b = some c)
    | _, _, _ => false
set_option maxRecDepth 100000 in
theorem zdc_ok : ∀ n, n < 300 → zdc (Int32.ofNat (n + 1)) = true := by
  have h : ((List.range 300).all fun n => zdc (Int32.ofNat (n + 1))) = true := by decide +kernel
  intro n hn
  exact List.all_eq_true.mp h n (List.mem_range.mpr hn)
theorem zdv_ok {b z : Nat} {xs : Nat → Int32} {v : Value} {y : Int32} (h : zdv (xs 1) v = some y) : zc (b, z, zdq xs) v = .int y := by
  cases v with
  | int a => cases h; rfl
  | float u =>
    unfold zdv at h
    dsimp only at h
    cases hu : (decide (u = 0) || decide (u = 2) || decide (u = 3)) with
    | true => rw [hu] at h; cases h
    | false =>
      rw [hu] at h
      cases h
      simp only [Bool.or_eq_false_iff, decide_eq_false_iff_not] at hu
      obtain ⟨⟨h0, h2⟩, h3⟩ := hu
      show Value.int (zdq xs u.toNat) = _
      have g : zdq xs u.toNat = zdr (xs 1) u.toNat := by
        unfold zdq
        split
        · next h9 => exact absurd (UInt32.toNat_inj.mp (by simpa using h9)) h0
        · next h9 => exact absurd (UInt32.toNat_inj.mp (by simpa using h9)) h2
        · next h9 => exact absurd (UInt32.toNat_inj.mp (by simpa using h9)) h3
        · rfl
      rw [g]
  | _ => cases h
theorem zdsym {p : Program} {e : Env} {s : State} {m : MethodId} {below : List Frame} {meth : Method} {c : Code} (l : Launch) (hflags : l.flags = flags0) {b : Nat} {xs : Nat → Int32} (C0 : lw_At p s m meth c b 4 xs) {k : Nat} (hq : zok (zev [.float 0, .float 1, .float 2, .float 3] (zdy k)) = true) (h0 : xs 0 &&& 63 = Int32.ofNat k) (h1 : 1 ≤ (xs 1).toInt) (h2 : (xs 1).toInt ≤ 300) :
    W p l e room_1 s m #[Value.ref b] below meth c s.heap [] 0 0 (lw_Z below #[Value.ref b] s) (entryFrame m ([Value.ref b] : List Value).toArray 9) := by
  have hx : xs 1 = Int32.ofNat (((xs 1).toInt - 1).toNat + 1) := by
    apply Int32.toInt_inj.mp
    have g : ((xs 1).toInt - 1).toNat + 1 = (xs 1).toInt.toNat := by omega
    rw [g]
    show _ = (nI _).toInt
    rw [nI_toInt (by omega)]
    omega
  have hc := zdc_ok ((xs 1).toInt - 1).toNat (by omega)
  rw [← hx] at hc
  unfold zdc at hc
  rw [Bool.and_eq_true] at hc
  obtain ⟨c1, c2⟩ := hc
  refine zgo l hflags C0 (zdq xs) _ (zdy k) rfl ?_ ?_ hq
  · intro j v hj
    match j, hj with
    | 0, hj => cases hj; rfl
    | 1, hj => cases hj; rfl
    | 2, hj => cases hj; rfl
    | 3, hj => cases hj; rfl
    | j + 4, hj => simp at hj
  · intro z
    constructor
    · intro u q9 hu
      unfold zdy at hu
      match u, hu with
      | 0, hu => cases hu; exact ⟨zi32lo (xs 0), zi32hi (xs 0), fun k hk => by cases hk; exact h0⟩
      | 1, hu => cases hu; exact ⟨h1, h2, fun k hk => by cases hk⟩
      | 2, hu => cases hu; exact ⟨zi32lo (xs 2), zi32hi (xs 2), fun k hk => by cases hk⟩
      | 3, hu => cases hu; exact ⟨zi32lo (xs 3), zi32hi (xs 3), fun k hk => by cases hk⟩
      | j + 4, hu =>
        have hu' : (zdb.map fun r => ((r.1, r.2, none) : Int × Int × Option Int32))[j]? = some q9 := hu
        rw [List.getElem?_map] at hu'
        cases hr : zdb[j]? with
        | none => rw [hr] at hu'; cases hu'
        | some r =>
          rw [hr] at hu'
          cases hu'
          have hj6 : j < 6 := by
            have := (List.getElem?_eq_some_iff.mp hr).1
            exact this
          have g := List.all_eq_true.mp c1 j (List.mem_range.mpr hj6)
          rw [hr] at g
          simp only [Bool.and_eq_true, decide_eq_true_eq] at g
          exact ⟨g.1, g.2, fun k hk => by cases hk⟩
    · intro f hf
      have g := List.all_eq_true.mp c2 f hf
      split at g
      · next a b9 c9 e1 e2 e3 => exact ⟨a, b9, c9, zdv_ok e1, zdv_ok e2, zdv_ok e3, of_decide_eq_true g⟩
      · cases g
