/-! ===== lists, tables ===== -/
abbrev zE : Type := List Value ⊕ List Value ⊕ (Nat × List Value)
abbrev zW : Type := Bool × List zE
abbrev zSy : Type := List (Int × Int × Option Int32)
abbrev zR : Type := (Option Value ⊕ String) × zW × Nat × Nat
def zfd {α : Type} : List (Nat × α) → Nat → Option α
  | [], _ => none
  | q :: r, k => bif Nat.beq q.1 k then some q.2 else zfd r k
def zfd2 {α : Type} : List (Nat × Nat × α) → Nat → Nat → Option α
  | [], _, _ => none
  | q :: r, a, b => bif (Nat.beq q.1 a && Nat.beq q.2.1 b) then some q.2.2 else zfd2 r a b
def zat {α : Type} : List α → Nat → Option α
  | [], _ => none
  | a :: _, 0 => some a
  | _ :: r, k + 1 => zat r k
def zatL {α : Type} (l : List (List α)) (k : Nat) : List α := match zat l k with
  | some x => x
  | none => []
def zfrc {α : Type} (n : Nat) (f : Nat → α) : α := match n with
  | 0 => f 0
  | k + 1 => f (k + 1)
def zfi {α : Type} (x : Int32) (f : Int32 → α) : α := zfrc x.toBitVec.toNat fun k => f (Int32.ofBitVec (BitVec.ofNat 32 k))
def zfl {α : Type} (x : Int64) (f : Int64 → α) : α := zfrc x.toBitVec.toNat fun k => f (Int64.ofBitVec (BitVec.ofNat 64 k))
def zset {α β : Type} : List α → Nat → α → (List α → Option β) → Option β
  | [], _, _, _ => none
  | _ :: r, 0, v, f => f (v :: r)
  | a :: r, k + 1, v, f => zset r k v fun q => f (a :: q)
def zapp {α β : Type} : List α → α → (List α → Option β) → Option β
  | [], v, f => f [v]
  | a :: r, v, f => zapp r v fun q => f (a :: q)
def zrep {α β : Type} : Nat → α → (List α → Option β) → Option β
  | 0, _, f => f []
  | n + 1, v, f => zrep n v fun q => f (v :: q)
def zlen : Instr → Nat
  | .iload _ => 2 | .lload _ => 2 | .dload _ => 2 | .aload _ => 2 | .istore _ => 2 | .lstore _ => 2 | .dstore _ => 2 | .astore _ => 2
  | .bipush _ => 2 | .newarray _ => 2 | .ldc _ => 2
  | .sipush _ => 3 | .goto _ => 3 | .if_icmp _ _ => 3 | .ifCond _ _ => 3 | .getfield _ => 3 | .putfield _ => 3 | .invokevirtual _ => 3 | .invokespecial _ => 3 | .invokestatic _ => 3 | .new _ => 3 | .ldc2_w _ => 3
  | .iinc _ n => bif (decide (-128 ≤ n) && decide (n ≤ 127)) then 3 else 6
  | _ => 1
-- methods
def zmt (i : Nat) : zMt := match zat zMa i with
  | some x => x
  | none => zLawMt
def zil (i : Nat) : List (Nat × Instr) := zatL zIs i
def zoc (i : Nat) : Nat := (zmt i).2.2.2.2.2.1
def zon (o : Nat) : String := match zat zO o with
  | some x => x
  | none => ""
def zrt (i : Nat) : Option FieldType := (zmt i).2.2.2.1
def zml (i : Nat) : Nat := (zmt i).2.2.1
def zini (i : Nat) : Bool := (zmt i).1.name == "<init>"
def zty (c j : Nat) : FieldType := match zat zct c with
  | some f => f j
  | none => .int
def zcn (c : Nat) : Nat := match zat zcl c with
  | some q => q.2.2
  | none => 0
def zdf (c : Nat) : List Value := (List.range (zcn c)).map fun j => defaultValue (zty c j)
theorem zfrc_eq {α : Type} (n : Nat) (f : Nat → α) : zfrc n f = f n := by cases n <;> rfl
theorem zfi_eq {α : Type} (x : Int32) (f : Int32 → α) : zfi x f = f x := by
  unfold zfi
  rw [zfrc_eq]
  simp
theorem zfl_eq {α : Type} (x : Int64) (f : Int64 → α) : zfl x f = f x := by
  unfold zfl
  rw [zfrc_eq]
  simp
theorem zat_eq {α : Type} (l : List α) (k : Nat) : zat l k = l[k]? := by
  induction l generalizing k with
  | nil => simp [zat]
  | cons a r ih => cases k <;> simp [zat, ih]
theorem zset_spec {α β : Type} {l : List α} {k : Nat} {v : α} {f : List α → Option β} {b : β} (h : zset l k v f = some b) : k < l.length ∧ f (l.set k v) = some b := by
  induction l generalizing k f with
  | nil => simp [zset] at h
  | cons a r ih =>
    cases k with
    | zero => exact ⟨by simp, h⟩
    | succ k =>
      obtain ⟨h1, h2⟩ := ih h
      exact ⟨by simpa using h1, h2⟩
theorem zapp_eq {α β : Type} (l : List α) (v : α) (f : List α → Option β) : zapp l v f = f (l ++ [v]) := by
  induction l generalizing f with
  | nil => rfl
  | cons a r ih => simp [zapp, ih]
theorem zrep_eq {α β : Type} (n : Nat) (v : α) (f : List α → Option β) : zrep n v f = f (List.replicate n v) := by
  induction n generalizing f with
  | zero => rfl
  | succ n ih => simp [zrep, ih, List.replicate_succ]
theorem zfd_mem {α : Type} {l : List (Nat × α)} {k : Nat} {x : α} (h : zfd l k = some x) : (k, x) ∈ l := by
  induction l with
  | nil => simp [zfd] at h
  | cons q r ih =>
    unfold zfd at h
    cases hb : Nat.beq q.1 k with
    | true =>
      rw [hb] at h
      have e := Nat.eq_of_beq_eq_true hb
      cases h
      rw [← e]
      exact List.mem_cons_self
    | false =>
      rw [hb] at h
      exact List.mem_cons_of_mem _ (ih h)
theorem zfd2_mem {α : Type} {l : List (Nat × Nat × α)} {a b : Nat} {x : α} (h : zfd2 l a b = some x) : (a, b, x) ∈ l := by
  induction l with
  | nil => simp [zfd2] at h
  | cons q r ih =>
    unfold zfd2 at h
    cases hb : (Nat.beq q.1 a && Nat.beq q.2.1 b) with
    | true =>
      rw [hb] at h
      rw [Bool.and_eq_true] at hb
      have e := Nat.eq_of_beq_eq_true hb.1
      have e2 := Nat.eq_of_beq_eq_true hb.2
      cases h
      rw [← e, ← e2]
      exact List.mem_cons_self
    | false =>
      rw [hb] at h
      exact List.mem_cons_of_mem _ (ih h)
/-- how a value of the small machine stands for one of the machine: the script's array, the cells from base on, numbers that are variables -/
abbrev zX : Type := Nat × Nat × (Nat → Int32)
def zc (X : zX) : Value → Value
  | .ref 0 => .ref X.1
  | .ref (k + 1) => .ref (X.2.1 + k)
  | .float u => .int (X.2.2 u.toNat)
  | v => v
theorem zatL_mem {α : Type} {tab : List (List α)} {o : Nat} {e : α} (h : e ∈ zatL tab o) : ∃ l, tab[o]? = some l ∧ e ∈ l := by
  unfold zatL at h
  rw [zat_eq] at h
  split at h
  · next x hx => exact ⟨x, hx, h⟩
  · cases h
def zisT : Instr → Bool
  | .tableswitch _ _ _ _ => true
  | _ => false
def zDc (cc : ByteArray) (pc : Nat) (ins : Instr) : Prop := ∃ len, decode cc pc = .ok (ins, len) ∧ (zisT ins = true ∨ len = zlen ins)
theorem zDc.plain {cc : ByteArray} {pc : Nat} {ins : Instr} (h : zDc cc pc ins) (ht : zisT ins = false) : decode cc pc = .ok (ins, zlen ins) := by
  obtain ⟨len, h1, h2 | h2⟩ := h
  · rw [ht] at h2; cases h2
  · rw [← h2]; exact h1
