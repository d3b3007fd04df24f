/-! ===== a small machine over lists: what a method does, as a function; soundness over the kit's rows stands behind it ===== -/
def zcat2 : Value → Bool
  | .long _ => true
  | .double _ => true
  | _ => false
def zisI : Value → Bool
  | .int _ => true
  | .float _ => true
  | _ => false
def zisA : Value → Bool
  | .ref _ => true
  | .null => true
  | _ => false
def zisL : Value → Bool
  | .long _ => true
  | _ => false
def zisD : Value → Bool
  | .double _ => true
  | _ => false
abbrev zmk : Value := .retAddr 0
def zbad (lv : List Value) : Nat → Bool
  | 0 => false
  | j + 1 => match zat lv j with
    | some v => zcat2 v
    | none => false
def zst1 {β : Type} (lv : List Value) (i : Nat) (v : Value) (f : List Value → Option β) : Option β := bif zbad lv i then none else zset lv i v f
def zst2 {β : Type} (lv : List Value) (i : Nat) (v : Value) (f : List Value → Option β) : Option β := bif zbad lv i then none else zset lv i v fun q => zset q (i + 1) zmk f
def ztg (pc : Nat) (off : Int) : Option Nat := match (pc : Int) + off with
  | .ofNat t => some t
  | .negSucc _ => none
abbrev zSz : Type := zSy × List (Nat × Value × Value × Value)
def ziv (sy : zSz) : Value → Int × Int
  | .int x => (x.toInt, x.toInt)
  | .float u => match zat sy.1 u.toNat with
    | some q => (q.1, q.2.1)
    | none => (-2147483648, 2147483647)
  | _ => (0, 0)
def zlt (a b : Int × Int) : Option Bool := bif decide (a.2 < b.1) then some true else bif decide (b.2 ≤ a.1) then some false else none
def zeq (a b : Int × Int) : Option Bool := bif (decide (a.2 < b.1) || decide (b.2 < a.1)) then some false else bif (decide (a.1 = a.2) && decide (b.1 = b.2)) then some true else none
def znt : Option Bool → Option Bool
  | some b => some (!b)
  | none => none
def zcmp (c : ClassFile.Cond) (a b : Int × Int) : Option Bool := match c with
  | .eq => zeq a b
  | .ne => znt (zeq a b)
  | .lt => zlt a b
  | .ge => znt (zlt a b)
  | .gt => zlt b a
  | .le => znt (zlt b a)
def zld (p : Value → Bool) (lv st : List Value) (i pc : Nat) : Option (Nat × List Value × List Value) := match zat lv i with
  | some v => bif p v then some (pc, lv, v :: st) else none
  | none => none
def zso (p : Value → Bool) (lv st : List Value) (i pc : Nat) : Option (Nat × List Value × List Value) := match st with
  | v :: r => bif p v then zst1 lv i v fun q => some (pc, q, r) else none
  | _ => none
def zso2 (p : Value → Bool) (lv st : List Value) (i pc : Nat) : Option (Nat × List Value × List Value) := match st with
  | v :: r => bif p v then zst2 lv i v fun q => some (pc, q, r) else none
  | _ => none
def zopf (op : Nat) (x y : Int32) : Option Int32 := match op with
  | 0 => some (x + y)
  | 1 => some (x - y)
  | 2 => some (x * y)
  | 3 => bif decide (y = 0) then none else some (x / y)
  | 4 => bif decide (y = 0) then none else some (x - x / y * y)
  | 5 => some (x <<< (y &&& 31))
  | 6 => some (x >>> (y &&& 31))
  | 7 => some (x &&& y)
  | _ => none
def zfact : List (Nat × Value × Value × Value) → Nat → Value → Value → Option Value
  | [], _, _, _ => none
  | f :: r, op, x, y => bif (Nat.beq f.1 op && decide (f.2.1 = x) && decide (f.2.2.1 = y)) then some f.2.2.2 else zfact r op x y
def zbin (op : Nat) (sy : zSz) (lv st : List Value) (pc : Nat) : Option (Nat × List Value × List Value) := match st with
  | .int y :: .int x :: r => match zopf op x y with
    | some v => zfi v fun z => some (pc, lv, .int z :: r)
    | none => none
  | y :: x :: r => match zfact sy.2 op x y with
    | some v => some (pc, lv, v :: r)
    | none => none
  | _ => none
def zbil (f : Int64 → Int64 → Int64) (lv st : List Value) (pc : Nat) : Option (Nat × List Value × List Value) := match st with
  | .long y :: .long x :: r => zfl (f x y) fun z => some (pc, lv, .long z :: r)
  | _ => none
def zbr (o : Option Bool) (t : Option Nat) (pc : Nat) (lv r : List Value) : Option (Nat × List Value × List Value) := match t with
  | some t => match o with
    | some true => some (t, lv, r)
    | some false => some (pc + 3, lv, r)
    | none => none
  | none => none
def zsw (pc : Nat) (dflt lo hi : Int) (offs : Array Int) (x : Int) : Option Nat := bif (decide (x < lo) || decide (hi < x)) then ztg pc dflt else match zat offs.toList (x - lo).toNat with
  | some o => ztg pc o
  | none => none
def znan (x : UInt64) : Bool := decide (x &&& 0x7fffffffffffffff ≤ 0x7ff0000000000000)
def zand (sy : zSz) (lv st : List Value) (pc : Nat) : Option (Nat × List Value × List Value) := match st with
  | .int y :: .float u :: r => bif decide (y = 63) then match zat sy.1 u.toNat with
    | some (_, _, some k) => some (pc, lv, .int k :: r)
    | _ => none
    else zbin 7 sy lv (.int y :: .float u :: r) pc
  | st => zbin 7 sy lv st pc
/-- what moves on the stack alone -/
def zps (sy : zSz) (ins : Instr) (pc : Nat) (lv st : List Value) : Option (Nat × List Value × List Value) :=
  match ins with
  | .iconst n => zfi (Int32.ofInt n) fun z => some (pc + 1, lv, .int z :: st)
  | .bipush n => zfi (Int8.ofInt n).toInt32 fun z => some (pc + 2, lv, .int z :: st)
  | .sipush n => zfi (Int16.ofInt n).toInt32 fun z => some (pc + 3, lv, .int z :: st)
  | .lconst n => zfl (Int64.ofNat (n : Nat)) fun z => some (pc + 1, lv, .long z :: st)
  | .iload i => zld zisI lv st i (pc + 2)
  | .iload_n k => zld zisI lv st k (pc + 1)
  | .lload i => zld zisL lv st i (pc + 2)
  | .lload_n k => zld zisL lv st k (pc + 1)
  | .dload i => zld zisD lv st i (pc + 2)
  | .aload i => zld zisA lv st i (pc + 2)
  | .aload_n k => zld zisA lv st k (pc + 1)
  | .istore i => zso zisI lv st i (pc + 2)
  | .istore_n k => zso zisI lv st k (pc + 1)
  | .astore i => zso zisA lv st i (pc + 2)
  | .astore_n k => zso zisA lv st k (pc + 1)
  | .lstore i => zso2 zisL lv st i (pc + 2)
  | .lstore_n k => zso2 zisL lv st k (pc + 1)
  | .dstore i => zso2 zisD lv st i (pc + 2)
  | .iinc i n => match zat lv i with
    | some (.int x) => zfi (x + Int32.ofInt n) fun z => zst1 lv i (.int z) fun q => some (pc + zlen (.iinc i n), q, st)
    | _ => none
  | .iadd => zbin 0 sy lv st (pc + 1)
  | .isub => zbin 1 sy lv st (pc + 1)
  | .imul => zbin 2 sy lv st (pc + 1)
  | .idiv => zbin 3 sy lv st (pc + 1)
  | .irem => zbin 4 sy lv st (pc + 1)
  | .ishl => zbin 5 sy lv st (pc + 1)
  | .ishr => zbin 6 sy lv st (pc + 1)
  | .iand => zand sy lv st (pc + 1)
  | .ineg => match st with
    | .int x :: r => zfi (-x) fun z => some (pc + 1, lv, .int z :: r)
    | _ => none
  | .ladd => zbil (fun x y => x + y) lv st (pc + 1)
  | .lsub => zbil (fun x y => x - y) lv st (pc + 1)
  | .lmul => zbil (fun x y => x * y) lv st (pc + 1)
  | .i2l => match st with
    | .int x :: r => zfl x.toInt64 fun z => some (pc + 1, lv, .long z :: r)
    | _ => none
  | .lcmp => match st with
    | .long y :: .long x :: r => some (pc + 1, lv, .int (bif decide (y < x) then 1 else bif decide (x = y) then 0 else -1) :: r)
    | _ => none
  | .i2d => match st with
    | .int x :: r => some (pc + 1, lv, .double (FP.i2d x) :: r)
    | _ => none
  | .ddiv => match st with
    | .double y :: .double x :: r => bif znan (FP.ddiv x y) then some (pc + 1, lv, .double (FP.ddiv x y) :: r) else none
    | _ => none
  | .dcmp op => match st with
    | .double y :: .double x :: r => zfi (Op.cmpValue (FP.dcmp x y) op) fun z => some (pc + 1, lv, .int z :: r)
    | _ => none
  | .dconst n => match n with
    | 0 => some (pc + 1, lv, .double FP.dconst0 :: st)
    | 1 => some (pc + 1, lv, .double FP.dconst1 :: st)
  | .dup => match st with
    | v :: r => bif zcat2 v then none else some (pc + 1, lv, v :: v :: r)
    | _ => none
  | .pop => match st with
    | v :: r => bif zcat2 v then none else some (pc + 1, lv, r)
    | _ => none
  | .dup_x1 => match st with
    | v :: u :: r => bif (zcat2 v || zcat2 u) then none else some (pc + 1, lv, v :: u :: v :: r)
    | _ => none
  | .dup2 => match st with
    | v :: u :: r => bif (zcat2 v || zcat2 u) then none else some (pc + 1, lv, v :: u :: v :: u :: r)
    | _ => none
  | .goto off => match ztg pc off with
    | some t => some (t, lv, st)
    | none => none
  | .ifCond cnd off => match st with
    | v :: r => bif zisI v then zbr (zcmp cnd (ziv sy v) (0, 0)) (ztg pc off) pc lv r else none
    | _ => none
  | .if_icmp cnd off => match st with
    | v :: u :: r => bif (zisI v && zisI u) then zbr (zcmp cnd (ziv sy u) (ziv sy v)) (ztg pc off) pc lv r else none
    | _ => none
  | .tableswitch dflt lo hi offs => match st with
    | .int x :: r => match zsw pc dflt lo hi offs x.toInt with
      | some t => some (t, lv, r)
      | none => none
    | _ => none
  | _ => none
def ztv (ty : FieldType) (v : Value) : Bool := match ty with
  | .int => zisI v
  | .boolean => match v with
    | .int x => decide (x = 0) || decide (x = 1)
    | _ => false
  | .object _ => zisA v
  | .array _ => zisA v
  | .long => zisL v
  | _ => false
def zix (l : List Value) (x : Int32) : Option Value := bif decide (x < 0) then none else zat l x.toNatClampNeg
/-- fields, arrays, new things, constants of the pool -/
def zmem (sc : List Value) (i : Nat) (ins : Instr) (pc : Nat) (st : List Value) (w : zW) : Option (Nat × List Value × zW × Nat × Nat) :=
  match ins with
  | .getfield idx => match st with
    | .ref (k + 1) :: r => match zat w.2 k with
      | some (.inr (.inr (c, fs))) => match zfd2 (zatL zF (zoc i)) idx c with
        | some q => match zat fs q.1 with
          | some v => some (pc + 3, v :: r, w, 0, 0)
          | none => none
        | none => none
      | _ => none
    | _ => none
  | .putfield idx => match st with
    | v :: .ref (k + 1) :: r => match zat w.2 k with
      | some (.inr (.inr (c, fs))) => match zfd2 (zatL zF (zoc i)) idx c with
        | some q => bif ((!q.2.1 || (q.2.2.1 && zini i)) && ztv (zty c q.1) v) then zset fs q.1 v fun fs' => zset w.2 k (.inr (.inr (c, fs'))) fun w' => some (pc + 3, r, (w.1, w'), 0, 0) else none
        | none => none
      | _ => none
    | _ => none
  | .iaload => match st with
    | .int x :: .ref a :: r => match a with
      | 0 => match zix sc x with
        | some v => bif zisI v then some (pc + 1, v :: r, w, 0, 0) else none
        | none => none
      | k + 1 => match zat w.2 k with
        | some (.inl l) => match zix l x with
          | some v => some (pc + 1, v :: r, w, 0, 0)
          | none => none
        | _ => none
    | _ => none
  | .iastore => match st with
    | v :: .int x :: .ref (k + 1) :: r => match zat w.2 k with
      | some (.inl l) => bif (zisI v && !decide (x < 0)) then zset l x.toNatClampNeg v fun l' => zset w.2 k (.inl l') fun w' => some (pc + 1, r, (w.1, w'), 0, 0) else none
      | _ => none
    | _ => none
  | .laload => match st with
    | .int x :: .ref (k + 1) :: r => match zat w.2 k with
      | some (.inr (.inl l)) => bif Nat.beq zAL 0 then none else match zix l x with
        | some v => some (pc + 1, v :: r, w, 0, 0)
        | none => none
      | _ => none
    | _ => none
  | .lastore => match st with
    | v :: .int x :: .ref (k + 1) :: r => match zat w.2 k with
      | some (.inr (.inl l)) => bif (!Nat.beq zAL 0 && zisL v && !decide (x < 0)) then zset l x.toNatClampNeg v fun l' => zset w.2 k (.inr (.inl l')) fun w' => some (pc + 1, r, (w.1, w'), 0, 0) else none
      | _ => none
    | _ => none
  | .arraylength => match st with
    | .ref a :: r => match a with
      | 0 => zfi (Int32.ofNat sc.length) fun z => some (pc + 1, .int z :: r, w, 0, 0)
      | k + 1 => match zat w.2 k with
        | some (.inl l) => zfi (Int32.ofNat l.length) fun z => some (pc + 1, .int z :: r, w, 0, 0)
        | some (.inr (.inl l)) => bif Nat.beq zAL 0 then none else zfi (Int32.ofNat l.length) fun z => some (pc + 1, .int z :: r, w, 0, 0)
        | _ => none
    | _ => none
  | .new idx => match zfd (zatL zNw (zoc i)) idx with
    | some q => bif w.1 then none else zfrc (w.2.length) fun n => zapp w.2 (.inr (.inr (q.1, zdf q.1))) fun w' => some (pc + 3, .ref (n + 1) :: st, (w.1, w'), 1, zcn q.1)
    | none => none
  | .newarray ty => match st with
    | .int x :: r => bif (w.1 || decide (x < 0) || decide (60000 < x)) then none else match ty with
      | .int => zfrc x.toNatClampNeg fun m => zrep m (.int 0) fun l => zfrc (w.2.length) fun n => zapp w.2 (.inl l) fun w' => some (pc + 2, .ref (n + 1) :: r, (w.1, w'), 1, m)
      | .long => bif Nat.beq zAL 0 then none else zfrc x.toNatClampNeg fun m => zrep m (.long 0) fun l => zfrc (w.2.length) fun n => zapp w.2 (.inr (.inl l)) fun w' => some (pc + 2, .ref (n + 1) :: r, (w.1, w'), 1, m)
      | _ => none
    | _ => none
  | .ldc2_w idx => match zfd (zatL zLg (zoc i)) idx with
    | some q => zfl q.1 fun z => some (pc + 3, .long z :: st, w, 0, 0)
    | none => none
  | .ldc idx => match zfd (zatL zIn (zoc i)) idx with
    | some q => zfi q.1 fun z => some (pc + 2, .int z :: st, w, 0, 0)
    | none => none
  | _ => none
def zpop : Nat → List Value → List Value → Option (List Value × List Value)
  | 0, st, acc => some (acc, st)
  | n + 1, v :: st, acc => zpop n st (v :: acc)
  | _ + 1, [], _ => none
def zkS (k : Nat) : Bool := Nat.beq k 2 || Nat.beq k 3 || Nat.beq k 7 || Nat.beq k 8 || Nat.beq k 9
def zkI (k : Nat) : Bool := Nat.beq k 4 || Nat.beq k 5 || Nat.beq k 6
def zkV (k : Nat) : Bool := Nat.beq k 0 || Nat.beq k 1
/-- a call: its kind, the method, the arguments, the rest of the stack -/
def zinv (i : Nat) (ins : Instr) (st : List Value) (w : zW) : Option (Nat × Nat × List Value × List Value) :=
  match ins with
  | .invokestatic idx => match zfd (zatL zN (zoc i)) idx with
    | some q => match zpop q.2 st [] with
      | some (as, rest) => match zfd2 (zatL zC (zoc i)) idx 0 with
        | some e => bif zkS e.1 then some (e.1, e.2.1, as, rest) else none
        | none => none
      | none => none
    | none => none
  | .invokespecial idx => match zfd (zatL zN (zoc i)) idx with
    | some q => match zpop q.2 st [] with
      | some (as, .ref (k + 1) :: rest) => match zfd2 (zatL zC (zoc i)) idx 0 with
        | some e => bif zkI e.1 then some (e.1, e.2.1, .ref (k + 1) :: as, rest) else none
        | none => none
      | _ => none
    | none => none
  | .invokevirtual idx => match zfd (zatL zN (zoc i)) idx with
    | some q => match zpop q.2 st [] with
      | some (as, .ref (k + 1) :: rest) => match zat w.2 k with
        | some (.inr (.inr (c, _))) => match zfd2 (zatL zC (zoc i)) idx c with
          | some e => bif zkV e.1 then some (e.1, e.2.1, .ref (k + 1) :: as, rest) else none
          | none => none
        | _ => none
      | _ => none
    | none => none
  | _ => none
def zret (ins : Instr) (rt : Option FieldType) (st : List Value) : Option (Option Value) :=
  match ins with
  | .ireturn => match st with
    | [v] => match rt with
      | some .int => bif zisI v then some (some v) else none
      | some .boolean => bif ztv .boolean v then some (some v) else none
      | _ => none
    | _ => none
  | .lreturn => match st with
    | [v] => match rt with
      | some .long => bif zisL v then some (some v) else none
      | _ => none
    | _ => none
  | .dreturn => match st with
    | [v] => match rt with
      | some .double => bif zisD v then some (some v) else none
      | _ => none
    | _ => none
  | .areturn => match st with
    | [v] => match rt with
      | some (.object _) => bif zisA v then some (some v) else none
      | some (.array _) => bif zisA v then some (some v) else none
      | _ => none
    | _ => none
  | .return_ => match st with
    | [] => match rt with
      | none => some none
      | _ => none
    | _ => none
  | _ => none
def zcpy (la lb : List Value) (sp dp n : Nat) : List Value := bif Nat.beq n 0 then lb else (List.range lb.length).map fun k => bif (decide (dp ≤ k) && decide (k < dp + n)) then la.getD (sp + (k - dp)) .null else lb.getD k .null
/-- System.arraycopy, of int arrays -/
def zcp (as : List Value) (w : zW) : Option zW := match as with
  | [.ref (a + 1), .int sp, .ref (b + 1), .int dp, .int n] => match zat w.2 a with
    | some (.inl la) => match zat w.2 b with
      | some (.inl lb) => bif (decide (sp < 0) || decide (dp < 0) || decide (n < 0) || !decide (sp.toNatClampNeg + n.toNatClampNeg ≤ la.length) || !decide (dp.toNatClampNeg + n.toNatClampNeg ≤ lb.length)) || !(la.all zisI) then none else zset w.2 b (.inl (zcpy la lb sp.toNatClampNeg dp.toNatClampNeg n.toNatClampNeg)) fun w' => some (w.1, w')
      | _ => none
    | _ => none
  | _ => none
/-- Math.max, Math.min -/
def zmx (b : Bool) (sy : zSz) (as : List Value) : Option Value := match as with
  | [x, y] => bif (zisI x && zisI y) then match (bif b then zlt (ziv sy x) (ziv sy y) else zlt (ziv sy y) (ziv sy x)) with
    | some true => some y
    | some false => some x
    | none => none
    else none
  | _ => none
def zsum (l : List Value) : Nat := match l with
  | [] => 0
  | v :: r => (bif zcat2 v then 2 else 1) + zsum r
/-- a throw of this method at this place -/
def zthr (i pc : Nat) : Option String := match zfd2 zTh i pc with
  | some q => some q.1
  | none => none
/-- where an exception goes on: behind the store of the handler, and the local that it was stored in -/
def zhnd (i pc : Nat) (E : String) : Option (Nat × Nat) := match zfd zHd i with
  | some q => bif (decide (q.1 ≤ pc) && decide (pc < q.2.1) && decide (q.2.2.2.2.1 = E)) then match zfd (zil i) q.2.2.1 with
    | some (.astore k) => some (q.2.2.1 + 2, k)
    | some (.astore_n k) => some (q.2.2.1 + 1, (k : Nat))
    | _ => none
    else none
  | none => none
def zhas (i : Nat) : Bool := (zmt i).2.2.2.2.1.isSome
def zloop (sc : List Value) (sy : zSz) (call : Nat → List Value → zW → Option zR) : Nat → Nat → Nat → List Value → List Value → zW → Nat → Nat → Option zR
  | 0, _, _, _, _, _, _, _ => none
  | n + 1, i, pc0, lv, st, w, c, s => zfrc pc0 fun pc =>
    match zfd (zil i) pc with
    | none => none
    | some ins =>
      match zret ins (zrt i) st with
      | some ov => some (.inl ov, w, c, s)
      | none =>
        match zps sy ins pc lv st with
        | some q => zloop sc sy call n i q.1 q.2.1 q.2.2 w c s
        | none =>
          match zmem sc i ins pc st w with
          | some q => zfrc (c + q.2.2.2.1) fun c' => zfrc (s + q.2.2.2.2) fun s' => zloop sc sy call n i q.1 lv q.2.1 q.2.2.1 c' s'
          | none =>
            match zinv i ins st w with
            | some q =>
              bif decide (8 < zsum q.2.2.2) then none else
              match q.1 with
              | 6 => zloop sc sy call n i (pc + 3) lv q.2.2.2 w c s
              | 8 => match zmx true sy q.2.2.1 with
                | some v => zloop sc sy call n i (pc + 3) lv (v :: q.2.2.2) w c s
                | none => none
              | 9 => match zmx false sy q.2.2.1 with
                | some v => zloop sc sy call n i (pc + 3) lv (v :: q.2.2.2) w c s
                | none => none
              | 7 => match zcp q.2.2.1 w with
                | some w' => zloop sc sy call n i (pc + 3) lv q.2.2.2 w' c s
                | none => none
              | _ => match call q.2.1 q.2.2.1 w with
                | none => none
                | some (.inl ov, w', dc, ds) => zfrc (c + dc) fun c' => zfrc (s + ds) fun s' => zloop sc sy call n i (pc + 3) lv (ov.toList ++ q.2.2.2) w' c' s'
                | some (.inr E, w', dc, ds) => match zhnd i pc E with
                  | some h => zst1 lv h.2 zmk fun lv' => zfrc (c + dc) fun c' => zfrc (s + ds) fun s' => zloop sc sy call n i h.1 lv' [] w' c' s'
                  | none => bif zhas i then none else some (.inr E, w', c + dc, s + ds)
            | none =>
              match zthr i pc with
              | some E => match st with
                | [] => bif zhas i then none else some (.inr E, (true, w.2), c + 1, s + 6)
                | _ :: _ => none
              | none => none
/-- the locals at a method's start -/
def zarg : List Value → List Value
  | [] => []
  | v :: r => bif zcat2 v then v :: zmk :: zarg r else v :: zarg r
def zent (n : Nat) (as : List Value) : List Value := zarg as ++ List.replicate (n - (zarg as).length) zmk
def zcall (sc : List Value) (sy : zSz) (N : Nat) : Nat → Nat → List Value → zW → Option zR
  | 0, _, _, _ => none
  | d + 1, j, as, w => bif (decide ((zarg as).length ≤ zml j) && decide (j < zLaw)) then zloop sc sy (zcall sc sy N d) N j 0 (zent (zml j) as) [] w 0 0 else none
