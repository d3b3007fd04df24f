-- ===== PART A: goes FIRST, ahead of the names: the tables' words, and 'selects' of the private methods out of them =====
/-- a private method of a class that the tables say can be made, by its rows of tables_1 -/
def lw_okq (q : MethodName × Nat) : Prop := (q.1.cls ≠ "java/lang/invoke/MethodHandle" ∧ q.1.cls ≠ "java/lang/invoke/VarHandle") ∧ Cond.instantiable q.1.cls q.2 ∈ tables_1 ∧ Cond.privateMethod q.1 ∈ tables_1 ∧ Cond.instanceMethod q.1 ∈ tables_1
theorem lw_p0 : lw_okq (⟨"HeapwrightLab", "present", "()LHeapwrightLab$Memory;"⟩, 8) := ⟨⟨by decide +kernel, by decide +kernel⟩, List.mem_of_getElem? (i := 21) (by decide +kernel), List.mem_of_getElem? (i := 243) (by decide +kernel), List.mem_of_getElem? (i := 244) (by decide +kernel)⟩
theorem lw_p1 : lw_okq (⟨"HeapwrightLab", "memoryOf", "(I)LHeapwrightLab$Memory;"⟩, 8) := ⟨⟨by decide +kernel, by decide +kernel⟩, List.mem_of_getElem? (i := 21) (by decide +kernel), List.mem_of_getElem? (i := 247) (by decide +kernel), List.mem_of_getElem? (i := 248) (by decide +kernel)⟩
theorem lw_p2 : lw_okq (⟨"HeapwrightLab$Fits", "searchRound", "(II)I"⟩, 13) := ⟨⟨by decide +kernel, by decide +kernel⟩, List.mem_of_getElem? (i := 49) (by decide +kernel), List.mem_of_getElem? (i := 419) (by decide +kernel), List.mem_of_getElem? (i := 420) (by decide +kernel)⟩
theorem lw_p3 : lw_okq (⟨"HeapwrightLab$Slabs", "pagesOf", "(II)I"⟩, 14) := ⟨⟨by decide +kernel, by decide +kernel⟩, List.mem_of_getElem? (i := 187) (by decide +kernel), List.mem_of_getElem? (i := 448) (by decide +kernel), List.mem_of_getElem? (i := 449) (by decide +kernel)⟩
theorem lw_p4 : lw_okq (⟨"HeapwrightLab$Trace", "isDeed", "(I)Z"⟩, 4) := ⟨⟨by decide +kernel, by decide +kernel⟩, List.mem_of_getElem? (i := 29) (by decide +kernel), List.mem_of_getElem? (i := 474) (by decide +kernel), List.mem_of_getElem? (i := 475) (by decide +kernel)⟩
theorem lw_p5 : lw_okq (⟨"HeapwrightLab$Blocks", "indexOf", "(I)I"⟩, 6) := ⟨⟨by decide +kernel, by decide +kernel⟩, List.mem_of_getElem? (i := 58) (by decide +kernel), List.mem_of_getElem? (i := 605) (by decide +kernel), List.mem_of_getElem? (i := 606) (by decide +kernel)⟩
theorem lw_p6 : lw_okq (⟨"java/lang/Throwable", "fillInStackTrace", "(I)Ljava/lang/Throwable;"⟩, 6) := ⟨⟨by decide +kernel, by decide +kernel⟩, List.mem_of_getElem? (i := 765) (by decide +kernel), List.mem_of_getElem? (i := 763) (by decide +kernel), List.mem_of_getElem? (i := 764) (by decide +kernel)⟩
theorem lw_p7 : lw_okq (⟨"HeapwrightLab", "requireFreeDeed", "()V"⟩, 8) := ⟨⟨by decide +kernel, by decide +kernel⟩, List.mem_of_getElem? (i := 21) (by decide +kernel), List.mem_of_getElem? (i := 842) (by decide +kernel), List.mem_of_getElem? (i := 843) (by decide +kernel)⟩
theorem lw_p8 : lw_okq (⟨"HeapwrightLab", "requireName", "(I)V"⟩, 8) := ⟨⟨by decide +kernel, by decide +kernel⟩, List.mem_of_getElem? (i := 21) (by decide +kernel), List.mem_of_getElem? (i := 859) (by decide +kernel), List.mem_of_getElem? (i := 860) (by decide +kernel)⟩
theorem lw_p9 : lw_okq (⟨"HeapwrightLab", "requireThere", "(I)V"⟩, 8) := ⟨⟨by decide +kernel, by decide +kernel⟩, List.mem_of_getElem? (i := 21) (by decide +kernel), List.mem_of_getElem? (i := 879) (by decide +kernel), List.mem_of_getElem? (i := 880) (by decide +kernel)⟩
theorem lw_p10 : lw_okq (⟨"HeapwrightLab", "requireHole", "(I)V"⟩, 8) := ⟨⟨by decide +kernel, by decide +kernel⟩, List.mem_of_getElem? (i := 21) (by decide +kernel), List.mem_of_getElem? (i := 964) (by decide +kernel), List.mem_of_getElem? (i := 965) (by decide +kernel)⟩
theorem lw_p11 : lw_okq (⟨"HeapwrightLabModel", "no", "(I)I"⟩, 4) := ⟨⟨by decide +kernel, by decide +kernel⟩, List.mem_of_getElem? (i := 1021) (by decide +kernel), List.mem_of_getElem? (i := 1123) (by decide +kernel), List.mem_of_getElem? (i := 1124) (by decide +kernel)⟩
theorem lw_p12 : lw_okq (⟨"HeapwrightLabModel", "done", "(III)I"⟩, 4) := ⟨⟨by decide +kernel, by decide +kernel⟩, List.mem_of_getElem? (i := 1021) (by decide +kernel), List.mem_of_getElem? (i := 1134) (by decide +kernel), List.mem_of_getElem? (i := 1135) (by decide +kernel)⟩
theorem lw_p13 : lw_okq (⟨"HeapwrightLabModel$Memory", "findHalves", "(II)V"⟩, 17) := ⟨⟨by decide +kernel, by decide +kernel⟩, List.mem_of_getElem? (i := 1027) (by decide +kernel), List.mem_of_getElem? (i := 1166) (by decide +kernel), List.mem_of_getElem? (i := 1167) (by decide +kernel)⟩
theorem lw_p14 : lw_okq (⟨"HeapwrightLabModel$Memory", "nextBlock", "(I)I"⟩, 17) := ⟨⟨by decide +kernel, by decide +kernel⟩, List.mem_of_getElem? (i := 1027) (by decide +kernel), List.mem_of_getElem? (i := 1170) (by decide +kernel), List.mem_of_getElem? (i := 1171) (by decide +kernel)⟩
theorem lw_p15 : lw_okq (⟨"HeapwrightLabModel$Memory", "addHole", "(II)V"⟩, 17) := ⟨⟨by decide +kernel, by decide +kernel⟩, List.mem_of_getElem? (i := 1027) (by decide +kernel), List.mem_of_getElem? (i := 1174) (by decide +kernel), List.mem_of_getElem? (i := 1175) (by decide +kernel)⟩
def lw_privs_1 : List (MethodName × Nat) := [(⟨"HeapwrightLab", "present", "()LHeapwrightLab$Memory;"⟩, 8), (⟨"HeapwrightLab", "memoryOf", "(I)LHeapwrightLab$Memory;"⟩, 8), (⟨"HeapwrightLab$Fits", "searchRound", "(II)I"⟩, 13), (⟨"HeapwrightLab$Slabs", "pagesOf", "(II)I"⟩, 14), (⟨"HeapwrightLab$Trace", "isDeed", "(I)Z"⟩, 4), (⟨"HeapwrightLab$Blocks", "indexOf", "(I)I"⟩, 6), (⟨"java/lang/Throwable", "fillInStackTrace", "(I)Ljava/lang/Throwable;"⟩, 6), (⟨"HeapwrightLab", "requireFreeDeed", "()V"⟩, 8), (⟨"HeapwrightLab", "requireName", "(I)V"⟩, 8), (⟨"HeapwrightLab", "requireThere", "(I)V"⟩, 8), (⟨"HeapwrightLab", "requireHole", "(I)V"⟩, 8), (⟨"HeapwrightLabModel", "no", "(I)I"⟩, 4), (⟨"HeapwrightLabModel", "done", "(III)I"⟩, 4), (⟨"HeapwrightLabModel$Memory", "findHalves", "(II)V"⟩, 17), (⟨"HeapwrightLabModel$Memory", "nextBlock", "(I)I"⟩, 17), (⟨"HeapwrightLabModel$Memory", "addHole", "(II)V"⟩, 17)]
theorem lw_r1 : ∀ q ∈ lw_privs_1, lw_okq q := List.forall_mem_cons.mpr ⟨lw_p0, List.forall_mem_cons.mpr ⟨lw_p1, List.forall_mem_cons.mpr ⟨lw_p2, List.forall_mem_cons.mpr ⟨lw_p3, List.forall_mem_cons.mpr ⟨lw_p4, List.forall_mem_cons.mpr ⟨lw_p5, List.forall_mem_cons.mpr ⟨lw_p6, List.forall_mem_cons.mpr ⟨lw_p7, List.forall_mem_cons.mpr ⟨lw_p8, List.forall_mem_cons.mpr ⟨lw_p9, List.forall_mem_cons.mpr ⟨lw_p10, List.forall_mem_cons.mpr ⟨lw_p11, List.forall_mem_cons.mpr ⟨lw_p12, List.forall_mem_cons.mpr ⟨lw_p13, List.forall_mem_cons.mpr ⟨lw_p14, List.forall_mem_cons.mpr ⟨lw_p15, fun _ h => absurd h List.not_mem_nil⟩⟩⟩⟩⟩⟩⟩⟩⟩⟩⟩⟩⟩⟩⟩⟩
theorem lw_p16 : lw_okq (⟨"HeapwrightLabModel$Memory", "findSlots", "()V"⟩, 17) := ⟨⟨by decide +kernel, by decide +kernel⟩, List.mem_of_getElem? (i := 1027) (by decide +kernel), List.mem_of_getElem? (i := 1178) (by decide +kernel), List.mem_of_getElem? (i := 1179) (by decide +kernel)⟩
theorem lw_p17 : lw_okq (⟨"HeapwrightLabModel$Memory", "isFree", "(I)Z"⟩, 17) := ⟨⟨by decide +kernel, by decide +kernel⟩, List.mem_of_getElem? (i := 1027) (by decide +kernel), List.mem_of_getElem? (i := 1186) (by decide +kernel), List.mem_of_getElem? (i := 1187) (by decide +kernel)⟩
theorem lw_p18 : lw_okq (⟨"HeapwrightLabModel$Memory", "takeSlot", "(I)I"⟩, 17) := ⟨⟨by decide +kernel, by decide +kernel⟩, List.mem_of_getElem? (i := 1027) (by decide +kernel), List.mem_of_getElem? (i := 1190) (by decide +kernel), List.mem_of_getElem? (i := 1191) (by decide +kernel)⟩
theorem lw_p19 : lw_okq (⟨"HeapwrightLabModel$Memory", "unitsAt", "(IZ)I"⟩, 17) := ⟨⟨by decide +kernel, by decide +kernel⟩, List.mem_of_getElem? (i := 1027) (by decide +kernel), List.mem_of_getElem? (i := 1202) (by decide +kernel), List.mem_of_getElem? (i := 1203) (by decide +kernel)⟩
theorem lw_p20 : lw_okq (⟨"HeapwrightLabModel$Memory", "shift", "(III)V"⟩, 17) := ⟨⟨by decide +kernel, by decide +kernel⟩, List.mem_of_getElem? (i := 1027) (by decide +kernel), List.mem_of_getElem? (i := 1211) (by decide +kernel), List.mem_of_getElem? (i := 1212) (by decide +kernel)⟩
theorem lw_p21 : lw_okq (⟨"HeapwrightLabModel", "isName", "(I)Z"⟩, 4) := ⟨⟨by decide +kernel, by decide +kernel⟩, List.mem_of_getElem? (i := 1021) (by decide +kernel), List.mem_of_getElem? (i := 1233) (by decide +kernel), List.mem_of_getElem? (i := 1234) (by decide +kernel)⟩
theorem lw_p22 : lw_okq (⟨"HeapwrightLabModel", "ok", "(I)I"⟩, 4) := ⟨⟨by decide +kernel, by decide +kernel⟩, List.mem_of_getElem? (i := 1021) (by decide +kernel), List.mem_of_getElem? (i := 1258) (by decide +kernel), List.mem_of_getElem? (i := 1259) (by decide +kernel)⟩
theorem lw_p23 : lw_okq (⟨"HeapwrightLabModel", "ofName", "(I[I)I"⟩, 4) := ⟨⟨by decide +kernel, by decide +kernel⟩, List.mem_of_getElem? (i := 1021) (by decide +kernel), List.mem_of_getElem? (i := 1282) (by decide +kernel), List.mem_of_getElem? (i := 1283) (by decide +kernel)⟩
theorem lw_p24 : lw_okq (⟨"HeapwrightLabModel", "blocksNow", "()I"⟩, 4) := ⟨⟨by decide +kernel, by decide +kernel⟩, List.mem_of_getElem? (i := 1021) (by decide +kernel), List.mem_of_getElem? (i := 1306) (by decide +kernel), List.mem_of_getElem? (i := 1307) (by decide +kernel)⟩
theorem lw_p25 : lw_okq (⟨"HeapwrightLabModel", "pageNow", "(I)I"⟩, 4) := ⟨⟨by decide +kernel, by decide +kernel⟩, List.mem_of_getElem? (i := 1021) (by decide +kernel), List.mem_of_getElem? (i := 1330) (by decide +kernel), List.mem_of_getElem? (i := 1331) (by decide +kernel)⟩
theorem lw_p26 : lw_okq (⟨"HeapwrightLabModel", "wastedNow", "()I"⟩, 4) := ⟨⟨by decide +kernel, by decide +kernel⟩, List.mem_of_getElem? (i := 1021) (by decide +kernel), List.mem_of_getElem? (i := 1349) (by decide +kernel), List.mem_of_getElem? (i := 1350) (by decide +kernel)⟩
theorem lw_p27 : lw_okq (⟨"HeapwrightLabModel", "wouldNow", "(I)I"⟩, 4) := ⟨⟨by decide +kernel, by decide +kernel⟩, List.mem_of_getElem? (i := 1021) (by decide +kernel), List.mem_of_getElem? (i := 1377) (by decide +kernel), List.mem_of_getElem? (i := 1378) (by decide +kernel)⟩
theorem lw_p28 : lw_okq (⟨"HeapwrightLabModel", "redone", "(I)LHeapwrightLabModel$Memory;"⟩, 4) := ⟨⟨by decide +kernel, by decide +kernel⟩, List.mem_of_getElem? (i := 1021) (by decide +kernel), List.mem_of_getElem? (i := 1400) (by decide +kernel), List.mem_of_getElem? (i := 1401) (by decide +kernel)⟩
def lw_privs_2 : List (MethodName × Nat) := [(⟨"HeapwrightLabModel$Memory", "findSlots", "()V"⟩, 17), (⟨"HeapwrightLabModel$Memory", "isFree", "(I)Z"⟩, 17), (⟨"HeapwrightLabModel$Memory", "takeSlot", "(I)I"⟩, 17), (⟨"HeapwrightLabModel$Memory", "unitsAt", "(IZ)I"⟩, 17), (⟨"HeapwrightLabModel$Memory", "shift", "(III)V"⟩, 17), (⟨"HeapwrightLabModel", "isName", "(I)Z"⟩, 4), (⟨"HeapwrightLabModel", "ok", "(I)I"⟩, 4), (⟨"HeapwrightLabModel", "ofName", "(I[I)I"⟩, 4), (⟨"HeapwrightLabModel", "blocksNow", "()I"⟩, 4), (⟨"HeapwrightLabModel", "pageNow", "(I)I"⟩, 4), (⟨"HeapwrightLabModel", "wastedNow", "()I"⟩, 4), (⟨"HeapwrightLabModel", "wouldNow", "(I)I"⟩, 4), (⟨"HeapwrightLabModel", "redone", "(I)LHeapwrightLabModel$Memory;"⟩, 4)]
theorem lw_r2 : ∀ q ∈ lw_privs_2, lw_okq q := List.forall_mem_cons.mpr ⟨lw_p16, List.forall_mem_cons.mpr ⟨lw_p17, List.forall_mem_cons.mpr ⟨lw_p18, List.forall_mem_cons.mpr ⟨lw_p19, List.forall_mem_cons.mpr ⟨lw_p20, List.forall_mem_cons.mpr ⟨lw_p21, List.forall_mem_cons.mpr ⟨lw_p22, List.forall_mem_cons.mpr ⟨lw_p23, List.forall_mem_cons.mpr ⟨lw_p24, List.forall_mem_cons.mpr ⟨lw_p25, List.forall_mem_cons.mpr ⟨lw_p26, List.forall_mem_cons.mpr ⟨lw_p27, List.forall_mem_cons.mpr ⟨lw_p28, fun _ h => absurd h List.not_mem_nil⟩⟩⟩⟩⟩⟩⟩⟩⟩⟩⟩⟩⟩
def lw_privs : List (MethodName × Nat) := lw_privs_1 ++ (lw_privs_2)
def lw_tbl : List Cond := k2_sels lw_privs ++ tables_1
theorem lw_privs_ok : ∀ q ∈ lw_privs, lw_okq q := by
  show ∀ q ∈ lw_privs_1 ++ (lw_privs_2), lw_okq q
  exact List.forall_mem_append.mpr ⟨lw_r1, lw_r2⟩
/-- the streams that the claim lets the run draw from -/
abbrev lw_cs : List Choice := [Jvm.Choice.named "NaN.bits"]
theorem lw_bits : nanBits ∈ lw_cs := by first | decide | exact List.mem_cons_self | simp [lw_cs, nanBits]

def RX0 : String := "HeapwrightLab$Blocks"
def TX0 : u_T := fun k => match k with
  | 0 => ("HeapwrightLab$Blocks", "places", "[I", true)
  | 1 => ("HeapwrightLab$Blocks", "sizes", "[I", true)
  | 2 => ("HeapwrightLab$Blocks", "rooms", "[I", true)
  | 3 => ("HeapwrightLab$Blocks", "byPlace", "[I", true)
  | 4 => ("HeapwrightLab$Blocks", "count", "I", false)
  | _ => ("HeapwrightLab$Blocks", "roomsTogether", "I", false)
def tyX0 : Nat → FieldType := fun k => match k with
  | 0 => .array .int
  | 1 => .array .int
  | 2 => .array .int
  | 3 => .array .int
  | 4 => .int
  | _ => .int
theorem nmX0 : ∀ a, a < 6 → ∀ b, b < 6 → a ≠ b → (TX0 a).2.1 ≠ (TX0 b).2.1 := by decide +kernel
theorem tyX0_ok : ∀ k, k < 6 → parseFieldDescriptor (TX0 k).2.2.1 = some (tyX0 k) := by decide +kernel
def RX1 : String := "HeapwrightLab$Buddies"
def TX1 : u_T := fun k => match k with
  | 0 => ("HeapwrightLab$Memory", "blocks", "LHeapwrightLab$Blocks;", true)
  | 1 => ("HeapwrightLab$Memory", "holes", "LHeapwrightLab$Holes;", true)
  | 2 => ("HeapwrightLab$Memory", "way", "I", true)
  | 3 => ("HeapwrightLab$Memory", "step", "I", false)
  | 4 => ("HeapwrightLab$Memory", "head", "I", false)
  | 5 => ("HeapwrightLab$Memory", "hand", "I", false)
  | 6 => ("HeapwrightLab$Memory", "seen", "I", false)
  | 7 => ("HeapwrightLab$Memory", "counts", "[I", true)
  | 8 => ("HeapwrightLab$Memory", "depths", "[I", true)
  | 9 => ("HeapwrightLab$Memory", "names", "I", false)
  | 10 => ("HeapwrightLab$Memory", "arenas", "I", false)
  | 11 => ("HeapwrightLab$Memory", "peak", "I", false)
  | _ => ("HeapwrightLab$Memory", "done", "I", false)
def tyX1 : Nat → FieldType := fun k => match k with
  | 0 => .object "HeapwrightLab$Blocks"
  | 1 => .object "HeapwrightLab$Holes"
  | 2 => .int
  | 3 => .int
  | 4 => .int
  | 5 => .int
  | 6 => .int
  | 7 => .array .int
  | 8 => .array .int
  | 9 => .int
  | 10 => .int
  | 11 => .int
  | _ => .int
theorem nmX1 : ∀ a, a < 13 → ∀ b, b < 13 → a ≠ b → (TX1 a).2.1 ≠ (TX1 b).2.1 := by decide +kernel
theorem tyX1_ok : ∀ k, k < 13 → parseFieldDescriptor (TX1 k).2.2.1 = some (tyX1 k) := by decide +kernel
def RX2 : String := "HeapwrightLab$Fits"
def TX2 : u_T := fun k => match k with
  | 0 => ("HeapwrightLab$Memory", "blocks", "LHeapwrightLab$Blocks;", true)
  | 1 => ("HeapwrightLab$Memory", "holes", "LHeapwrightLab$Holes;", true)
  | 2 => ("HeapwrightLab$Memory", "way", "I", true)
  | 3 => ("HeapwrightLab$Memory", "step", "I", false)
  | 4 => ("HeapwrightLab$Memory", "head", "I", false)
  | 5 => ("HeapwrightLab$Memory", "hand", "I", false)
  | 6 => ("HeapwrightLab$Memory", "seen", "I", false)
  | 7 => ("HeapwrightLab$Memory", "counts", "[I", true)
  | 8 => ("HeapwrightLab$Memory", "depths", "[I", true)
  | 9 => ("HeapwrightLab$Memory", "names", "I", false)
  | 10 => ("HeapwrightLab$Memory", "arenas", "I", false)
  | 11 => ("HeapwrightLab$Memory", "peak", "I", false)
  | _ => ("HeapwrightLab$Memory", "done", "I", false)
def tyX2 : Nat → FieldType := fun k => match k with
  | 0 => .object "HeapwrightLab$Blocks"
  | 1 => .object "HeapwrightLab$Holes"
  | 2 => .int
  | 3 => .int
  | 4 => .int
  | 5 => .int
  | 6 => .int
  | 7 => .array .int
  | 8 => .array .int
  | 9 => .int
  | 10 => .int
  | 11 => .int
  | _ => .int
theorem nmX2 : ∀ a, a < 13 → ∀ b, b < 13 → a ≠ b → (TX2 a).2.1 ≠ (TX2 b).2.1 := by decide +kernel
theorem tyX2_ok : ∀ k, k < 13 → parseFieldDescriptor (TX2 k).2.2.1 = some (tyX2 k) := by decide +kernel
def RX3 : String := "HeapwrightLab$Holes"
def TX3 : u_T := fun k => match k with
  | 0 => ("HeapwrightLab$Holes", "places", "[I", true)
  | 1 => ("HeapwrightLab$Holes", "sizes", "[I", true)
  | _ => ("HeapwrightLab$Holes", "count", "I", false)
def tyX3 : Nat → FieldType := fun k => match k with
  | 0 => .array .int
  | 1 => .array .int
  | _ => .int
theorem nmX3 : ∀ a, a < 3 → ∀ b, b < 3 → a ≠ b → (TX3 a).2.1 ≠ (TX3 b).2.1 := by decide +kernel
theorem tyX3_ok : ∀ k, k < 3 → parseFieldDescriptor (TX3 k).2.2.1 = some (tyX3 k) := by decide +kernel
def RX4 : String := "HeapwrightLab$Memory"
def TX4 : u_T := fun k => match k with
  | _ => ("", "", "", false)
def tyX4 : Nat → FieldType := fun k => match k with
  | _ => .int
theorem nmX4 : ∀ a, a < 0 → ∀ b, b < 0 → a ≠ b → (TX4 a).2.1 ≠ (TX4 b).2.1 := by decide +kernel
theorem tyX4_ok : ∀ k, k < 0 → parseFieldDescriptor (TX4 k).2.2.1 = some (tyX4 k) := by decide +kernel
def RX5 : String := "HeapwrightLab$Slabs"
def TX5 : u_T := fun k => match k with
  | 0 => ("HeapwrightLab$Memory", "blocks", "LHeapwrightLab$Blocks;", true)
  | 1 => ("HeapwrightLab$Memory", "holes", "LHeapwrightLab$Holes;", true)
  | 2 => ("HeapwrightLab$Memory", "way", "I", true)
  | 3 => ("HeapwrightLab$Memory", "step", "I", false)
  | 4 => ("HeapwrightLab$Memory", "head", "I", false)
  | 5 => ("HeapwrightLab$Memory", "hand", "I", false)
  | 6 => ("HeapwrightLab$Memory", "seen", "I", false)
  | 7 => ("HeapwrightLab$Memory", "counts", "[I", true)
  | 8 => ("HeapwrightLab$Memory", "depths", "[I", true)
  | 9 => ("HeapwrightLab$Memory", "names", "I", false)
  | 10 => ("HeapwrightLab$Memory", "arenas", "I", false)
  | 11 => ("HeapwrightLab$Memory", "peak", "I", false)
  | 12 => ("HeapwrightLab$Memory", "done", "I", false)
  | _ => ("HeapwrightLab$Slabs", "pages", "[I", true)
def tyX5 : Nat → FieldType := fun k => match k with
  | 0 => .object "HeapwrightLab$Blocks"
  | 1 => .object "HeapwrightLab$Holes"
  | 2 => .int
  | 3 => .int
  | 4 => .int
  | 5 => .int
  | 6 => .int
  | 7 => .array .int
  | 8 => .array .int
  | 9 => .int
  | 10 => .int
  | 11 => .int
  | 12 => .int
  | _ => .array .int
theorem nmX5 : ∀ a, a < 14 → ∀ b, b < 14 → a ≠ b → (TX5 a).2.1 ≠ (TX5 b).2.1 := by decide +kernel
theorem tyX5_ok : ∀ k, k < 14 → parseFieldDescriptor (TX5 k).2.2.1 = some (tyX5 k) := by decide +kernel
def RX6 : String := "HeapwrightLab$Trace"
def TX6 : u_T := fun k => match k with
  | 0 => ("HeapwrightLab$Trace", "kinds", "[I", true)
  | 1 => ("HeapwrightLab$Trace", "names", "[I", true)
  | 2 => ("HeapwrightLab$Trace", "sizes", "[I", true)
  | _ => ("HeapwrightLab$Trace", "length", "I", false)
def tyX6 : Nat → FieldType := fun k => match k with
  | 0 => .array .int
  | 1 => .array .int
  | 2 => .array .int
  | _ => .int
theorem nmX6 : ∀ a, a < 4 → ∀ b, b < 4 → a ≠ b → (TX6 a).2.1 ≠ (TX6 b).2.1 := by decide +kernel
theorem tyX6_ok : ∀ k, k < 4 → parseFieldDescriptor (TX6 k).2.2.1 = some (tyX6 k) := by decide +kernel
def RX7 : String := "HeapwrightLab"
def TX7 : u_T := fun k => match k with
  | 0 => ("HeapwrightLab", "trace", "LHeapwrightLab$Trace;", true)
  | 1 => ("HeapwrightLab", "first", "LHeapwrightLab$Fits;", true)
  | 2 => ("HeapwrightLab", "next", "LHeapwrightLab$Fits;", true)
  | 3 => ("HeapwrightLab", "best", "LHeapwrightLab$Fits;", true)
  | 4 => ("HeapwrightLab", "worst", "LHeapwrightLab$Fits;", true)
  | 5 => ("HeapwrightLab", "buddies", "LHeapwrightLab$Buddies;", true)
  | 6 => ("HeapwrightLab", "slabs", "LHeapwrightLab$Slabs;", true)
  | _ => ("HeapwrightLab", "way", "I", false)
def tyX7 : Nat → FieldType := fun k => match k with
  | 0 => .object "HeapwrightLab$Trace"
  | 1 => .object "HeapwrightLab$Fits"
  | 2 => .object "HeapwrightLab$Fits"
  | 3 => .object "HeapwrightLab$Fits"
  | 4 => .object "HeapwrightLab$Fits"
  | 5 => .object "HeapwrightLab$Buddies"
  | 6 => .object "HeapwrightLab$Slabs"
  | _ => .int
theorem nmX7 : ∀ a, a < 8 → ∀ b, b < 8 → a ≠ b → (TX7 a).2.1 ≠ (TX7 b).2.1 := by decide +kernel
theorem tyX7_ok : ∀ k, k < 8 → parseFieldDescriptor (TX7 k).2.2.1 = some (tyX7 k) := by decide +kernel
def RX8 : String := "HeapwrightLabModel$Memory"
def TX8 : u_T := fun k => match k with
  | 0 => ("HeapwrightLabModel$Memory", "way", "I", true)
  | 1 => ("HeapwrightLabModel$Memory", "step", "I", true)
  | 2 => ("HeapwrightLabModel$Memory", "head", "I", true)
  | 3 => ("HeapwrightLabModel$Memory", "names", "I", false)
  | 4 => ("HeapwrightLabModel$Memory", "place", "[I", true)
  | 5 => ("HeapwrightLabModel$Memory", "size", "[I", true)
  | 6 => ("HeapwrightLabModel$Memory", "room", "[I", true)
  | 7 => ("HeapwrightLabModel$Memory", "arena", "[I", true)
  | 8 => ("HeapwrightLabModel$Memory", "arenas", "I", false)
  | 9 => ("HeapwrightLabModel$Memory", "hand", "I", false)
  | 10 => ("HeapwrightLabModel$Memory", "counted", "[I", true)
  | 11 => ("HeapwrightLabModel$Memory", "peak", "I", false)
  | 12 => ("HeapwrightLabModel$Memory", "holes", "I", false)
  | 13 => ("HeapwrightLabModel$Memory", "holePlace", "[I", true)
  | 14 => ("HeapwrightLabModel$Memory", "holeSize", "[I", true)
  | 15 => ("HeapwrightLabModel$Memory", "many", "I", false)
  | _ => ("HeapwrightLabModel$Memory", "row", "[I", true)
def tyX8 : Nat → FieldType := fun k => match k with
  | 0 => .int
  | 1 => .int
  | 2 => .int
  | 3 => .int
  | 4 => .array .int
  | 5 => .array .int
  | 6 => .array .int
  | 7 => .array .int
  | 8 => .int
  | 9 => .int
  | 10 => .array .int
  | 11 => .int
  | 12 => .int
  | 13 => .array .int
  | 14 => .array .int
  | 15 => .int
  | _ => .array .int
theorem nmX8 : ∀ a, a < 17 → ∀ b, b < 17 → a ≠ b → (TX8 a).2.1 ≠ (TX8 b).2.1 := by decide +kernel
theorem tyX8_ok : ∀ k, k < 17 → parseFieldDescriptor (TX8 k).2.2.1 = some (tyX8 k) := by decide +kernel
def RX9 : String := "HeapwrightLabModel"
def TX9 : u_T := fun k => match k with
  | 0 => ("HeapwrightLabModel", "thrown", "I", false)
  | 1 => ("HeapwrightLabModel", "w", "LHeapwrightLabModel$Memory;", false)
  | 2 => ("HeapwrightLabModel", "deeds", "I", false)
  | _ => ("HeapwrightLabModel", "trace", "[I", true)
def tyX9 : Nat → FieldType := fun k => match k with
  | 0 => .int
  | 1 => .object "HeapwrightLabModel$Memory"
  | 2 => .int
  | _ => .array .int
theorem nmX9 : ∀ a, a < 4 → ∀ b, b < 4 → a ≠ b → (TX9 a).2.1 ≠ (TX9 b).2.1 := by decide +kernel
theorem tyX9_ok : ∀ k, k < 4 → parseFieldDescriptor (TX9 k).2.2.1 = some (tyX9 k) := by decide +kernel
def RJx145de : String := "java/io/Serializable"
def TJx145de : u_T := fun k => match k with
  | _ => ("", "", "", false)
def tyJx145de : Nat → FieldType := fun k => match k with
  | _ => .int
theorem nmJx145de : ∀ a, a < 0 → ∀ b, b < 0 → a ≠ b → (TJx145de a).2.1 ≠ (TJx145de b).2.1 := by decide +kernel
theorem tyJx145de_ok : ∀ k, k < 0 → parseFieldDescriptor (TJx145de k).2.2.1 = some (tyJx145de k) := by decide +kernel
def RJ9 : String := "java/lang/Math"
def TJ9 : u_T := fun k => match k with
  | _ => ("", "", "", false)
def tyJ9 : Nat → FieldType := fun k => match k with
  | _ => .int
theorem nmJ9 : ∀ a, a < 0 → ∀ b, b < 0 → a ≠ b → (TJ9 a).2.1 ≠ (TJ9 b).2.1 := by decide +kernel
theorem tyJ9_ok : ∀ k, k < 0 → parseFieldDescriptor (TJ9 k).2.2.1 = some (tyJ9 k) := by decide +kernel
def RJ0 : String := "java/lang/String"
def TJ0 : u_T := fun k => match k with
  | _ => ("", "", "", false)
def tyJ0 : Nat → FieldType := fun k => match k with
  | _ => .int
theorem nmJ0 : ∀ a, a < 0 → ∀ b, b < 0 → a ≠ b → (TJ0 a).2.1 ≠ (TJ0 b).2.1 := by decide +kernel
theorem tyJ0_ok : ∀ k, k < 0 → parseFieldDescriptor (TJ0 k).2.2.1 = some (tyJ0 k) := by decide +kernel
def RJ10 : String := "java/lang/System"
def TJ10 : u_T := fun k => match k with
  | _ => ("", "", "", false)
def tyJ10 : Nat → FieldType := fun k => match k with
  | _ => .int
theorem nmJ10 : ∀ a, a < 0 → ∀ b, b < 0 → a ≠ b → (TJ10 a).2.1 ≠ (TJ10 b).2.1 := by decide +kernel
theorem tyJ10_ok : ∀ k, k < 0 → parseFieldDescriptor (TJ10 k).2.2.1 = some (tyJ10 k) := by decide +kernel
def RJ7 : String := "java/util/Arrays"
def TJ7 : u_T := fun k => match k with
  | _ => ("", "", "", false)
def tyJ7 : Nat → FieldType := fun k => match k with
  | _ => .int
theorem nmJ7 : ∀ a, a < 0 → ∀ b, b < 0 → a ≠ b → (TJ7 a).2.1 ≠ (TJ7 b).2.1 := by decide +kernel
theorem tyJ7_ok : ∀ k, k < 0 → parseFieldDescriptor (TJ7 k).2.2.1 = some (tyJ7 k) := by decide +kernel
def RL : String := "HeapwrightLabLaw"
