-- ===== PART A: goes FIRST, ahead of the names: the tables' words, and 'selects' of the private methods out of them =====
/-- a private method of a class that the tables say can be made, by its rows of tables_1 -/
def lw_okq (q : MethodName × Nat) : Prop := (q.1.cls ≠ "java/lang/invoke/MethodHandle" ∧ q.1.cls ≠ "java/lang/invoke/VarHandle") ∧ Cond.instantiable q.1.cls q.2 ∈ tables_1 ∧ Cond.privateMethod q.1 ∈ tables_1 ∧ Cond.instanceMethod q.1 ∈ tables_1
theorem lw_p0 : lw_okq (⟨"HeapwrightLab", "present", "()LHeapwrightLab$Memory;"⟩, 8) := ⟨⟨by decide +kernel, by decide +kernel⟩, List.mem_of_getElem? (i := 26) (by decide +kernel), List.mem_of_getElem? (i := 24) (by decide +kernel), List.mem_of_getElem? (i := 25) (by decide +kernel)⟩
theorem lw_p1 : lw_okq (⟨"HeapwrightLab", "memoryOf", "(I)LHeapwrightLab$Memory;"⟩, 8) := ⟨⟨by decide +kernel, by decide +kernel⟩, List.mem_of_getElem? (i := 26) (by decide +kernel), List.mem_of_getElem? (i := 29) (by decide +kernel), List.mem_of_getElem? (i := 30) (by decide +kernel)⟩
theorem lw_p2 : lw_okq (⟨"HeapwrightLab", "requireName", "(I)V"⟩, 8) := ⟨⟨by decide +kernel, by decide +kernel⟩, List.mem_of_getElem? (i := 26) (by decide +kernel), List.mem_of_getElem? (i := 44) (by decide +kernel), List.mem_of_getElem? (i := 45) (by decide +kernel)⟩
theorem lw_p3 : lw_okq (⟨"java/lang/Throwable", "fillInStackTrace", "(I)Ljava/lang/Throwable;"⟩, 6) := ⟨⟨by decide +kernel, by decide +kernel⟩, List.mem_of_getElem? (i := 88) (by decide +kernel), List.mem_of_getElem? (i := 86) (by decide +kernel), List.mem_of_getElem? (i := 87) (by decide +kernel)⟩
theorem lw_p4 : lw_okq (⟨"HeapwrightLab", "requireHole", "(I)V"⟩, 8) := ⟨⟨by decide +kernel, by decide +kernel⟩, List.mem_of_getElem? (i := 26) (by decide +kernel), List.mem_of_getElem? (i := 195) (by decide +kernel), List.mem_of_getElem? (i := 196) (by decide +kernel)⟩
theorem lw_p5 : lw_okq (⟨"HeapwrightLab$Fits", "searchRound", "(II)I"⟩, 13) := ⟨⟨by decide +kernel, by decide +kernel⟩, List.mem_of_getElem? (i := 321) (by decide +kernel), List.mem_of_getElem? (i := 319) (by decide +kernel), List.mem_of_getElem? (i := 320) (by decide +kernel)⟩
theorem lw_p6 : lw_okq (⟨"HeapwrightLab$Slabs", "pagesOf", "(II)I"⟩, 14) := ⟨⟨by decide +kernel, by decide +kernel⟩, List.mem_of_getElem? (i := 345) (by decide +kernel), List.mem_of_getElem? (i := 343) (by decide +kernel), List.mem_of_getElem? (i := 344) (by decide +kernel)⟩
theorem lw_p7 : lw_okq (⟨"HeapwrightLab$Trace", "isDeed", "(I)Z"⟩, 4) := ⟨⟨by decide +kernel, by decide +kernel⟩, List.mem_of_getElem? (i := 392) (by decide +kernel), List.mem_of_getElem? (i := 390) (by decide +kernel), List.mem_of_getElem? (i := 391) (by decide +kernel)⟩
theorem lw_p8 : lw_okq (⟨"HeapwrightLab$Blocks", "indexOf", "(I)I"⟩, 6) := ⟨⟨by decide +kernel, by decide +kernel⟩, List.mem_of_getElem? (i := 514) (by decide +kernel), List.mem_of_getElem? (i := 512) (by decide +kernel), List.mem_of_getElem? (i := 513) (by decide +kernel)⟩
theorem lw_p9 : lw_okq (⟨"HeapwrightLabLaw$Pool", "holeAt", "(I)I"⟩, 17) := ⟨⟨by decide +kernel, by decide +kernel⟩, List.mem_of_getElem? (i := 637) (by decide +kernel), List.mem_of_getElem? (i := 965) (by decide +kernel), List.mem_of_getElem? (i := 966) (by decide +kernel)⟩
theorem lw_p10 : lw_okq (⟨"HeapwrightLabLaw$Pool", "takeSlot", "(I)I"⟩, 17) := ⟨⟨by decide +kernel, by decide +kernel⟩, List.mem_of_getElem? (i := 637) (by decide +kernel), List.mem_of_getElem? (i := 981) (by decide +kernel), List.mem_of_getElem? (i := 982) (by decide +kernel)⟩
theorem lw_p11 : lw_okq (⟨"HeapwrightLabLaw$Pool", "did", "(III)V"⟩, 17) := ⟨⟨by decide +kernel, by decide +kernel⟩, List.mem_of_getElem? (i := 637) (by decide +kernel), List.mem_of_getElem? (i := 989) (by decide +kernel), List.mem_of_getElem? (i := 990) (by decide +kernel)⟩
theorem lw_p12 : lw_okq (⟨"HeapwrightLab", "requireFreeDeed", "()V"⟩, 8) := ⟨⟨by decide +kernel, by decide +kernel⟩, List.mem_of_getElem? (i := 26) (by decide +kernel), List.mem_of_getElem? (i := 1017) (by decide +kernel), List.mem_of_getElem? (i := 1018) (by decide +kernel)⟩
theorem lw_p13 : lw_okq (⟨"HeapwrightLab", "requireThere", "(I)V"⟩, 8) := ⟨⟨by decide +kernel, by decide +kernel⟩, List.mem_of_getElem? (i := 26) (by decide +kernel), List.mem_of_getElem? (i := 1050) (by decide +kernel), List.mem_of_getElem? (i := 1051) (by decide +kernel)⟩
def lw_privs_1 : List (MethodName × Nat) := [(⟨"HeapwrightLab", "present", "()LHeapwrightLab$Memory;"⟩, 8), (⟨"HeapwrightLab", "memoryOf", "(I)LHeapwrightLab$Memory;"⟩, 8), (⟨"HeapwrightLab", "requireName", "(I)V"⟩, 8), (⟨"java/lang/Throwable", "fillInStackTrace", "(I)Ljava/lang/Throwable;"⟩, 6), (⟨"HeapwrightLab", "requireHole", "(I)V"⟩, 8), (⟨"HeapwrightLab$Fits", "searchRound", "(II)I"⟩, 13), (⟨"HeapwrightLab$Slabs", "pagesOf", "(II)I"⟩, 14), (⟨"HeapwrightLab$Trace", "isDeed", "(I)Z"⟩, 4), (⟨"HeapwrightLab$Blocks", "indexOf", "(I)I"⟩, 6), (⟨"HeapwrightLabLaw$Pool", "holeAt", "(I)I"⟩, 17), (⟨"HeapwrightLabLaw$Pool", "takeSlot", "(I)I"⟩, 17), (⟨"HeapwrightLabLaw$Pool", "did", "(III)V"⟩, 17), (⟨"HeapwrightLab", "requireFreeDeed", "()V"⟩, 8), (⟨"HeapwrightLab", "requireThere", "(I)V"⟩, 8)]
theorem lw_r1 : ∀ q ∈ lw_privs_1, lw_okq q := List.forall_mem_cons.mpr ⟨lw_p0, List.forall_mem_cons.mpr ⟨lw_p1, List.forall_mem_cons.mpr ⟨lw_p2, List.forall_mem_cons.mpr ⟨lw_p3, List.forall_mem_cons.mpr ⟨lw_p4, List.forall_mem_cons.mpr ⟨lw_p5, List.forall_mem_cons.mpr ⟨lw_p6, List.forall_mem_cons.mpr ⟨lw_p7, List.forall_mem_cons.mpr ⟨lw_p8, List.forall_mem_cons.mpr ⟨lw_p9, List.forall_mem_cons.mpr ⟨lw_p10, List.forall_mem_cons.mpr ⟨lw_p11, List.forall_mem_cons.mpr ⟨lw_p12, List.forall_mem_cons.mpr ⟨lw_p13, fun _ h => absurd h List.not_mem_nil⟩⟩⟩⟩⟩⟩⟩⟩⟩⟩⟩⟩⟩⟩
def lw_privs : List (MethodName × Nat) := lw_privs_1
def lw_tbl : List Cond := k2_sels lw_privs ++ tables_1
theorem lw_privs_ok : ∀ q ∈ lw_privs, lw_okq q := lw_r1

def RX0 : String := "HeapwrightLab$Blocks"
def TX0 : u_T := fun k => match k with
  | 0 => ("HeapwrightLab$Blocks", "places", "[I", true)
  | 1 => ("HeapwrightLab$Blocks", "sizes", "[I", true)
  | 2 => ("HeapwrightLab$Blocks", "rooms", "[I", true)
  | 3 => ("HeapwrightLab$Blocks", "byPlace", "[I", true)
  | 4 => ("HeapwrightLab$Blocks", "count", "I", false)
  | _ => ("HeapwrightLab$Blocks", "roomsTogether", "I", false)
def tyX0 : Nat → FieldType := fun k => match k with
  | 0 => .array .int
  | 1 => .array .int
  | 2 => .array .int
  | 3 => .array .int
  | 4 => .int
  | _ => .int
theorem nmX0 : ∀ a, a < 6 → ∀ b, b < 6 → a ≠ b → (TX0 a).2.1 ≠ (TX0 b).2.1 := by decide +kernel
theorem tyX0_ok : ∀ k, k < 6 → parseFieldDescriptor (TX0 k).2.2.1 = some (tyX0 k) := by decide +kernel
def RX1 : String := "HeapwrightLab$Buddies"
def TX1 : u_T := fun k => match k with
  | 0 => ("HeapwrightLab$Memory", "blocks", "LHeapwrightLab$Blocks;", true)
  | 1 => ("HeapwrightLab$Memory", "holes", "LHeapwrightLab$Holes;", true)
  | 2 => ("HeapwrightLab$Memory", "way", "I", true)
  | 3 => ("HeapwrightLab$Memory", "step", "I", false)
  | 4 => ("HeapwrightLab$Memory", "head", "I", false)
  | 5 => ("HeapwrightLab$Memory", "hand", "I", false)
  | 6 => ("HeapwrightLab$Memory", "seen", "I", false)
  | 7 => ("HeapwrightLab$Memory", "counts", "[I", true)
  | 8 => ("HeapwrightLab$Memory", "depths", "[I", true)
  | 9 => ("HeapwrightLab$Memory", "names", "I", false)
  | 10 => ("HeapwrightLab$Memory", "arenas", "I", false)
  | 11 => ("HeapwrightLab$Memory", "peak", "I", false)
  | _ => ("HeapwrightLab$Memory", "done", "I", false)
def tyX1 : Nat → FieldType := fun k => match k with
  | 0 => .object "HeapwrightLab$Blocks"
  | 1 => .object "HeapwrightLab$Holes"
  | 2 => .int
  | 3 => .int
  | 4 => .int
  | 5 => .int
  | 6 => .int
  | 7 => .array .int
  | 8 => .array .int
  | 9 => .int
  | 10 => .int
  | 11 => .int
  | _ => .int
theorem nmX1 : ∀ a, a < 13 → ∀ b, b < 13 → a ≠ b → (TX1 a).2.1 ≠ (TX1 b).2.1 := by decide +kernel
theorem tyX1_ok : ∀ k, k < 13 → parseFieldDescriptor (TX1 k).2.2.1 = some (tyX1 k) := by decide +kernel
def RX2 : String := "HeapwrightLab$Fits"
def TX2 : u_T := fun k => match k with
  | 0 => ("HeapwrightLab$Memory", "blocks", "LHeapwrightLab$Blocks;", true)
  | 1 => ("HeapwrightLab$Memory", "holes", "LHeapwrightLab$Holes;", true)
  | 2 => ("HeapwrightLab$Memory", "way", "I", true)
  | 3 => ("HeapwrightLab$Memory", "step", "I", false)
  | 4 => ("HeapwrightLab$Memory", "head", "I", false)
  | 5 => ("HeapwrightLab$Memory", "hand", "I", false)
  | 6 => ("HeapwrightLab$Memory", "seen", "I", false)
  | 7 => ("HeapwrightLab$Memory", "counts", "[I", true)
  | 8 => ("HeapwrightLab$Memory", "depths", "[I", true)
  | 9 => ("HeapwrightLab$Memory", "names", "I", false)
  | 10 => ("HeapwrightLab$Memory", "arenas", "I", false)
  | 11 => ("HeapwrightLab$Memory", "peak", "I", false)
  | _ => ("HeapwrightLab$Memory", "done", "I", false)
def tyX2 : Nat → FieldType := fun k => match k with
  | 0 => .object "HeapwrightLab$Blocks"
  | 1 => .object "HeapwrightLab$Holes"
  | 2 => .int
  | 3 => .int
  | 4 => .int
  | 5 => .int
  | 6 => .int
  | 7 => .array .int
  | 8 => .array .int
  | 9 => .int
  | 10 => .int
  | 11 => .int
  | _ => .int
theorem nmX2 : ∀ a, a < 13 → ∀ b, b < 13 → a ≠ b → (TX2 a).2.1 ≠ (TX2 b).2.1 := by decide +kernel
theorem tyX2_ok : ∀ k, k < 13 → parseFieldDescriptor (TX2 k).2.2.1 = some (tyX2 k) := by decide +kernel
def RX3 : String := "HeapwrightLab$Holes"
def TX3 : u_T := fun k => match k with
  | 0 => ("HeapwrightLab$Holes", "places", "[I", true)
  | 1 => ("HeapwrightLab$Holes", "sizes", "[I", true)
  | _ => ("HeapwrightLab$Holes", "count", "I", false)
def tyX3 : Nat → FieldType := fun k => match k with
  | 0 => .array .int
  | 1 => .array .int
  | _ => .int
theorem nmX3 : ∀ a, a < 3 → ∀ b, b < 3 → a ≠ b → (TX3 a).2.1 ≠ (TX3 b).2.1 := by decide +kernel
theorem tyX3_ok : ∀ k, k < 3 → parseFieldDescriptor (TX3 k).2.2.1 = some (tyX3 k) := by decide +kernel
def RX4 : String := "HeapwrightLab$Memory"
def TX4 : u_T := fun k => match k with
  | _ => ("", "", "", false)
def tyX4 : Nat → FieldType := fun k => match k with
  | _ => .int
theorem nmX4 : ∀ a, a < 0 → ∀ b, b < 0 → a ≠ b → (TX4 a).2.1 ≠ (TX4 b).2.1 := by decide +kernel
theorem tyX4_ok : ∀ k, k < 0 → parseFieldDescriptor (TX4 k).2.2.1 = some (tyX4 k) := by decide +kernel
def RX5 : String := "HeapwrightLab$Slabs"
def TX5 : u_T := fun k => match k with
  | 0 => ("HeapwrightLab$Memory", "blocks", "LHeapwrightLab$Blocks;", true)
  | 1 => ("HeapwrightLab$Memory", "holes", "LHeapwrightLab$Holes;", true)
  | 2 => ("HeapwrightLab$Memory", "way", "I", true)
  | 3 => ("HeapwrightLab$Memory", "step", "I", false)
  | 4 => ("HeapwrightLab$Memory", "head", "I", false)
  | 5 => ("HeapwrightLab$Memory", "hand", "I", false)
  | 6 => ("HeapwrightLab$Memory", "seen", "I", false)
  | 7 => ("HeapwrightLab$Memory", "counts", "[I", true)
  | 8 => ("HeapwrightLab$Memory", "depths", "[I", true)
  | 9 => ("HeapwrightLab$Memory", "names", "I", false)
  | 10 => ("HeapwrightLab$Memory", "arenas", "I", false)
  | 11 => ("HeapwrightLab$Memory", "peak", "I", false)
  | 12 => ("HeapwrightLab$Memory", "done", "I", false)
  | _ => ("HeapwrightLab$Slabs", "pages", "[I", true)
def tyX5 : Nat → FieldType := fun k => match k with
  | 0 => .object "HeapwrightLab$Blocks"
  | 1 => .object "HeapwrightLab$Holes"
  | 2 => .int
  | 3 => .int
  | 4 => .int
  | 5 => .int
  | 6 => .int
  | 7 => .array .int
  | 8 => .array .int
  | 9 => .int
  | 10 => .int
  | 11 => .int
  | 12 => .int
  | _ => .array .int
theorem nmX5 : ∀ a, a < 14 → ∀ b, b < 14 → a ≠ b → (TX5 a).2.1 ≠ (TX5 b).2.1 := by decide +kernel
theorem tyX5_ok : ∀ k, k < 14 → parseFieldDescriptor (TX5 k).2.2.1 = some (tyX5 k) := by decide +kernel
def RX6 : String := "HeapwrightLab$Trace"
def TX6 : u_T := fun k => match k with
  | 0 => ("HeapwrightLab$Trace", "kinds", "[I", true)
  | 1 => ("HeapwrightLab$Trace", "names", "[I", true)
  | 2 => ("HeapwrightLab$Trace", "sizes", "[I", true)
  | _ => ("HeapwrightLab$Trace", "length", "I", false)
def tyX6 : Nat → FieldType := fun k => match k with
  | 0 => .array .int
  | 1 => .array .int
  | 2 => .array .int
  | _ => .int
theorem nmX6 : ∀ a, a < 4 → ∀ b, b < 4 → a ≠ b → (TX6 a).2.1 ≠ (TX6 b).2.1 := by decide +kernel
theorem tyX6_ok : ∀ k, k < 4 → parseFieldDescriptor (TX6 k).2.2.1 = some (tyX6 k) := by decide +kernel
def RX7 : String := "HeapwrightLab"
def TX7 : u_T := fun k => match k with
  | 0 => ("HeapwrightLab", "trace", "LHeapwrightLab$Trace;", true)
  | 1 => ("HeapwrightLab", "first", "LHeapwrightLab$Fits;", true)
  | 2 => ("HeapwrightLab", "next", "LHeapwrightLab$Fits;", true)
  | 3 => ("HeapwrightLab", "best", "LHeapwrightLab$Fits;", true)
  | 4 => ("HeapwrightLab", "worst", "LHeapwrightLab$Fits;", true)
  | 5 => ("HeapwrightLab", "buddies", "LHeapwrightLab$Buddies;", true)
  | 6 => ("HeapwrightLab", "slabs", "LHeapwrightLab$Slabs;", true)
  | _ => ("HeapwrightLab", "way", "I", false)
def tyX7 : Nat → FieldType := fun k => match k with
  | 0 => .object "HeapwrightLab$Trace"
  | 1 => .object "HeapwrightLab$Fits"
  | 2 => .object "HeapwrightLab$Fits"
  | 3 => .object "HeapwrightLab$Fits"
  | 4 => .object "HeapwrightLab$Fits"
  | 5 => .object "HeapwrightLab$Buddies"
  | 6 => .object "HeapwrightLab$Slabs"
  | _ => .int
theorem nmX7 : ∀ a, a < 8 → ∀ b, b < 8 → a ≠ b → (TX7 a).2.1 ≠ (TX7 b).2.1 := by decide +kernel
theorem tyX7_ok : ∀ k, k < 8 → parseFieldDescriptor (TX7 k).2.2.1 = some (tyX7 k) := by decide +kernel
def RX8 : String := "HeapwrightLabLaw$Pool"
def TX8 : u_T := fun k => match k with
  | 0 => ("HeapwrightLabLaw$Pool", "m", "LHeapwrightLab;", false)
  | 1 => ("HeapwrightLabLaw$Pool", "s", "[I", true)
  | 2 => ("HeapwrightLabLaw$Pool", "draws", "I", false)
  | 3 => ("HeapwrightLabLaw$Pool", "way", "I", false)
  | 4 => ("HeapwrightLabLaw$Pool", "step", "I", false)
  | 5 => ("HeapwrightLabLaw$Pool", "head", "I", false)
  | 6 => ("HeapwrightLabLaw$Pool", "owner", "[I", false)
  | 7 => ("HeapwrightLabLaw$Pool", "names", "I", false)
  | 8 => ("HeapwrightLabLaw$Pool", "size", "[I", true)
  | 9 => ("HeapwrightLabLaw$Pool", "room", "[I", true)
  | 10 => ("HeapwrightLabLaw$Pool", "arena", "[I", true)
  | 11 => ("HeapwrightLabLaw$Pool", "arenas", "I", false)
  | 12 => ("HeapwrightLabLaw$Pool", "hand", "I", false)
  | 13 => ("HeapwrightLabLaw$Pool", "counted", "[I", false)
  | 14 => ("HeapwrightLabLaw$Pool", "peak", "I", false)
  | 15 => ("HeapwrightLabLaw$Pool", "deeds", "[I", false)
  | _ => ("HeapwrightLabLaw$Pool", "isTold", "Z", false)
def tyX8 : Nat → FieldType := fun k => match k with
  | 0 => .object "HeapwrightLab"
  | 1 => .array .int
  | 2 => .int
  | 3 => .int
  | 4 => .int
  | 5 => .int
  | 6 => .array .int
  | 7 => .int
  | 8 => .array .int
  | 9 => .array .int
  | 10 => .array .int
  | 11 => .int
  | 12 => .int
  | 13 => .array .int
  | 14 => .int
  | 15 => .array .int
  | _ => .boolean
theorem nmX8 : ∀ a, a < 17 → ∀ b, b < 17 → a ≠ b → (TX8 a).2.1 ≠ (TX8 b).2.1 := by decide +kernel
theorem tyX8_ok : ∀ k, k < 17 → parseFieldDescriptor (TX8 k).2.2.1 = some (tyX8 k) := by decide +kernel
def RX9 : String := "HeapwrightLabModel$Memory"
def TX9 : u_T := fun k => match k with
  | _ => ("", "", "", false)
def tyX9 : Nat → FieldType := fun k => match k with
  | _ => .int
theorem nmX9 : ∀ a, a < 0 → ∀ b, b < 0 → a ≠ b → (TX9 a).2.1 ≠ (TX9 b).2.1 := by decide +kernel
theorem tyX9_ok : ∀ k, k < 0 → parseFieldDescriptor (TX9 k).2.2.1 = some (tyX9 k) := by decide +kernel
def RX10 : String := "HeapwrightLabModel"
def TX10 : u_T := fun k => match k with
  | _ => ("", "", "", false)
def tyX10 : Nat → FieldType := fun k => match k with
  | _ => .int
theorem nmX10 : ∀ a, a < 0 → ∀ b, b < 0 → a ≠ b → (TX10 a).2.1 ≠ (TX10 b).2.1 := by decide +kernel
theorem tyX10_ok : ∀ k, k < 0 → parseFieldDescriptor (TX10 k).2.2.1 = some (tyX10 k) := by decide +kernel
def RJx145de : String := "java/io/Serializable"
def TJx145de : u_T := fun k => match k with
  | _ => ("", "", "", false)
def tyJx145de : Nat → FieldType := fun k => match k with
  | _ => .int
theorem nmJx145de : ∀ a, a < 0 → ∀ b, b < 0 → a ≠ b → (TJx145de a).2.1 ≠ (TJx145de b).2.1 := by decide +kernel
theorem tyJx145de_ok : ∀ k, k < 0 → parseFieldDescriptor (TJx145de k).2.2.1 = some (tyJx145de k) := by decide +kernel
def RJ9 : String := "java/lang/Math"
def TJ9 : u_T := fun k => match k with
  | _ => ("", "", "", false)
def tyJ9 : Nat → FieldType := fun k => match k with
  | _ => .int
theorem nmJ9 : ∀ a, a < 0 → ∀ b, b < 0 → a ≠ b → (TJ9 a).2.1 ≠ (TJ9 b).2.1 := by decide +kernel
theorem tyJ9_ok : ∀ k, k < 0 → parseFieldDescriptor (TJ9 k).2.2.1 = some (tyJ9 k) := by decide +kernel
def RJ0 : String := "java/lang/String"
def TJ0 : u_T := fun k => match k with
  | _ => ("", "", "", false)
def tyJ0 : Nat → FieldType := fun k => match k with
  | _ => .int
theorem nmJ0 : ∀ a, a < 0 → ∀ b, b < 0 → a ≠ b → (TJ0 a).2.1 ≠ (TJ0 b).2.1 := by decide +kernel
theorem tyJ0_ok : ∀ k, k < 0 → parseFieldDescriptor (TJ0 k).2.2.1 = some (tyJ0 k) := by decide +kernel
def RJ10 : String := "java/lang/System"
def TJ10 : u_T := fun k => match k with
  | _ => ("", "", "", false)
def tyJ10 : Nat → FieldType := fun k => match k with
  | _ => .int
theorem nmJ10 : ∀ a, a < 0 → ∀ b, b < 0 → a ≠ b → (TJ10 a).2.1 ≠ (TJ10 b).2.1 := by decide +kernel
theorem tyJ10_ok : ∀ k, k < 0 → parseFieldDescriptor (TJ10 k).2.2.1 = some (tyJ10 k) := by decide +kernel
def RJ7 : String := "java/util/Arrays"
def TJ7 : u_T := fun k => match k with
  | _ => ("", "", "", false)
def tyJ7 : Nat → FieldType := fun k => match k with
  | _ => .int
theorem nmJ7 : ∀ a, a < 0 → ∀ b, b < 0 → a ≠ b → (TJ7 a).2.1 ≠ (TJ7 b).2.1 := by decide +kernel
theorem tyJ7_ok : ∀ k, k < 0 → parseFieldDescriptor (TJ7 k).2.2.1 = some (tyJ7 k) := by decide +kernel
def RL : String := "HeapwrightLabLaw"
