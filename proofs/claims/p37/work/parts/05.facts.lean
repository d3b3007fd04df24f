/-! ===== what the tables say, checked against the claim's words ===== -/
def zG : List Cond := zT.filter goodWord
theorem zT_eq : zT = zBk.flatten := by
  simp only [zT, zBk, lw_tbl, tables_1, List.flatten_cons, List.flatten_nil, List.append_nil, List.append_assoc]
/-- a word by its block and its place there -/
def zwd (i : Nat) : Option Cond := zat (zatL zBk (i / 1000)) (i % 1000)
theorem zwd_mem {i : Nat} {w : Cond} (h : zwd i = some w) : w ∈ zT := by
  unfold zwd at h
  rw [zat_eq] at h
  obtain ⟨l, hl, hw⟩ := zatL_mem (List.mem_of_getElem? h)
  rw [zT_eq]
  exact List.mem_flatten.mpr ⟨l, List.mem_of_getElem? hl, hw⟩
def zin (i : Nat) (w : Cond) : Bool := match zwd i with
  | some w' => decide (w' = w) && goodWord w
  | none => false
theorem zin_mem {i : Nat} {w : Cond} (h : zin i w = true) : w ∈ zG := by
  unfold zin at h
  split at h
  · next w' hw =>
    rw [Bool.and_eq_true, decide_eq_true_eq] at h
    obtain ⟨rfl, h2⟩ := h
    exact List.mem_filter.mpr ⟨zwd_mem hw, h2⟩
  · cases h
theorem zG_good {w : Cond} (h : w ∈ zG) : w ∈ zG ∧ ((w.onTables && w.keeps) = true ∨ ∃ ty, w = .arrayClass ty) := ⟨h, good_of_word (List.mem_filter.mp h).2⟩
/-- words that are kept, though they are no good ones -/
def zxw : Cond → Bool
  | .methodLinkNest _ _ _ _ => true
  | .declares _ => true
  | .castable _ _ => true
  | _ => false
def zXw : List Cond := zT.filter zxw
def zxn (i : Nat) (w : Cond) : Bool := match zwd i with
  | some w' => decide (w' = w) && zxw w
  | none => false
theorem zxn_mem {i : Nat} {w : Cond} (h : zxn i w = true) : w ∈ zXw := by
  unfold zxn at h
  split at h
  · next w' hw =>
    rw [Bool.and_eq_true, decide_eq_true_eq] at h
    obtain ⟨rfl, h2⟩ := h
    exact List.mem_filter.mpr ⟨zwd_mem hw, h2⟩
  · cases h
theorem zxw_tab {w : Cond} (h : zxw w = true) : w.onTables = true := by
  cases w <;> first | rfl | (simp [zxw] at h)
theorem zxw_warm {w : Cond} (h : zxw w = true) {s U : State} (hW : s.WarmedH U.vm) (hZ : va_Nw w s) : va_Nw w U := by
  cases w with
  | methodLinkNest a i x y => exact va_Nw.warmM hW hZ
  | declares x => exact va_Nw.warmD hW hZ
  | castable a b => exact va_Nw.warmC hW hZ
  | _ => simp [zxw] at h
theorem zall_tab {α : Type} (tab : List (List α)) (f : Nat → α → Bool) (h : (List.range tab.length).all (fun o => (zatL tab o).all (f o)) = true) {o : Nat} {e : α} (he : e ∈ zatL tab o) : f o e = true := by
  obtain ⟨l, hl, -⟩ := zatL_mem he
  have ho : o < tab.length := (List.getElem?_eq_some_iff.mp hl).1
  exact List.all_eq_true.mp (List.all_eq_true.mp h o (List.mem_range.mpr ho)) e he
-- classes
def znf : FieldType → Bool
  | .float => false
  | _ => true
theorem zc_def {X : zX} {t : FieldType} (h : znf t = true) : zc X (defaultValue t) = defaultValue t := by
  cases t <;> first | rfl | (simp [znf] at h)
def zclok (c : Nat) (q : vw_C) : Bool := (List.range q.2.2).all (fun k => zin ((zatL zLy c).getD k 0) (u_lay q.1 q.2.1 k) && (decide (parseFieldDescriptor (q.2.1 k).2.2.1 = some (zty c k)) && znf (zty c k)) && (List.range q.2.2).all (fun j => decide (k = j) || !decide ((q.2.1 k).2.1 = (q.2.1 j).2.1)))
set_option maxRecDepth 100000 in
theorem zcl_chk : (List.range zcl.length).all (fun c => match zat zcl c with | some q => zclok c q | none => true) = true := by decide +kernel
theorem zcl_ok {c : Nat} {q : vw_C} (h : zcl[c]? = some q) : zclok c q = true := by
  have h1 := List.all_eq_true.mp zcl_chk c (List.mem_range.mpr (List.getElem?_eq_some_iff.mp h).1)
  rw [zat_eq, h] at h1
  exact h1
theorem zcl_in {c : Nat} {q : vw_C} (h : zcl[c]? = some q) : ∀ w ∈ u_ws q.1 q.2.1 q.2.2, w ∈ zG := by
  intro w hw
  obtain ⟨k, hk, rfl⟩ := List.mem_map.mp hw
  have h1 := List.all_eq_true.mp (zcl_ok h) k hk
  rw [Bool.and_eq_true, Bool.and_eq_true] at h1
  exact zin_mem h1.1.1
theorem zcl_ty {c : Nat} {q : vw_C} (h : zcl[c]? = some q) : ∀ k, k < q.2.2 → parseFieldDescriptor (q.2.1 k).2.2.1 = some (zty c k) := by
  intro k hk
  have h1 := List.all_eq_true.mp (zcl_ok h) k (List.mem_range.mpr hk)
  rw [Bool.and_eq_true, Bool.and_eq_true, Bool.and_eq_true] at h1
  exact of_decide_eq_true h1.1.2.1
theorem zcl_nf {c : Nat} {q : vw_C} (h : zcl[c]? = some q) : ∀ k, k < q.2.2 → znf (zty c k) = true := by
  intro k hk
  have h1 := List.all_eq_true.mp (zcl_ok h) k (List.mem_range.mpr hk)
  rw [Bool.and_eq_true, Bool.and_eq_true, Bool.and_eq_true] at h1
  exact h1.1.2.2
theorem zcl_nm {c : Nat} {q : vw_C} (h : zcl[c]? = some q) : ∀ a, a < q.2.2 → ∀ b, b < q.2.2 → a ≠ b → (q.2.1 a).2.1 ≠ (q.2.1 b).2.1 := by
  intro a ha b hb hab
  have h1 := List.all_eq_true.mp (zcl_ok h) a (List.mem_range.mpr ha)
  rw [Bool.and_eq_true, Bool.and_eq_true] at h1
  have h2 := List.all_eq_true.mp h1.2 b (List.mem_range.mpr hb)
  simp only [Bool.or_eq_true, decide_eq_true_eq, Bool.not_eq_true', decide_eq_false_iff_not] at h2
  exact h2.resolve_left hab
-- fields
def zFok (o : Nat) (e : Nat × Nat × Nat × Bool × Bool × String × Nat × Nat) : Bool := match zat zcl e.2.1 with
  | some q => decide (e.2.2.1 < q.2.2) && zin e.2.2.2.2.2.2.1 (.fieldLink (zon o) e.1 e.2.2.2.2.2.1 (q.2.1 e.2.2.1).2.1 (q.2.1 e.2.2.1).2.2.1) && (decide ((q.2.1 e.2.2.1).1 = e.2.2.2.2.2.1) || zin e.2.2.2.2.2.2.2 (.sameField e.2.2.2.2.2.1 (q.2.1 e.2.2.1).1 (q.2.1 e.2.2.1).2.1 (q.2.1 e.2.2.1).2.2.1)) && decide ((q.2.1 e.2.2.1).2.2.2 = e.2.2.2.1) && (!e.2.2.2.2.1 || decide ((q.2.1 e.2.2.1).1 = zon o))
  | none => false
set_option maxRecDepth 100000 in
theorem zF_chk : (List.range zF.length).all (fun o => (zatL zF o).all (zFok o)) = true := by decide +kernel
theorem zF_ok {o idx ci : Nat} {e : Nat × Bool × Bool × String × Nat × Nat} (h : zfd2 (zatL zF o) idx ci = some e) : ∃ q : vw_C, zcl[ci]? = some q ∧ e.1 < q.2.2 ∧ Cond.fieldLink (zon o) idx e.2.2.2.1 (q.2.1 e.1).2.1 (q.2.1 e.1).2.2.1 ∈ zG ∧ ((q.2.1 e.1).1 = e.2.2.2.1 ∨ Cond.sameField e.2.2.2.1 (q.2.1 e.1).1 (q.2.1 e.1).2.1 (q.2.1 e.1).2.2.1 ∈ zG) ∧ (q.2.1 e.1).2.2.2 = e.2.1 ∧ (e.2.2.1 = true → (q.2.1 e.1).1 = zon o) := by
  have h1 := zall_tab zF zFok zF_chk (zfd2_mem h)
  unfold zFok at h1
  rw [zat_eq] at h1
  cases hq : zcl[ci]? with
  | none => rw [show (idx, ci, e).2.1 = ci from rfl, hq] at h1; cases h1
  | some q =>
    rw [show (idx, ci, e).2.1 = ci from rfl, hq] at h1
    simp only [Bool.and_eq_true, decide_eq_true_eq, Bool.or_eq_true, Bool.not_eq_true'] at h1
    obtain ⟨⟨⟨⟨a1, a2⟩, a3⟩, a4⟩, a5⟩ := h1
    refine ⟨q, rfl, a1, zin_mem a2, ?_, a4, fun z => ?_⟩
    · rcases a3 with a3 | a3
      · exact Or.inl a3
      · exact Or.inr (zin_mem a3)
    · rcases a5 with a5 | a5
      · rw [z] at a5; cases a5
      · exact a5
-- new things
def zNwok (o : Nat) (e : Nat × Nat × Nat × Nat × Nat) : Bool := match zat zcl e.2.1 with
  | some q => zin e.2.2.1 (.classLink (zon o) e.1 q.1) && zin e.2.2.2.1 (.instantiable q.1 q.2.2) && zin e.2.2.2.2 (.initialized q.1)
  | none => false
set_option maxRecDepth 100000 in
theorem zNw_chk : (List.range zNw.length).all (fun o => (zatL zNw o).all (zNwok o)) = true := by decide +kernel
theorem zNw_ok {o idx : Nat} {e : Nat × Nat × Nat × Nat} (h : zfd (zatL zNw o) idx = some e) : ∃ q : vw_C, zcl[e.1]? = some q ∧ Cond.classLink (zon o) idx q.1 ∈ zG ∧ Cond.instantiable q.1 q.2.2 ∈ zG ∧ Cond.initialized q.1 ∈ zG := by
  have h1 := zall_tab zNw zNwok zNw_chk (zfd_mem h)
  unfold zNwok at h1
  rw [zat_eq] at h1
  cases hq : zcl[e.1]? with
  | none => rw [show (idx, e).2.1 = e.1 from rfl, hq] at h1; cases h1
  | some q =>
    rw [show (idx, e).2.1 = e.1 from rfl, hq] at h1
    simp only [Bool.and_eq_true] at h1
    exact ⟨q, rfl, zin_mem h1.1.1, zin_mem h1.1.2, zin_mem h1.2⟩
-- constants
set_option maxRecDepth 100000 in
theorem zLg_chk : (List.range zLg.length).all (fun o => (zatL zLg o).all (fun e => zin e.2.2 (.constantLong (zon o) e.1 e.2.1))) = true := by decide +kernel
theorem zLg_ok {o idx : Nat} {e : Int64 × Nat} (h : zfd (zatL zLg o) idx = some e) : Cond.constantLong (zon o) idx e.1 ∈ zG := zin_mem (zall_tab zLg (fun o e => zin e.2.2 (.constantLong (zon o) e.1 e.2.1)) zLg_chk (zfd_mem h))
set_option maxRecDepth 100000 in
theorem zIn_chk : (List.range zIn.length).all (fun o => (zatL zIn o).all (fun e => zin e.2.2 (.constant (zon o) e.1 e.2.1))) = true := by decide +kernel
theorem zIn_ok {o idx : Nat} {e : Int32 × Nat} (h : zfd (zatL zIn o) idx = some e) : Cond.constant (zon o) idx e.1 ∈ zG := zin_mem (zall_tab zIn (fun o e => zin e.2.2 (.constant (zon o) e.1 e.2.1)) zIn_chk (zfd_mem h))
set_option maxRecDepth 100000 in
theorem zAI_ok : Cond.arrayClass .int ∈ zG := zin_mem (i := zAI) (by decide +kernel)
set_option maxRecDepth 100000 in
theorem zAL_chk : (Nat.beq zAL 0 || zin zAL (.arrayClass .long)) = true := by decide +kernel
theorem zAL_ok (h : Nat.beq zAL 0 = false) : Cond.arrayClass .long ∈ zG := by
  have h1 := zAL_chk
  rw [h, Bool.false_or] at h1
  exact zin_mem h1
-- the code of each method, its instructions
def zcw (i : Nat) : Cond := match (zmt i).2.2.2.2.1 with
  | none => .code (zmt i).1 (zmt i).2.1 (zmt i).2.2.1 (zmt i).2.2.2.1
  | some hh => .codeWith (zmt i).1 (zmt i).2.1 (zmt i).2.2.1 (zmt i).2.2.2.1 hh
set_option maxRecDepth 100000 in
theorem zcw_chk : (List.range zLaw).all (fun i => decide (zon (zoc i) = (zmt i).1.cls) && plainName (zmt i).1.cls && decide ((zmt i).1.cls ≠ "java/lang/invoke/MethodHandle") && decide ((zmt i).1.cls ≠ "java/lang/invoke/VarHandle")) = true := by decide +kernel
theorem zcw_good (i : Nat) : goodWord (zcw i) = true := by
  unfold zcw
  split <;> rfl
def zdB (cc : ByteArray) (e : Nat × Instr) : Bool := match decode cc e.1 with
  | .ok (i2, n) => decide (i2 = e.2) && (zisT e.2 || Nat.beq n (zlen e.2))
  | .error _ => false
theorem zdB_ok {cc : ByteArray} {e : Nat × Instr} (h : zdB cc e = true) : zDc cc e.1 e.2 := by
  unfold zdB at h
  split at h
  · next i2 n hd =>
    simp only [Bool.and_eq_true, decide_eq_true_eq, Bool.or_eq_true] at h
    obtain ⟨rfl, h2⟩ := h
    exact ⟨n, hd, h2.imp id Nat.eq_of_beq_eq_true⟩
  · cases h
