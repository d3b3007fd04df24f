/-! ===== calls: what the tables say of each link; the step into a callee; the run of a callee by its contract ===== -/
abbrev zCe : Type := Nat × Nat × Nat × MethodName × String × Nat × Nat × Nat × Nat × Nat × Nat × Nat
def zdesc (x : MethodName) (n : Nat) : Bool := decide ((parseMethodDescriptor x.desc).map (fun d => d.parameters.length) = some n)
def znmh (x : String) : Bool := decide (x ≠ "java/lang/invoke/MethodHandle") && decide (x ≠ "java/lang/invoke/VarHandle")
def zy (j : Nat) : MethodName := (zmt j).1
def zCok (o : Nat) (t : Nat × Nat × zCe) : Bool :=
  let e := t.2.2
  let x := e.2.2.2.1
  let i := e.2.2.2.2.2
  (match zfd (zatL zN o) t.1 with | some q => Nat.beq q.2 e.2.2.1 | none => false) && zdesc x e.2.2.1 && znmh x.cls &&
  (match e.1 with
  | 0 => decide (e.2.1 < zLaw) && decide (x = zy e.2.1) && !zhas e.2.1 && (match zat zcl t.2.1 with | some q => decide (q.1 = x.cls) | none => false) && zin i.1 (.methodLink (zon o) t.1 x) && zin i.2.1 (.instanceMethod x) && zin i.2.2.1 (.selects x.cls x x) && zin i.2.2.2.1 (.initialized x.cls)
  | 1 => decide (e.2.1 < zLaw) && !zhas e.2.1 && znmh e.2.2.2.2.1 && zin i.1 (.methodLink (zon o) t.1 x) && zin i.2.1 (.sameMethod x.cls e.2.2.2.2.1 x.name x.desc) && (match zat zcl t.2.1 with | some q => zin i.2.2.1 (.selects q.1 x (zy e.2.1)) | none => false) && zin i.2.2.2.1 (.instanceMethod (zy e.2.1)) && zin i.2.2.2.2.1 (.initialized (zy e.2.1).cls) &&
      (match i.2.2.2.2.2.2 with
      | 0 => zxn i.2.2.2.2.2.1 (.declares ⟨e.2.2.2.2.1, x.name, x.desc⟩)
      | k + 1 => zin i.2.2.2.2.2.1 (.instanceMethod ⟨e.2.2.2.2.1, x.name, x.desc⟩) && decide (k < zLaw) && !zhas k && decide (zy k = ⟨e.2.2.2.2.1, x.name, x.desc⟩))
  | 2 => decide (e.2.1 < zLaw) && decide (x = zy e.2.1) && zin i.1 (.methodLink (zon o) t.1 x) && zin i.2.1 (.static x) && zin i.2.2.1 (.initialized x.cls)
  | 3 => decide (e.2.1 < zLaw) && decide (x = zy e.2.1) && !zhas e.2.1 && zxn i.1 (.methodLinkNest (zon o) t.1 x e.2.2.2.2.1) && zin i.2.1 (.static x) && zin i.2.2.1 (.initialized x.cls)
  | 4 => decide (zrt e.2.1 = none) && decide (e.2.1 < zLaw) && decide (x = zy e.2.1) && !zhas e.2.1 && decide (x.name = "<init>") && zin i.1 (.methodLink (zon o) t.1 x) && zin i.2.1 (.instanceMethod x) && zin i.2.2.1 (.initialized x.cls)
  | 5 => decide (zrt e.2.1 = none) && decide (e.2.1 < zLaw) && decide (x = zy e.2.1) && !zhas e.2.1 && decide (x.name = "<init>") && zxn i.1 (.methodLinkNest (zon o) t.1 x e.2.2.2.2.1) && zin i.2.1 (.instanceMethod x) && zin i.2.2.1 (.initialized x.cls)
  | 6 => decide (x = Lib.objectInit) && zin i.1 (.methodLink (zon o) t.1 Lib.objectInit) && zin i.2.1 (.instanceMethod Lib.objectInit)
  | 7 => decide (x = arraycopyName) && zin i.1 (.methodLink (zon o) t.1 arraycopyName) && zin i.2.1 (.native arraycopyName) && zin i.2.2.1 (.static arraycopyName) && zin i.2.2.2.1 (.initialized "java/lang/System")
  | 8 => decide (x = Lib.Math.max.name) && zin i.1 (.methodLink (zon o) t.1 Lib.Math.max.name) && zin i.2.1 (.static Lib.Math.max.name) && zin i.2.2.1 (.initialized "java/lang/Math") && zin i.2.2.2.1 (.code Lib.Math.max.name Lib.Math.max.code 2 (some .int))
  | 9 => decide (x = Lib.Math.min.name) && zin i.1 (.methodLink (zon o) t.1 Lib.Math.min.name) && zin i.2.1 (.static Lib.Math.min.name) && zin i.2.2.1 (.initialized "java/lang/Math") && zin i.2.2.2.1 (.code Lib.Math.min.name Lib.Math.min.code 2 (some .int))
  | _ => false)
set_option maxRecDepth 100000 in
theorem zC_chk : (List.range zC.length).all (fun o => (zatL zC o).all (zCok o)) = true := by decide +kernel
theorem zC_ok {o a b : Nat} {e : zCe} (h : zfd2 (zatL zC o) a b = some e) : zCok o (a, b, e) = true := zall_tab zC zCok zC_chk (zfd2_mem h)
set_option maxRecDepth 100000 in
theorem zObj_ok : Cond.code Lib.objectInit ⟨#[0xb1]⟩ 1 none ∈ zG := zin_mem (i := zObj) (by decide +kernel)
theorem zcode_sig {args : Array Value} {s : State} {j : Nat} (h : (zcw j).before args s = true) : ∃ mk meth, s.methodNamed? (zy j) = some mk ∧ s.vm.method? mk = some meth ∧ parseMethodDescriptor (zy j).desc = some meth.sig := by
  unfold zcw at h
  split at h
  · obtain ⟨mk, hn⟩ := Cond.code_named h
    obtain ⟨meth, c, hm, -, -, -, -, -, -, hsig⟩ := Cond.code_spec hn h
    exact ⟨mk, meth, hn, hm, hsig⟩
  · obtain ⟨mk, meth, c, hn, hm, -, -, -, -, -, -, hsig⟩ := Cond.codeWith_spec h
    exact ⟨mk, meth, hn, hm, hsig⟩
theorem zsum_cat (X : zX) (r : List Value) : ((r.map (zc X)).map fun v => v.category).sum = zsum r := by
  induction r with
  | nil => rfl
  | cons v r ih =>
    simp only [List.map_cons, List.sum_cons, zsum]
    rw [ih, zc_cat]
    congr 1
    cases v <;> rfl
section ZGO
variable {p : Program} {l : Launch} {e : Env} {R : Room} {s : State} {m : MethodId} {args : Array Value} {below : List Frame} {meth : Method} {c : Code} {H : Heap} {locs : List Loc} {cells slots : Nat} {Q : State → Prop}
/-- the machine comes to the door of the callee y with the arguments a -/
def zGo (p : Program) (l : Launch) (e : Env) (R : Room) (s : State) (m : MethodId) (args : Array Value) (below : List Frame) (meth : Method) (c : Code) (H : Heap) (locs : List Loc) (cells slots : Nat) (g : JFrame) (rest : List Value) (y : MethodName) (a : List Value) : Prop :=
  ∀ T : State, T.heap = H → Stand p l e R s m args below meth c T locs cells slots → ∃ (vm₁ : Vm) (mk : MethodId), s.WarmedH vm₁ ∧ Stand p l e R s m args below meth c (T.setVm vm₁) locs cells slots ∧ s.methodNamed? y = some mk ∧
    ∀ target, Steps p.tables e below (doInvoke e ((T.setVm vm₁).setTop { g with stack := rest }) [] mk a.toArray).1 target → Steps p.tables e below (T.setTop g) target
theorem zgo_virt {j b idx : Nat} {own C : String} {g : JFrame} {argsL rest : List Value} (hx : p.tables.exec = Jvm.exec) (hown : s.vm.findClass own = some m.cls) (hlink : (Cond.methodLink own idx (zy j)).before args s = true) (hinst : (Cond.instanceMethod (zy j)).before args s = true) (hsel : (Cond.selects C (zy j) (zy j)).before args s = true)
    (hcode : (zcw j).before args s = true) (hy : (zy j).cls ≠ "java/lang/invoke/MethodHandle" ∧ (zy j).cls ≠ "java/lang/invoke/VarHandle") (hcell : ∃ cellB : Cell, H[b]? = some cellB ∧ cellB.vm.isStatics = false ∧ s.vm.findClass C = some cellB.cls)
    (hg : g.method = m) (hlen : (parseMethodDescriptor (zy j).desc).map (fun d => d.parameters.length) = some argsL.length) (hstack : g.stack = argsL.reverse ++ .ref b :: rest) (hdg : decode c.code g.pc = .ok (.invokevirtual idx, 3)) :
    zGo p l e R s m args below meth c H locs cells slots g rest (zy j) (.ref b :: argsL) := by
  intro T hT X
  obtain ⟨cellB, hcB, hobj, hcls⟩ := hcell
  obtain ⟨mk, methM, hnamed, hmethM, hstM, habM⟩ := Cond.instanceMethod_spec hinst
  obtain ⟨mk', methM', hn', hmethM', hsigM⟩ := zcode_sig hcode
  cases hn'.symm.trans hnamed
  cases hmethM.symm.trans hmethM'
  obtain ⟨c2, r2, m2, q1, q2, q3, q4, kP, hkP, hkPi⟩ := Cond.selects_spec hsel
  cases hcls.symm.trans q1
  cases (State.methodFound?_of_named hnamed hy).symm.trans q2
  cases hnamed.symm.trans q3
  have hselP : selectMethod e.platform s.vm cellB.cls mk = .method mk := by rw [Launch.admits_selectMethod X.admits]; exact q4
  rw [hsigM] at hlen
  obtain ⟨vm₁, X₁, hstep₁⟩ := X.invokevirtual hx hown hlink hnamed hmethM hstM hkP hkPi hy (a := b) (cell := cellB) (by rw [hT]; exact hcB)
    (fun z h => by rw [h] at hobj; cases hobj) hselP hmethM habM hkP hkPi (g := g) hg (argsL := argsL) (rest := rest) (Option.some.inj hlen).symm hstack hdg
  exact ⟨vm₁, mk, X₁.warmed, X₁, hnamed, fun target h => hstep₁ _ fun acts => by rw [doInvoke_state]; exact h⟩
theorem zgo_up {j b idx : Nat} {own C owner : String} {x : MethodName} {g : JFrame} {argsL rest : List Value} (hx : p.tables.exec = Jvm.exec) (hown : s.vm.findClass own = some m.cls) (hlink : (Cond.methodLink own idx x).before args s = true) (hsame : (Cond.sameMethod x.cls owner x.name x.desc).before args s = true)
    (hd0 : va_Decl s ⟨owner, x.name, x.desc⟩) (howner : owner ≠ "java/lang/invoke/MethodHandle" ∧ owner ≠ "java/lang/invoke/VarHandle") (hinst : (Cond.instanceMethod (zy j)).before args s = true) (hsel : (Cond.selects C x (zy j)).before args s = true)
    (hcell : ∃ cellB : Cell, H[b]? = some cellB ∧ cellB.vm.isStatics = false ∧ s.vm.findClass C = some cellB.cls)
    (hg : g.method = m) (hlen : (parseMethodDescriptor x.desc).map (fun d => d.parameters.length) = some argsL.length) (hstack : g.stack = argsL.reverse ++ .ref b :: rest) (hdg : decode c.code g.pc = .ok (.invokevirtual idx, 3)) :
    zGo p l e R s m args below meth c H locs cells slots g rest (zy j) (.ref b :: argsL) := by
  intro T hT X
  obtain ⟨cellB, hcB, hobj, hcls⟩ := hcell
  obtain ⟨r0, r, hn, hrm, hstR, hsigR⟩ := hd0
  obtain ⟨cn, ck, r1, hcn, hck, hni, hf, hn1⟩ := Cond.sameMethod_found hsame
  cases hn.symm.trans hn1
  obtain ⟨mk, methM, hnamed, hmethM, -, habM⟩ := Cond.instanceMethod_spec hinst
  obtain ⟨c2, r2, m2, q1, q2, q3, q4, kP, hkP, hkPi⟩ := Cond.selects_spec hsel
  cases hcls.symm.trans q1
  cases hf.symm.trans q2
  cases hnamed.symm.trans q3
  have hselP : selectMethod e.platform s.vm cellB.cls r0 = .method mk := by rw [Launch.admits_selectMethod X.admits]; exact q4
  have hlen' : argsL.length = r.sig.parameters.length := by
    have h9 : parseMethodDescriptor x.desc = some r.sig := hsigR
    rw [h9] at hlen
    exact (Option.some.inj hlen).symm
  obtain ⟨vm₁, X₁, hstep₁⟩ := X.invokevirtualUp hx hown hlink hsame howner hn hrm hstR (a := b) (cell := cellB) (by rw [hT]; exact hcB)
    (fun z h => by rw [h] at hobj; cases hobj) hselP hmethM habM hkP hkPi (g := g) hg (argsL := argsL) (rest := rest) hlen' hstack hdg
  exact ⟨vm₁, mk, X₁.warmed, X₁, hnamed, fun target h => hstep₁ _ fun acts => by rw [doInvoke_state]; exact h⟩
theorem zgo_stat {j idx : Nat} {own : String} {g : JFrame} {argsL rest : List Value} (hx : p.tables.exec = Jvm.exec) (hown : s.vm.findClass own = some m.cls) (hlink : (Cond.methodLink own idx (zy j)).before args s = true) (hstat : (Cond.static (zy j)).before args s = true) (hinit : (Cond.initialized (zy j).cls).before args s = true)
    (hcode : (zcw j).before args s = true) (hy : (zy j).cls ≠ "java/lang/invoke/MethodHandle" ∧ (zy j).cls ≠ "java/lang/invoke/VarHandle")
    (hg : g.method = m) (hlen : (parseMethodDescriptor (zy j).desc).map (fun d => d.parameters.length) = some argsL.length) (hstack : g.stack = argsL.reverse ++ rest) (hdg : decode c.code g.pc = .ok (.invokestatic idx, 3)) :
    zGo p l e R s m args below meth c H locs cells slots g rest (zy j) argsL := by
  intro T hT X
  obtain ⟨mk, methM, hnamed, hmethM, hsigM⟩ := zcode_sig hcode
  have hstatic : methM.isStatic = true := Cond.static_spec hnamed hmethM hstat
  obtain ⟨kP, hkP, -⟩ := className_of_methodNamed hnamed
  have hinitP : kP.init = .initialized := Cond.initialized_spec (findClass_of_methodNamed hnamed) hkP hinit
  rw [hsigM] at hlen
  obtain ⟨vm₁, X₁, hstep₁⟩ := X.invokestatic hx hown hlink hnamed hmethM hstatic hkP hinitP hy (g := g) hg (argsL := argsL) (rest := rest) (Option.some.inj hlen).symm hstack hdg
  exact ⟨vm₁, mk, X₁.warmed, X₁, hnamed, fun target h => hstep₁ _ fun acts => by rw [doInvoke_state]; exact h⟩
theorem zgo_statN {j idx : Nat} {own host : String} {g : JFrame} {argsL rest : List Value} (hx : p.tables.exec = Jvm.exec) (hown : s.vm.findClass own = some m.cls) (hlink : (Cond.methodLinkNest own idx (zy j) host).before args s = true) (hstat : (Cond.static (zy j)).before args s = true) (hinit : (Cond.initialized (zy j).cls).before args s = true)
    (hcode : (zcw j).before args s = true) (hy : (zy j).cls ≠ "java/lang/invoke/MethodHandle" ∧ (zy j).cls ≠ "java/lang/invoke/VarHandle")
    (hg : g.method = m) (hlen : (parseMethodDescriptor (zy j).desc).map (fun d => d.parameters.length) = some argsL.length) (hstack : g.stack = argsL.reverse ++ rest) (hdg : decode c.code g.pc = .ok (.invokestatic idx, 3)) :
    zGo p l e R s m args below meth c H locs cells slots g rest (zy j) argsL := by
  intro T hT X
  obtain ⟨mk, methM, hnamed, hmethM, hsigM⟩ := zcode_sig hcode
  have hstatic : methM.isStatic = true := Cond.static_spec hnamed hmethM hstat
  obtain ⟨kP, hkP, -⟩ := className_of_methodNamed hnamed
  have hinitP : kP.init = .initialized := Cond.initialized_spec (findClass_of_methodNamed hnamed) hkP hinit
  rw [hsigM] at hlen
  obtain ⟨vm₁, X₁, hstep₁⟩ := X.invokestaticNest hx hown hlink hnamed hmethM hstatic hkP hinitP hy (g := g) hg (argsL := argsL) (rest := rest) (Option.some.inj hlen).symm hstack hdg
  exact ⟨vm₁, mk, X₁.warmed, X₁, hnamed, fun target h => hstep₁ _ fun acts => by rw [doInvoke_state]; exact h⟩
theorem zcw_plain {j : Nat} (h : zhas j = false) : zcw j = .code (zmt j).1 (zmt j).2.1 (zmt j).2.2.1 (zmt j).2.2.2.1 := by
  unfold zhas at h
  unfold zcw
  cases hh : (zmt j).2.2.2.2.1 with
  | none => rfl
  | some x => rw [hh] at h; cases h
theorem zgo_init {j b idx : Nat} {own : String} {g : JFrame} {argsL rest : List Value} (hx : p.tables.exec = Jvm.exec) (hown : s.vm.findClass own = some m.cls) (hy1 : (zy j).name = "<init>") (hlink : (Cond.methodLink own idx (zy j)).before args s = true) (hinst : (Cond.instanceMethod (zy j)).before args s = true)
    {bytes : ByteArray} {maxL : Nat} (hcode : (Cond.code (zy j) bytes maxL none).before args s = true) (hy : (zy j).cls ≠ "java/lang/invoke/MethodHandle" ∧ (zy j).cls ≠ "java/lang/invoke/VarHandle")
    (hg : g.method = m) (hlen : (parseMethodDescriptor (zy j).desc).map (fun d => d.parameters.length) = some argsL.length) (hstack : g.stack = argsL.reverse ++ .ref b :: rest) (hdg : decode c.code g.pc = .ok (.invokespecial idx, 3)) :
    zGo p l e R s m args below meth c H locs cells slots g rest (zy j) (.ref b :: argsL) := by
  intro T hT X
  subst hg
  have hlen' : ∀ sig, parseMethodDescriptor (zy j).desc = some sig → argsL.length = sig.parameters.length := fun sig h => by
    rw [h] at hlen
    exact (Option.some.inj hlen).symm
  have hpl : e.platform.magicAccessors = ({} : Platform).magicAccessors := by rw [X.admits.platform]
  obtain ⟨mk, methM, cM, kP, vm₁, hnamed, hmethM, hcodeM, -, hlocalsM, -, hkP, -, hW₁, hstep₁⟩ := Steps.initColdArgs (e := e) X.here hx X.warmed hpl hown hy1 hy hlink hinst hcode (f := g) rfl hlen' hstack hdg
  exact ⟨vm₁, mk, (X.noted hW₁).warmed, X.noted hW₁, hnamed, fun target h => hstep₁ _ fun acts => by rw [doInvoke_state]; exact h⟩
theorem zgo_initN {j b idx : Nat} {own host : String} {g : JFrame} {argsL rest : List Value} (hx : p.tables.exec = Jvm.exec) (hown : s.vm.findClass own = some m.cls) (hy1 : (zy j).name = "<init>") (hlink : (Cond.methodLinkNest own idx (zy j) host).before args s = true) (hinst : (Cond.instanceMethod (zy j)).before args s = true)
    {bytes : ByteArray} {maxL : Nat} (hcode : (Cond.code (zy j) bytes maxL none).before args s = true) (hy : (zy j).cls ≠ "java/lang/invoke/MethodHandle" ∧ (zy j).cls ≠ "java/lang/invoke/VarHandle")
    (hg : g.method = m) (hlen : (parseMethodDescriptor (zy j).desc).map (fun d => d.parameters.length) = some argsL.length) (hstack : g.stack = argsL.reverse ++ .ref b :: rest) (hdg : decode c.code g.pc = .ok (.invokespecial idx, 3)) :
    zGo p l e R s m args below meth c H locs cells slots g rest (zy j) (.ref b :: argsL) := by
  intro T hT X
  subst hg
  have hlen' : ∀ sig, parseMethodDescriptor (zy j).desc = some sig → argsL.length = sig.parameters.length := fun sig h => by
    rw [h] at hlen
    exact (Option.some.inj hlen).symm
  have hpl : e.platform.magicAccessors = ({} : Platform).magicAccessors := by rw [X.admits.platform]
  obtain ⟨mk, methM, cM, kP, vm₁, hnamed, hmethM, hcodeM, -, hlocalsM, -, hkP, -, hW₁, hstep₁⟩ := Steps.initColdArgsNest (e := e) X.here hx X.warmed hpl hown hy1 hy hlink hinst hcode (f := g) rfl hlen' hstack hdg
  exact ⟨vm₁, mk, (X.noted hW₁).warmed, X.noted hW₁, hnamed, fun target h => hstep₁ _ fun acts => by rw [doInvoke_state]; exact h⟩
/-- the callee's own contract, run -/
theorem zrun {j mc ms : Nat} {ig : Instr} {ws : List Cond} {rm : Room} {Pc : Array Value → State → Prop} {Qc : Array Value → State → Outcome → State → Prop} {XC : String → State → State → Prop} {free : Addr → Prop} {pc : Nat} {ls : Array Slot} {st0 rest a : List Value}
    (hgo : zGo p l e R s m args below meth c H locs cells slots (F0 m pc ls st0) rest (zy j) a) (hM : vx_Met l (zy j) ws rm Pc Qc XC mc ms free) (hbl : FrameBlind Pc) (hrc : rm.cells = mc) (hrs : rm.slots = ms)
    (hframes : rm.frames + 1 ≤ R.frames) (hlocals : 8 + (zml j + 11) + rm.locals ≤ R.locals) (hws : ∀ w ∈ ws, ∀ (a' : Array Value) (U : State), s.WarmedH U.vm → w.before a' U = true) (hcw : zcw j ∈ ws) (hini : (Cond.initialized (zy j).cls).before args s = true)
    (hP : ∀ U : State, U.heap = H → s.WarmedH U.vm → Pc a.toArray U) (hsize : ls.size = c.maxLocals) (hW : (rest.map fun v => v.category).sum ≤ 8) (hdg : decode c.code pc = .ok (ig, 3)) (hf : cells + mc ≤ R.cells ∧ slots + ms ≤ R.slots) :
    vx_Run p l e R s m args below meth c H locs cells slots mc ms (F0 m pc ls st0) rest (Qc a.toArray) XC free := by
  have hinit : ∀ (a' : Array Value) (U : State), s.WarmedH U.vm → (Cond.initialized (zy j).cls).before a' U = true := fun a' U hW => word_at hW (Or.inl rfl) hini
  have hK : vx_Back l R p e below s args (zy j) 3 8 (PreOf R mc ms Pc) (PostOf Qc mc ms free) (vx_Post XC mc ms free) := by
    unfold zcw at hcw
    split at hcw
    · exact vx_back (bytes := (zmt j).2.1) (maxL := zml j) (ret := (zmt j).2.2.2.1) hM hbl hrc hrs hframes hlocals hws hcw hinit
    · next hh _ => exact vx_backW (bytes := (zmt j).2.1) (maxL := zml j) (ret := (zmt j).2.2.2.1) (hh := hh) hM hbl hrc hrs hframes hlocals hws hcw hinit
  intro T hT X
  obtain ⟨vm₁, mk, hW₁, X₁, hn, hst⟩ := hgo T hT X
  rcases hK m meth c ⟨T.setVm vm₁, locs, cells, slots⟩ { F0 m pc ls st0 with stack := rest } ig mk a.toArray X₁ rfl hsize hdg (by show 2 * 0 + (rest.map fun v => v.category).sum ≤ 8; omega) (X₁.named hn) ⟨hf.1, hf.2, hP (T.setVm vm₁) hT hW₁⟩ with ⟨v, ⟨U', l2, c2, s2⟩, X', ⟨g', mk', t, L, e1, e2, hq, h1, hL, h2, h3⟩, hsteps⟩ | ⟨q, ⟨U', l2, c2, s2⟩, X', ⟨g', mk', t, L, E, ce, e1, e2, hq, hce, hcv, hcl, h1, hL, h2, h3⟩, hsteps⟩
  · dsimp only [Pt.U, Pt.locs, Pt.cells, Pt.slots] at X' e1 e2 h1 h2 h3 hsteps
    subst h1; subst h2; subst h3
    exact Or.inl ⟨v, (T.setVm vm₁).calling g' mk' a.toArray, t, U', L, hT, X', hL, e1, e2, hq, fun target h => hst _ (hsteps.trans h)⟩
  · dsimp only [Pt.U, Pt.locs, Pt.cells, Pt.slots] at X' e1 e2 h1 h2 h3 hsteps hcl
    subst h1; subst h2; subst h3
    exact Or.inr ⟨q, (T.setVm vm₁).calling g' mk' a.toArray, t, U', L, E, ce, hT, X', hL, e1, e2, hq, hce, hcv, vx_cls hW₁ hcl, hst _ hsteps⟩
end ZGO
