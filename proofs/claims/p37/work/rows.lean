section
/-! ===== BEGIN exceptions that leave a method, and their catching by the caller (launches without stack traces) ===== -/
section VXA
/-! The laws vx_back, vx_callV, vx_callS, vx_callSW, vx_throw0, vx_throwS follow proofs of the library, with one case more: JvmDerived/Free/Laws.lean (Back.of_free), Shelf42/LK1.lean (callV, callS), Shelf/KitTraced.lean (throwNew0V, throwNewS). -/
/-- where a method has thrown q: the class by its name, the cell, what was written, the world -/
def vx_T (XC : String → State → State → Prop) (st : State) (q : Addr) (t : State) (mc ms : Nat) (free : Addr → Prop) : Prop :=
  ∃ (E : String) (ce : Cell) (L : List Loc), XC E st t ∧ t.heap[q]? = some ce ∧ ce.vm = .none ∧ st.vm.findClass E = some ce.cls ∧ st.WarmedH t.vm ∧ st.sameButNew ({ t with vm := st.vm } : State) L mc ms ∧ ∀ z ∈ L, free z.base
def vx_Q (Qc : Array Value → State → Outcome → State → Prop) (XC : String → State → State → Prop) (mc ms : Nat) (free : Addr → Prop) : Array Value → State → Outcome → State → Prop := fun a st o t =>
  (Qc a st o t ∧ ∃ L, FrameEnd st o t L mc ms ∧ ∀ q ∈ L, free q.base) ∨ ∃ q, o = .threw q ∧ vx_T XC st q t mc ms free
/-- a callee that returns or throws -/
def vx_Met (l : Launch) (y : MethodName) (ws : List Cond) (rm : Room) (Pc : Array Value → State → Prop) (Qc : Array Value → State → Outcome → State → Prop) (XC : String → State → State → Prop) (mc ms : Nat) (free : Addr → Prop) : Prop :=
  MetFree l y (headSpec ws rm) Pc (fun _ _ _ _ _ => True) (vx_Q Qc XC mc ms free)
def vx_Post (XC : String → State → State → Prop) (mc ms : Nat) (free : Addr → Prop) : Pt → Array Value → Addr → Pt → Prop := fun A a q B =>
  ∃ (g : JFrame) (mk : MethodId) (t : State) (L : List Loc) (E : String) (ce : Cell), B.U.heap = t.heap ∧ B.U.vm = t.vm ∧ XC E (A.U.calling g mk a) t ∧ t.heap[q]? = some ce ∧ ce.vm = .none ∧ A.U.vm.findClass E = some ce.cls ∧ B.locs = A.locs ++ L ∧ (∀ z ∈ L, free z.base) ∧ B.cells = A.cells + mc ∧ B.slots = A.slots + ms
def vx_Back (l : Launch) (R : Room) (p : Program) (e : Env) (below : List Frame) (s : State) (sargs : Array Value) (y : MethodName) (len W9 : Nat)
    (Pre : Pt → Array Value → Prop) (Post : Pt → Array Value → Option Value → Pt → Prop) (PostX : Pt → Array Value → Addr → Pt → Prop) : Prop :=
  ∀ (m : MethodId) (meth : Method) (c : Code) (A : Pt) (g : JFrame) (ig : Instr) (mk : MethodId) (a : Array Value),
    Stand p l e R s m sargs below meth c A.U A.locs A.cells A.slots → g.method = m → g.locals.size = c.maxLocals → decode c.code g.pc = .ok (ig, len) →
    2 * g.monitorRoom + (g.stack.map fun v => v.category).sum ≤ W9 → A.U.methodNamed? y = some mk → Pre A a →
    (∃ (v : Option Value) (B : Pt), Stand p l e R s m sargs below meth c B.U B.locs B.cells B.slots ∧ Post A a v B ∧
      Steps p.tables e below (doInvoke e (A.U.setTop g) [] mk a).1 (B.U.setTop { g with pc := g.pc + len, stack := v.toList ++ g.stack })) ∨
    (∃ (q : Addr) (B : Pt), Stand p l e R s m sargs below meth c B.U B.locs B.cells B.slots ∧ PostX A a q B ∧
      Steps p.tables e below (doInvoke e (A.U.setTop g) [] mk a).1 ((B.U.setTop g).pushFrame (.throwing q)))
section Payer
variable {l : Launch} {R : Room} {p : Program} {e : Env} {below : List Frame} {s : State} {sargs : Array Value} {y : MethodName} {len W9 : Nat}
theorem vx_back {ws : List Cond} {rm : Room} {Pc : Array Value → State → Prop} {Qc : Array Value → State → Outcome → State → Prop} {XC : String → State → State → Prop} {mc ms : Nat} {free : Addr → Prop} {bytes : ByteArray} {maxL : Nat} {ret : Option FieldType}
    (hM : vx_Met l y ws rm Pc Qc XC mc ms free) (hblind : FrameBlind Pc) (hrc : rm.cells = mc) (hrs : rm.slots = ms)
    (hframes : rm.frames + 1 ≤ R.frames) (hlocals : W9 + (maxL + 11) + rm.locals ≤ R.locals)
    (hws : ∀ w ∈ ws, ∀ a' U, s.WarmedH U.vm → w.before a' U = true) (hcode : Cond.code y bytes maxL ret ∈ ws) (hinit : ∀ a' U, s.WarmedH U.vm → (Cond.initialized y.cls).before a' U = true) :
    vx_Back l R p e below s sargs y len W9 (PreOf R mc ms Pc) (PostOf Qc mc ms free) (vx_Post XC mc ms free) := by
  intro m meth c A g ig mk a X hg hsize hdg hW hn hp
  have h1 : (headSpec ws rm).pre.before a A.U = true := atoms_intro fun w hw => hws w hw _ _ X.warmed
  have h2 : (Cond.code y bytes maxL ret).before a A.U = true := hws _ hcode _ _ X.warmed
  have h3 : (Cond.initialized y.cls).before a A.U = true := hinit _ _ X.warmed
  have h4 : A.cells + (headSpec ws rm).room.cells ≤ R.cells := by rw [show (headSpec ws rm).room.cells = mc from hrc]; exact hp.1
  have h5 : A.slots + (headSpec ws rm).room.slots ≤ R.slots := by rw [show (headSpec ws rm).room.slots = ms from hrs]; exact hp.2.1
  have hPc : Pc a (A.U.calling g mk a) := hblind _ _ _ _ hp.2.2
  obtain ⟨U, Ls, c0, s0⟩ := A
  dsimp only [Pt.U, Pt.locs, Pt.cells, Pt.slots] at h1 h2 h3 h4 h5 X hn hPc ⊢
  obtain ⟨methY, cY, hmY, hcY, -, hlY, -, -, -, -⟩ := Cond.code_spec hn h2
  obtain ⟨kY, hkY, -⟩ := className_of_methodNamed hn
  have hinitY : kY.init = .initialized := Cond.initialized_spec (findClass_of_methodNamed hn) hkY h3
  have h : At U g.method c below := by rw [hg]; exact X.here
  have hlocals9 : W9 + (maxL + 11) + (headSpec ws rm).room.locals ≤ R.locals := hlocals
  have happ : (headSpec ws rm).appliesLoose y e.platform (U.calling g mk a) = true :=
    Spec.appliesLoose_calling (g := g) h hdg hn hkY hinitY
      (X.room_calling (g := g) (R' := (headSpec ws rm).room) hsize hmY hcY hframes (by rw [hlY]; omega) h4 h5) h1
  obtain ⟨mid, hmid⟩ := h.above
  have hfr : (U.setTop g).frames = (.java g :: mid) ++ below := by rw [State.frames_setTop' g h.top, hmid]; rfl
  obtain ⟨o, s₂, hsteps, -, hend, hq⟩ := Steps.callFree hM p X.admits X.cas X.clock (acts := []) hfr happ hPc trivial
  have hq' : vx_Q Qc XC mc ms free a (U.calling g mk a) o s₂ := hq
  rw [State.frames_setTop' g h.top] at hend
  obtain ⟨g₀, hg0⟩ := Option.isSome_iff_exists.mp h.top
  obtain ⟨r, hr⟩ := State.topJava?_eq_some.mp hg0
  have hr' : (({ U with heap := s₂.heap, slotsUsed := s₂.slotsUsed } : State).setVm s₂.vm).frames = .java g₀ :: r := hr
  rcases hq' with ⟨hqc, L, hfe, hL⟩ | ⟨q, rfl, E, ce, L, hx, hce, hcv, hcl, hW₂, hsm, hL⟩
  · obtain ⟨⟨v, rfl⟩, hW₂, e2, q2, q3, q4, q5, q6⟩ := id hfe
    have e3 : s₂ = ({ (U.calling g mk a).setFrames s₂.frames with heap := s₂.heap, slotsUsed := s₂.slotsUsed } : State).setVm s₂.vm := by
      have : s₂ = ({ s₂ with vm := (U.calling g mk a).vm } : State).setVm s₂.vm := rfl
      rw [e2] at this
      exact this
    obtain ⟨c₂, i₂, len₂, hc₂, hd₂, hf₂⟩ := hend
    have hW' : U.WarmedH s₂.vm := hW₂
    have hcc : c₂ = c := by
      have h1 : s₂.code? g.method = U.code? g.method := by
        rw [State.code?_eq, State.code?_eq, hW'.alike.method?]
      exact Option.some.inj (hc₂.symm.trans (h1.trans h.code))
    subst hcc
    have hlen : len₂ = len := by rw [hdg] at hd₂; cases hd₂; rfl
    subst hlen
    have hs₂ : s₂ = (({ U with heap := s₂.heap, slotsUsed := s₂.slotsUsed } : State).setVm s₂.vm).setTop { g with pc := g.pc + len₂, stack := v.toList ++ g.stack } := by
      refine e3.trans ?_
      rw [hf₂, State.calling_eq h.top, State.setFrames_setFrames, State.setTop_of_frames _ hr', hr]
      rfl
    have hsame : U.sameButNew ({ U with heap := s₂.heap, slotsUsed := s₂.slotsUsed } : State) L mc ms := by
      refine ⟨?_, q2, q3, q4, q5, q6⟩
      obtain ⟨t, ht, -⟩ := State.frames_cons hr
      show ({ U with heap := s₂.heap, slotsUsed := s₂.slotsUsed } : State) = { U.setFrames U.frames with heap := s₂.heap, slotsUsed := s₂.slotsUsed }
      rw [State.setFrames_self ht]
    subst hg
    refine Or.inl ⟨v, ⟨(({ U with heap := s₂.heap, slotsUsed := s₂.slotsUsed } : State).setVm s₂.vm), Ls ++ L, c0 + mc, s0 + ms⟩,
      ⟨X.admits, X.cas, X.clock, X.frames, X.room, X.hears, X.method, X.code, (X.here.setHeapUsed s₂.heap s₂.slotsUsed).setVm hW'.alike, X.tail, State.WarmedH.trans X.warmed hW', X.limits, X.bytes, X.same.trans (hsame.setVm s.vm)⟩,
      ⟨g, mk, s₂, L, rfl, rfl, hqc, rfl, hL, rfl, rfl⟩, ?_⟩
    show Steps p.tables e below _ ((({ U with heap := s₂.heap, slotsUsed := s₂.slotsUsed } : State).setVm s₂.vm).setTop { g with pc := g.pc + len₂, stack := v.toList ++ g.stack })
    rw [← hs₂]
    exact hsteps
  · obtain ⟨e2, q2, q3, q4, q5, q6⟩ := id hsm
    have e3 : s₂ = ({ (U.calling g mk a).setFrames s₂.frames with heap := s₂.heap, slotsUsed := s₂.slotsUsed } : State).setVm s₂.vm := by
      have : s₂ = ({ s₂ with vm := (U.calling g mk a).vm } : State).setVm s₂.vm := rfl
      rw [e2] at this
      exact this
    have hf₂ : s₂.frames = .throwing q :: .java g :: U.frames.tail := hend
    have hW' : U.WarmedH s₂.vm := hW₂
    have hs₂ : s₂ = ((({ U with heap := s₂.heap, slotsUsed := s₂.slotsUsed } : State).setVm s₂.vm).setTop g).pushFrame (.throwing q) := by
      refine e3.trans ?_
      rw [hf₂, State.calling_eq h.top, State.setFrames_setFrames, State.pushFrame, State.frames_setTop _ hr', State.setTop_of_frames _ hr', State.setFrames_setFrames, hr]
      rfl
    have hsame : U.sameButNew ({ U with heap := s₂.heap, slotsUsed := s₂.slotsUsed } : State) L mc ms := by
      refine ⟨?_, q2, q3, q4, q5, q6⟩
      obtain ⟨t, ht, -⟩ := State.frames_cons hr
      show ({ U with heap := s₂.heap, slotsUsed := s₂.slotsUsed } : State) = { U.setFrames U.frames with heap := s₂.heap, slotsUsed := s₂.slotsUsed }
      rw [State.setFrames_self ht]
    subst hg
    refine Or.inr ⟨q, ⟨(({ U with heap := s₂.heap, slotsUsed := s₂.slotsUsed } : State).setVm s₂.vm), Ls ++ L, c0 + mc, s0 + ms⟩,
      ⟨X.admits, X.cas, X.clock, X.frames, X.room, X.hears, X.method, X.code, (X.here.setHeapUsed s₂.heap s₂.slotsUsed).setVm hW'.alike, X.tail, State.WarmedH.trans X.warmed hW', X.limits, X.bytes, X.same.trans (hsame.setVm s.vm)⟩,
      ⟨g, mk, s₂, L, E, ce, rfl, rfl, hx, hce, hcv, hcl, rfl, hL, rfl, rfl⟩, ?_⟩
    show Steps p.tables e below _ (((({ U with heap := s₂.heap, slotsUsed := s₂.slotsUsed } : State).setVm s₂.vm).setTop g).pushFrame (.throwing q))
    rw [← hs₂]
    exact hsteps
end Payer
section Calls
variable {p : Program} {l : Launch} {e : Env} {R : Room} {s : State} {m : MethodId} {args : Array Value} {below : List Frame} {meth : Method} {c : Code} {T : State} {locs : List Loc} {cells slots : Nat}
theorem vx_callV (X : Stand p l e R s m args below meth c T locs cells slots) (hexec : p.tables.exec = Jvm.exec) {own C : String} {index : Nat} {y : MethodName} {bytes : ByteArray} {maxL : Nat} {ret : Option FieldType}
    (hown : s.vm.findClass own = some m.cls) (hlink : (Cond.methodLink own index y).before args s = true) (hinst : (Cond.instanceMethod y).before args s = true) (hsel : (Cond.selects C y y).before args s = true)
    (hcode : (Cond.code y bytes maxL ret).before args s = true) (hy : y.cls ≠ "java/lang/invoke/MethodHandle" ∧ y.cls ≠ "java/lang/invoke/VarHandle")
    {W9 : Nat} {Pre : Pt → Array Value → Prop} {Post : Pt → Array Value → Option Value → Pt → Prop} {PostX : Pt → Array Value → Addr → Pt → Prop} (hK : vx_Back l R p e below s args y 3 W9 Pre Post PostX)
    {b : Addr} {cellB : Cell} (hcell : T.heap[b]? = some cellB) (hobj : cellB.vm.isStatics = false) (hcls : s.vm.findClass C = some cellB.cls)
    {g : JFrame} (hg : g.method = m) (hsize : g.locals.size = c.maxLocals) {argsL rest : List Value} (hlen : ∀ sig, parseMethodDescriptor y.desc = some sig → argsL.length = sig.parameters.length)
    (hstack : g.stack = argsL.reverse ++ .ref b :: rest) (hW : 2 * g.monitorRoom + (rest.map fun v => v.category).sum ≤ W9) (hdg : decode c.code g.pc = .ok (.invokevirtual index, 3))
    (hpre : ∀ vm₁, s.WarmedH vm₁ → Pre ⟨T.setVm vm₁, locs, cells, slots⟩ (Value.ref b :: argsL).toArray) :
    (∃ (v : Option Value) (vm₁ : Vm) (B : Pt), s.WarmedH vm₁ ∧ Stand p l e R s m args below meth c B.U B.locs B.cells B.slots ∧ Post ⟨T.setVm vm₁, locs, cells, slots⟩ (Value.ref b :: argsL).toArray v B ∧
      ∀ target, Steps p.tables e below (B.U.setTop { g with pc := g.pc + 3, stack := v.toList ++ rest }) target → Steps p.tables e below (T.setTop g) target) ∨
    (∃ (q : Addr) (vm₁ : Vm) (B : Pt), s.WarmedH vm₁ ∧ Stand p l e R s m args below meth c B.U B.locs B.cells B.slots ∧ PostX ⟨T.setVm vm₁, locs, cells, slots⟩ (Value.ref b :: argsL).toArray q B ∧
      Steps p.tables e below (T.setTop g) ((B.U.setTop { g with stack := rest }).pushFrame (.throwing q))) := by
  obtain ⟨mk, methM, hnamed, hmethM, hstM, habM⟩ := Cond.instanceMethod_spec hinst
  obtain ⟨methM', cM, hmethM', -, -, -, -, -, -, hsigM⟩ := Cond.code_spec hnamed hcode
  cases hmethM.symm.trans hmethM'
  obtain ⟨c2, r2, m2, q1, q2, q3, q4, kP, hkP, hkPi⟩ := Cond.selects_spec hsel
  cases hcls.symm.trans q1
  cases (State.methodFound?_of_named hnamed hy).symm.trans q2
  cases hnamed.symm.trans q3
  have hselP : selectMethod e.platform s.vm cellB.cls mk = .method mk := by rw [Launch.admits_selectMethod X.admits]; exact q4
  obtain ⟨vm₁, X₁, hstep₁⟩ := X.invokevirtual hexec hown hlink hnamed hmethM hstM hkP hkPi hy (a := b) (cell := cellB) hcell
    (fun z h => by rw [h] at hobj; cases hobj) hselP hmethM habM hkP hkPi (g := g) hg (argsL := argsL) (rest := rest) (hlen _ hsigM) hstack hdg
  rcases hK m meth c ⟨T.setVm vm₁, locs, cells, slots⟩ { g with stack := rest } (.invokevirtual index) mk (Value.ref b :: argsL).toArray X₁ hg hsize hdg hW (X₁.named hnamed) (hpre vm₁ X₁.warmed) with ⟨v, B, X', hpost, hsteps⟩ | ⟨q, B, X', hpost, hsteps⟩
  · exact Or.inl ⟨v, vm₁, B, X₁.warmed, X', hpost, fun target h => hstep₁ _ fun acts => by rw [doInvoke_state]; exact hsteps.trans h⟩
  · exact Or.inr ⟨q, vm₁, B, X₁.warmed, X', hpost, hstep₁ _ fun acts => by rw [doInvoke_state]; exact hsteps⟩
theorem vx_callS (X : Stand p l e R s m args below meth c T locs cells slots) (hexec : p.tables.exec = Jvm.exec) {own : String} {index : Nat} {y : MethodName} {bytes : ByteArray} {maxL : Nat} {ret : Option FieldType}
    (hown : s.vm.findClass own = some m.cls) (hlink : (Cond.methodLink own index y).before args s = true) (hstat : (Cond.static y).before args s = true) (hinit : (Cond.initialized y.cls).before args s = true)
    (hcode : (Cond.code y bytes maxL ret).before args s = true) (hy : y.cls ≠ "java/lang/invoke/MethodHandle" ∧ y.cls ≠ "java/lang/invoke/VarHandle")
    {W9 : Nat} {Pre : Pt → Array Value → Prop} {Post : Pt → Array Value → Option Value → Pt → Prop} {PostX : Pt → Array Value → Addr → Pt → Prop} (hK : vx_Back l R p e below s args y 3 W9 Pre Post PostX)
    {g : JFrame} (hg : g.method = m) (hsize : g.locals.size = c.maxLocals) {argsL rest : List Value} (hlen : ∀ sig, parseMethodDescriptor y.desc = some sig → argsL.length = sig.parameters.length)
    (hstack : g.stack = argsL.reverse ++ rest) (hW : 2 * g.monitorRoom + (rest.map fun v => v.category).sum ≤ W9) (hdg : decode c.code g.pc = .ok (.invokestatic index, 3))
    (hpre : ∀ vm₁, s.WarmedH vm₁ → Pre ⟨T.setVm vm₁, locs, cells, slots⟩ argsL.toArray) :
    (∃ (v : Option Value) (vm₁ : Vm) (B : Pt), s.WarmedH vm₁ ∧ Stand p l e R s m args below meth c B.U B.locs B.cells B.slots ∧ Post ⟨T.setVm vm₁, locs, cells, slots⟩ argsL.toArray v B ∧
      ∀ target, Steps p.tables e below (B.U.setTop { g with pc := g.pc + 3, stack := v.toList ++ rest }) target → Steps p.tables e below (T.setTop g) target) ∨
    (∃ (q : Addr) (vm₁ : Vm) (B : Pt), s.WarmedH vm₁ ∧ Stand p l e R s m args below meth c B.U B.locs B.cells B.slots ∧ PostX ⟨T.setVm vm₁, locs, cells, slots⟩ argsL.toArray q B ∧
      Steps p.tables e below (T.setTop g) ((B.U.setTop { g with stack := rest }).pushFrame (.throwing q))) := by
  obtain ⟨mk, hnamed⟩ := Cond.code_named hcode
  obtain ⟨methM, cM, hmethM, -, -, -, -, -, -, hsigM⟩ := Cond.code_spec hnamed hcode
  have hstatic : methM.isStatic = true := Cond.static_spec hnamed hmethM hstat
  obtain ⟨kP, hkP, -⟩ := className_of_methodNamed hnamed
  have hinitP : kP.init = .initialized := Cond.initialized_spec (findClass_of_methodNamed hnamed) hkP hinit
  obtain ⟨vm₁, X₁, hstep₁⟩ := X.invokestatic hexec hown hlink hnamed hmethM hstatic hkP hinitP hy (g := g) hg (argsL := argsL) (rest := rest) (hlen _ hsigM) hstack hdg
  rcases hK m meth c ⟨T.setVm vm₁, locs, cells, slots⟩ { g with stack := rest } (.invokestatic index) mk argsL.toArray X₁ hg hsize hdg hW (X₁.named hnamed) (hpre vm₁ X₁.warmed) with ⟨v, B, X', hpost, hsteps⟩ | ⟨q, B, X', hpost, hsteps⟩
  · exact Or.inl ⟨v, vm₁, B, X₁.warmed, X', hpost, fun target h => hstep₁ _ fun acts => by rw [doInvoke_state]; exact hsteps.trans h⟩
  · exact Or.inr ⟨q, vm₁, B, X₁.warmed, X', hpost, hstep₁ _ fun acts => by rw [doInvoke_state]; exact hsteps⟩
end Calls
theorem vx_cls {s : State} {T : State} {vm₁ : Vm} {E : String} {k : ClassId} (hW : s.WarmedH vm₁) (h : (T.setVm vm₁).vm.findClass E = some k) : s.vm.findClass E = some k := by
  have h1 : vm₁.findClass E = some k := h
  rw [hW.alike.findClass] at h1
  exact h1
/-- the method's frame g, with q thrown over it -/
def vx_W (p : Program) (l : Launch) (e : Env) (R : Room) (s : State) (m : MethodId) (args : Array Value) (below : List Frame) (meth : Method) (c : Code) (H : Heap) (locs : List Loc) (cells slots : Nat) (Q : State → Prop) (g : JFrame) (q : Addr) : Prop :=
  ∀ T : State, T.heap = H → Stand p l e R s m args below meth c T locs cells slots → ∃ t, Steps p.tables e below ((T.setTop g).pushFrame (.throwing q)) t ∧ Q t
def vx_Run (p : Program) (l : Launch) (e : Env) (R : Room) (s : State) (m : MethodId) (args : Array Value) (below : List Frame) (meth : Method) (c : Code) (H : Heap) (locs : List Loc) (cells slots mc ms : Nat) (g : JFrame) (rest : List Value) (Qa : State → Outcome → State → Prop) (XC : String → State → State → Prop) (free : Addr → Prop) : Prop :=
  ∀ T : State, T.heap = H → Stand p l e R s m args below meth c T locs cells slots →
    (∃ (v : Option Value) (st₀ t T' : State) (L : List Loc), st₀.heap = H ∧ Stand p l e R s m args below meth c T' (locs ++ L) (cells + mc) (slots + ms) ∧ (∀ q ∈ L, free q.base) ∧ T'.heap = t.heap ∧ T'.vm = t.vm ∧ Qa st₀ (.returned v) t ∧
      Goes p e below T g T' { g with pc := g.pc + 3, stack := v.toList ++ rest }) ∨
    (∃ (q : Addr) (st₀ t T' : State) (L : List Loc) (E : String) (ce : Cell), st₀.heap = H ∧ Stand p l e R s m args below meth c T' (locs ++ L) (cells + mc) (slots + ms) ∧ (∀ z ∈ L, free z.base) ∧ T'.heap = t.heap ∧ T'.vm = t.vm ∧ XC E st₀ t ∧ t.heap[q]? = some ce ∧ ce.vm = .none ∧ s.vm.findClass E = some ce.cls ∧
      Steps p.tables e below (T.setTop g) ((T'.setTop { g with stack := rest }).pushFrame (.throwing q)))
def vx_X {S : Type} (px : S → Prop) (B : String → S → State → Prop) (A : Nat → Prop) : String → State → State → Prop := fun E st t => ∃ u : S, px u ∧ B E u t ∧ va_F A st t
section Runs
variable {p : Program} {l : Launch} {e : Env} {R : Room} {s : State} {m : MethodId} {args : Array Value} {below : List Frame} {meth : Method} {c : Code} {H : Heap} {locs : List Loc} {cells slots : Nat}
variable {y : MethodName} {bytes cc : ByteArray} {maxL nL mc ms n index : Nat} {ret : Option FieldType} {ws : List Cond} {rm : Room} {Pc : Array Value → State → Prop} {Qc : Array Value → State → Outcome → State → Prop} {XC : String → State → State → Prop} {free : Addr → Prop} {Ts : List Cond} {own C : String} {b : Addr} {As rest : List Value} {g : JFrame}
theorem vx_callBack (cb : CallB R s args own index y bytes maxL ret ws rm mc ms n) (hM : vx_Met l y ws rm Pc Qc XC mc ms free) (hbl : FrameBlind Pc) : vx_Back l R p e below s args y 3 8 (PreOf R mc ms Pc) (PostOf Qc mc ms free) (vx_Post XC mc ms free) := by
  obtain ⟨hrc, hrs, hfr, hlo, hws, hcw, -, hini, -⟩ := cb
  exact vx_back (bytes := bytes) (maxL := maxL) (ret := ret) hM hbl hrc hrs hfr hlo hws hcw (fun a' U hW => word_at hW (Or.inl (by first | rfl | simp [Cond.onTables, Cond.keeps, Cond.steady])) hini)
theorem vx_runV (S : CallFix p m c cc nL s args Ts own) (hM : vx_Met l y ws rm Pc Qc XC mc ms free) (cw : CallW R s args own C index y bytes maxL ret ws rm mc ms n) (hp : PreV s H C b Pc As)
    (hg : g.method = m) (hn : As.length = n) (hsize : g.locals.size = nL) (hstack : g.stack = As.reverse ++ .ref b :: rest) (hW : 2 * g.monitorRoom + (rest.map fun v => v.category).sum ≤ 8) (hdg : decode cc g.pc = .ok (.invokevirtual index, 3)) (hf : cells + mc ≤ R.cells ∧ slots + ms ≤ R.slots) :
    vx_Run p l e R s m args below meth c H locs cells slots mc ms g rest (Qc (Value.ref b :: As).toArray) XC free := by
  have hK : vx_Back l R p e below s args y 3 8 (PreOf R mc ms Pc) (PostOf Qc mc ms free) (vx_Post XC mc ms free) := vx_callBack cw.1 hM hp.1
  obtain ⟨⟨-, -, -, -, -, -, hcode, -, hy, hlen, hl⟩, hin, hse⟩ := cw
  obtain ⟨hx, hb, hml, ho, -⟩ := S
  obtain ⟨-, ⟨cellB, hcB, hoB, hclB⟩, hPc⟩ := hp
  intro T hT X
  rcases vx_callV X hx (C := C) (bytes := bytes) (maxL := maxL) (ret := ret) ho hl hin hse hcode hy hK (by rw [hT]; exact hcB) hoB hclB hg (hsize.trans hml.symm) (argsL := As) (rest := rest) (fun sig h => hn.trans (hlen sig h)) hstack hW (by rw [hb]; exact hdg)
    (fun vm₁ hW₁ => ⟨hf.1, hf.2, hPc (T.setVm vm₁) hT hW₁⟩) with ⟨v, vm₁, ⟨U', l2, c2, s2⟩, hW₁, X', ⟨g', mk, t, L, e1, e2, hq, h1, hL, h2, h3⟩, st⟩ | ⟨q, vm₁, ⟨U', l2, c2, s2⟩, hW₁, X', ⟨g', mk, t, L, E, ce, e1, e2, hq, hce, hcv, hcl, h1, hL, h2, h3⟩, st⟩
  · dsimp only [Pt.U, Pt.locs, Pt.cells, Pt.slots] at X' e1 e2 h1 h2 h3 st
    subst h1; subst h2; subst h3
    exact Or.inl ⟨v, (T.setVm vm₁).calling g' mk (Value.ref b :: As).toArray, t, U', L, hT, X', hL, e1, e2, hq, st⟩
  · dsimp only [Pt.U, Pt.locs, Pt.cells, Pt.slots] at X' e1 e2 h1 h2 h3 st hcl
    subst h1; subst h2; subst h3
    exact Or.inr ⟨q, (T.setVm vm₁).calling g' mk (Value.ref b :: As).toArray, t, U', L, E, ce, hT, X', hL, e1, e2, hq, hce, hcv, vx_cls hW₁ hcl, st⟩
theorem vx_runS (S : CallFix p m c cc nL s args Ts own) (hM : vx_Met l y ws rm Pc Qc XC mc ms free) (cw : CallB R s args own index y bytes maxL ret ws rm mc ms n ∧ (Cond.static y).before args s = true) (hp : PreS s H Pc As)
    (hg : g.method = m) (hn : As.length = n) (hsize : g.locals.size = nL) (hstack : g.stack = As.reverse ++ rest) (hW : 2 * g.monitorRoom + (rest.map fun v => v.category).sum ≤ 8) (hdg : decode cc g.pc = .ok (.invokestatic index, 3)) (hf : cells + mc ≤ R.cells ∧ slots + ms ≤ R.slots) :
    vx_Run p l e R s m args below meth c H locs cells slots mc ms g rest (Qc As.toArray) XC free := by
  have hK : vx_Back l R p e below s args y 3 8 (PreOf R mc ms Pc) (PostOf Qc mc ms free) (vx_Post XC mc ms free) := vx_callBack cw.1 hM hp.1
  obtain ⟨⟨-, -, -, -, -, -, hcode, hini, hy, hlen, hl⟩, hstt⟩ := cw
  obtain ⟨hx, hb, hml, ho, -⟩ := S
  intro T hT X
  rcases vx_callS X hx (bytes := bytes) (maxL := maxL) (ret := ret) ho hl hstt hini hcode hy hK hg (hsize.trans hml.symm) (argsL := As) (rest := rest) (fun sig h => hn.trans (hlen sig h)) hstack hW (by rw [hb]; exact hdg)
    (fun vm₁ hW₁ => ⟨hf.1, hf.2, hp.2 (T.setVm vm₁) hT hW₁⟩) with ⟨v, vm₁, ⟨U', l2, c2, s2⟩, hW₁, X', ⟨g', mk, t, L, e1, e2, hq, h1, hL, h2, h3⟩, st⟩ | ⟨q, vm₁, ⟨U', l2, c2, s2⟩, hW₁, X', ⟨g', mk, t, L, E, ce, e1, e2, hq, hce, hcv, hcl, h1, hL, h2, h3⟩, st⟩
  · dsimp only [Pt.U, Pt.locs, Pt.cells, Pt.slots] at X' e1 e2 h1 h2 h3 st
    subst h1; subst h2; subst h3
    exact Or.inl ⟨v, (T.setVm vm₁).calling g' mk As.toArray, t, U', L, hT, X', hL, e1, e2, hq, st⟩
  · dsimp only [Pt.U, Pt.locs, Pt.cells, Pt.slots] at X' e1 e2 h1 h2 h3 st hcl
    subst h1; subst h2; subst h3
    exact Or.inr ⟨q, (T.setVm vm₁).calling g' mk As.toArray, t, U', L, E, ce, hT, X', hL, e1, e2, hq, hce, hcv, vx_cls hW₁ hcl, st⟩
end Runs
section Rows
variable {p : Program} {l : Launch} {e : Env} {R : Room} {s : State} {m : MethodId} {args : Array Value} {below : List Frame} {meth : Method} {c : Code} {H : Heap} {locs : List Loc} {cells slots : Nat} {Q : State → Prop}
variable {mc ms : Nat} {free : Addr → Prop} {A0 A1 : Nat → Prop} {H0 : Heap} {a : Array Value} {pc : Nat} {ls : Array Slot} {st0 rest : List Value}
theorem vx_keep {st₀ t T' : State} {L : List Loc} (h0 : st₀.heap = H) (e1 : T'.heap = t.heap) (hS : va_S A0 H0 H locs) (hA : ∀ q, q < H.size → A1 q → A0 q) (hf : ∀ q, free q → A0 q) (hL : ∀ q ∈ L, free q.base) (hF : va_F A1 st₀ t) :
    H.size ≤ T'.heap.size ∧ (∀ q : Nat, q < H.size → ¬ A1 q → T'.heap[q]? = H[q]?) ∧ va_S A0 H0 T'.heap (locs ++ L) := by
  obtain ⟨hz, hk⟩ := hF
  rw [h0] at hz hk
  exact ⟨by rw [e1]; exact hz, fun q h1 h2 => by rw [e1]; exact hk q h1 h2,
    ⟨Nat.le_trans hS.1 (by rw [e1]; exact hz), fun q h1 h2 => by rw [e1, hk q (Nat.lt_of_lt_of_le h1 hS.1) (fun z => h2 (hA q (Nat.lt_of_lt_of_le h1 hS.1) z))]; exact hS.2.1 q h1 h2, fun q hq => by
      rcases List.mem_append.mp hq with h | h
      · exact hS.2.2 q h
      · exact hf _ (hL q h)⟩⟩
theorem vx_calli {S SX : Type} {post : Int32 → S → Prop} {px : SX → Prop} {B : S → State → Prop} {BX : String → SX → State → Prop} {AX : Nat → Prop} (hr : vx_Run p l e R s m args below meth c H locs cells slots mc ms (F0 m pc ls st0) rest (va_Qi post B A1 a) (vx_X px BX AX) free) (hS : va_S A0 H0 H locs) (hA : ∀ q, q < H.size → A1 q → A0 q) (hf : ∀ q, free q → A0 q) (hAX : ∀ q, q < H.size → AX q → A0 q)
    (kx : ∀ (E : String) (ce : Cell) (q9 : Addr) (u : SX) (t : State) (H1 : Heap) (locs1 : List Loc), t.heap = H1 → s.vm.Alike t.vm → px u → BX E u t → H.size ≤ H1.size → (∀ q : Nat, q < H.size → ¬ AX q → H1[q]? = H[q]?) → va_S A0 H0 H1 locs1 → H1[q9]? = some ce → ce.vm = .none → s.vm.findClass E = some ce.cls → vx_W p l e R s m args below meth c H1 locs1 (cells + mc) (slots + ms) Q (F0 m pc ls rest) q9)
    (kk : ∀ (r : Int32) (u : S) (t : State) (H1 : Heap) (locs1 : List Loc), t.heap = H1 → s.vm.Alike t.vm → post r u → B u t → H.size ≤ H1.size → (∀ q : Nat, q < H.size → ¬ A1 q → H1[q]? = H[q]?) → va_S A0 H0 H1 locs1 → W p l e R s m args below meth c H1 locs1 (cells + mc) (slots + ms) Q (F0 m (pc + 3) ls (.int r :: rest))) : W p l e R s m args below meth c H locs cells slots Q (F0 m pc ls st0) := by
  intro T hT X
  rcases hr T hT X with ⟨v, st₀, t, T', L, h0, X', hL, e1, e2, ⟨⟨r, u, hv, hp, hb⟩, hF⟩, st⟩ | ⟨q, st₀, t, T', L, E, ce, h0, X', hL, e1, e2, ⟨u, hp, hb, hF⟩, hce, hcv, hcl, st⟩
  · cases hv
    obtain ⟨k1, k2, k3⟩ := vx_keep h0 e1 hS hA hf hL hF
    obtain ⟨t2, a1, b1⟩ := kk r u t T'.heap (locs ++ L) e1.symm (by rw [← e2]; exact X'.warmed.alike) hp hb k1 k2 k3 T' rfl X'
    exact ⟨t2, st t2 a1, b1⟩
  · obtain ⟨k1, k2, k3⟩ := vx_keep h0 e1 hS hAX hf hL hF
    obtain ⟨t2, a1, b1⟩ := kx E ce q u t T'.heap (locs ++ L) e1.symm (by rw [← e2]; exact X'.warmed.alike) hp hb k1 k2 k3 (by rw [e1]; exact hce) hcv hcl T' rfl X'
    exact ⟨t2, st.trans a1, b1⟩
theorem vx_calll {S SX : Type} {post : Int64 → S → Prop} {px : SX → Prop} {B : S → State → Prop} {BX : String → SX → State → Prop} {AX : Nat → Prop} (hr : vx_Run p l e R s m args below meth c H locs cells slots mc ms (F0 m pc ls st0) rest (va_Ql post B A1 a) (vx_X px BX AX) free) (hS : va_S A0 H0 H locs) (hA : ∀ q, q < H.size → A1 q → A0 q) (hf : ∀ q, free q → A0 q) (hAX : ∀ q, q < H.size → AX q → A0 q)
    (kx : ∀ (E : String) (ce : Cell) (q9 : Addr) (u : SX) (t : State) (H1 : Heap) (locs1 : List Loc), t.heap = H1 → s.vm.Alike t.vm → px u → BX E u t → H.size ≤ H1.size → (∀ q : Nat, q < H.size → ¬ AX q → H1[q]? = H[q]?) → va_S A0 H0 H1 locs1 → H1[q9]? = some ce → ce.vm = .none → s.vm.findClass E = some ce.cls → vx_W p l e R s m args below meth c H1 locs1 (cells + mc) (slots + ms) Q (F0 m pc ls rest) q9)
    (kk : ∀ (r : Int64) (u : S) (t : State) (H1 : Heap) (locs1 : List Loc), t.heap = H1 → s.vm.Alike t.vm → post r u → B u t → H.size ≤ H1.size → (∀ q : Nat, q < H.size → ¬ A1 q → H1[q]? = H[q]?) → va_S A0 H0 H1 locs1 → W p l e R s m args below meth c H1 locs1 (cells + mc) (slots + ms) Q (F0 m (pc + 3) ls (.long r :: rest))) : W p l e R s m args below meth c H locs cells slots Q (F0 m pc ls st0) := by
  intro T hT X
  rcases hr T hT X with ⟨v, st₀, t, T', L, h0, X', hL, e1, e2, ⟨⟨r, u, hv, hp, hb⟩, hF⟩, st⟩ | ⟨q, st₀, t, T', L, E, ce, h0, X', hL, e1, e2, ⟨u, hp, hb, hF⟩, hce, hcv, hcl, st⟩
  · cases hv
    obtain ⟨k1, k2, k3⟩ := vx_keep h0 e1 hS hA hf hL hF
    obtain ⟨t2, a1, b1⟩ := kk r u t T'.heap (locs ++ L) e1.symm (by rw [← e2]; exact X'.warmed.alike) hp hb k1 k2 k3 T' rfl X'
    exact ⟨t2, st t2 a1, b1⟩
  · obtain ⟨k1, k2, k3⟩ := vx_keep h0 e1 hS hAX hf hL hF
    obtain ⟨t2, a1, b1⟩ := kx E ce q u t T'.heap (locs ++ L) e1.symm (by rw [← e2]; exact X'.warmed.alike) hp hb k1 k2 k3 (by rw [e1]; exact hce) hcv hcl T' rfl X'
    exact ⟨t2, st.trans a1, b1⟩
theorem vx_callf {S SX : Type} {post : UInt32 → S → Prop} {px : SX → Prop} {B : S → State → Prop} {BX : String → SX → State → Prop} {AX : Nat → Prop} (hr : vx_Run p l e R s m args below meth c H locs cells slots mc ms (F0 m pc ls st0) rest (va_Qf post B A1 a) (vx_X px BX AX) free) (hS : va_S A0 H0 H locs) (hA : ∀ q, q < H.size → A1 q → A0 q) (hf : ∀ q, free q → A0 q) (hAX : ∀ q, q < H.size → AX q → A0 q)
    (kx : ∀ (E : String) (ce : Cell) (q9 : Addr) (u : SX) (t : State) (H1 : Heap) (locs1 : List Loc), t.heap = H1 → s.vm.Alike t.vm → px u → BX E u t → H.size ≤ H1.size → (∀ q : Nat, q < H.size → ¬ AX q → H1[q]? = H[q]?) → va_S A0 H0 H1 locs1 → H1[q9]? = some ce → ce.vm = .none → s.vm.findClass E = some ce.cls → vx_W p l e R s m args below meth c H1 locs1 (cells + mc) (slots + ms) Q (F0 m pc ls rest) q9)
    (kk : ∀ (r : UInt32) (u : S) (t : State) (H1 : Heap) (locs1 : List Loc), t.heap = H1 → s.vm.Alike t.vm → post r u → B u t → H.size ≤ H1.size → (∀ q : Nat, q < H.size → ¬ A1 q → H1[q]? = H[q]?) → va_S A0 H0 H1 locs1 → W p l e R s m args below meth c H1 locs1 (cells + mc) (slots + ms) Q (F0 m (pc + 3) ls (.float r :: rest))) : W p l e R s m args below meth c H locs cells slots Q (F0 m pc ls st0) := by
  intro T hT X
  rcases hr T hT X with ⟨v, st₀, t, T', L, h0, X', hL, e1, e2, ⟨⟨r, u, hv, hp, hb⟩, hF⟩, st⟩ | ⟨q, st₀, t, T', L, E, ce, h0, X', hL, e1, e2, ⟨u, hp, hb, hF⟩, hce, hcv, hcl, st⟩
  · cases hv
    obtain ⟨k1, k2, k3⟩ := vx_keep h0 e1 hS hA hf hL hF
    obtain ⟨t2, a1, b1⟩ := kk r u t T'.heap (locs ++ L) e1.symm (by rw [← e2]; exact X'.warmed.alike) hp hb k1 k2 k3 T' rfl X'
    exact ⟨t2, st t2 a1, b1⟩
  · obtain ⟨k1, k2, k3⟩ := vx_keep h0 e1 hS hAX hf hL hF
    obtain ⟨t2, a1, b1⟩ := kx E ce q u t T'.heap (locs ++ L) e1.symm (by rw [← e2]; exact X'.warmed.alike) hp hb k1 k2 k3 (by rw [e1]; exact hce) hcv hcl T' rfl X'
    exact ⟨t2, st.trans a1, b1⟩
theorem vx_calld {S SX : Type} {post : UInt64 → S → Prop} {px : SX → Prop} {B : S → State → Prop} {BX : String → SX → State → Prop} {AX : Nat → Prop} (hr : vx_Run p l e R s m args below meth c H locs cells slots mc ms (F0 m pc ls st0) rest (va_Qd post B A1 a) (vx_X px BX AX) free) (hS : va_S A0 H0 H locs) (hA : ∀ q, q < H.size → A1 q → A0 q) (hf : ∀ q, free q → A0 q) (hAX : ∀ q, q < H.size → AX q → A0 q)
    (kx : ∀ (E : String) (ce : Cell) (q9 : Addr) (u : SX) (t : State) (H1 : Heap) (locs1 : List Loc), t.heap = H1 → s.vm.Alike t.vm → px u → BX E u t → H.size ≤ H1.size → (∀ q : Nat, q < H.size → ¬ AX q → H1[q]? = H[q]?) → va_S A0 H0 H1 locs1 → H1[q9]? = some ce → ce.vm = .none → s.vm.findClass E = some ce.cls → vx_W p l e R s m args below meth c H1 locs1 (cells + mc) (slots + ms) Q (F0 m pc ls rest) q9)
    (kk : ∀ (r : UInt64) (u : S) (t : State) (H1 : Heap) (locs1 : List Loc), t.heap = H1 → s.vm.Alike t.vm → post r u → B u t → H.size ≤ H1.size → (∀ q : Nat, q < H.size → ¬ A1 q → H1[q]? = H[q]?) → va_S A0 H0 H1 locs1 → W p l e R s m args below meth c H1 locs1 (cells + mc) (slots + ms) Q (F0 m (pc + 3) ls (.double r :: rest))) : W p l e R s m args below meth c H locs cells slots Q (F0 m pc ls st0) := by
  intro T hT X
  rcases hr T hT X with ⟨v, st₀, t, T', L, h0, X', hL, e1, e2, ⟨⟨r, u, hv, hp, hb⟩, hF⟩, st⟩ | ⟨q, st₀, t, T', L, E, ce, h0, X', hL, e1, e2, ⟨u, hp, hb, hF⟩, hce, hcv, hcl, st⟩
  · cases hv
    obtain ⟨k1, k2, k3⟩ := vx_keep h0 e1 hS hA hf hL hF
    obtain ⟨t2, a1, b1⟩ := kk r u t T'.heap (locs ++ L) e1.symm (by rw [← e2]; exact X'.warmed.alike) hp hb k1 k2 k3 T' rfl X'
    exact ⟨t2, st t2 a1, b1⟩
  · obtain ⟨k1, k2, k3⟩ := vx_keep h0 e1 hS hAX hf hL hF
    obtain ⟨t2, a1, b1⟩ := kx E ce q u t T'.heap (locs ++ L) e1.symm (by rw [← e2]; exact X'.warmed.alike) hp hb k1 k2 k3 (by rw [e1]; exact hce) hcv hcl T' rfl X'
    exact ⟨t2, st.trans a1, b1⟩
theorem vx_callv {S SX : Type} {post : S → Prop} {px : SX → Prop} {B : S → State → Prop} {BX : String → SX → State → Prop} {AX : Nat → Prop} (hr : vx_Run p l e R s m args below meth c H locs cells slots mc ms (F0 m pc ls st0) rest (va_Qv post B A1 a) (vx_X px BX AX) free) (hS : va_S A0 H0 H locs) (hA : ∀ q, q < H.size → A1 q → A0 q) (hf : ∀ q, free q → A0 q) (hAX : ∀ q, q < H.size → AX q → A0 q)
    (kx : ∀ (E : String) (ce : Cell) (q9 : Addr) (u : SX) (t : State) (H1 : Heap) (locs1 : List Loc), t.heap = H1 → s.vm.Alike t.vm → px u → BX E u t → H.size ≤ H1.size → (∀ q : Nat, q < H.size → ¬ AX q → H1[q]? = H[q]?) → va_S A0 H0 H1 locs1 → H1[q9]? = some ce → ce.vm = .none → s.vm.findClass E = some ce.cls → vx_W p l e R s m args below meth c H1 locs1 (cells + mc) (slots + ms) Q (F0 m pc ls rest) q9)
    (kk : ∀ (u : S) (t : State) (H1 : Heap) (locs1 : List Loc), t.heap = H1 → s.vm.Alike t.vm → post u → B u t → H.size ≤ H1.size → (∀ q : Nat, q < H.size → ¬ A1 q → H1[q]? = H[q]?) → va_S A0 H0 H1 locs1 → W p l e R s m args below meth c H1 locs1 (cells + mc) (slots + ms) Q (F0 m (pc + 3) ls (rest))) : W p l e R s m args below meth c H locs cells slots Q (F0 m pc ls st0) := by
  intro T hT X
  rcases hr T hT X with ⟨v, st₀, t, T', L, h0, X', hL, e1, e2, ⟨⟨u, hv, hp, hb⟩, hF⟩, st⟩ | ⟨q, st₀, t, T', L, E, ce, h0, X', hL, e1, e2, ⟨u, hp, hb, hF⟩, hce, hcv, hcl, st⟩
  · cases hv
    obtain ⟨k1, k2, k3⟩ := vx_keep h0 e1 hS hA hf hL hF
    obtain ⟨t2, a1, b1⟩ := kk u t T'.heap (locs ++ L) e1.symm (by rw [← e2]; exact X'.warmed.alike) hp hb k1 k2 k3 T' rfl X'
    exact ⟨t2, st t2 a1, b1⟩
  · obtain ⟨k1, k2, k3⟩ := vx_keep h0 e1 hS hAX hf hL hF
    obtain ⟨t2, a1, b1⟩ := kx E ce q u t T'.heap (locs ++ L) e1.symm (by rw [← e2]; exact X'.warmed.alike) hp hb k1 k2 k3 (by rw [e1]; exact hce) hcv hcl T' rfl X'
    exact ⟨t2, st.trans a1, b1⟩
/-- caught by the row x of this method's table; the rows ahead don't take it -/
theorem vx_catch {own name : String} {E : String} {ce : Cell} {q : Addr} (hown : s.vm.findClass own = some m.cls) (pre : List ExceptionTableEntry) (x : ExceptionTableEntry) (suf : List ExceptionTableEntry) (hsplit : c.exceptionTable.toList = pre ++ x :: suf)
    (hpass : ∀ z ∈ pre, covers z pc = false ∨ (z.catchType ≠ 0 ∧ ∃ nm : String, (Cond.classLink own z.catchType nm).before args s = true ∧ va_Nc E nm s)) (hx : covers x pc = true) (h0 : x.catchType ≠ 0)
    (hlink : (Cond.classLink own x.catchType name).before args s = true) (hcast : (Cond.castable E name).before args s = true) (hcell : H[q]? = some ce) (hv : ce.vm = .none) (hcl : s.vm.findClass E = some ce.cls)
    (kk : W p l e R s m args below meth c H locs cells slots Q (F0 m x.handlerPc ls [.ref q])) : vx_W p l e R s m args below meth c H locs cells slots Q (F0 m pc ls rest) q := by
  intro T hT X
  have hpl : e.platform.magicAccessors = ({} : Platform).magicAccessors := by rw [X.admits.platform]
  obtain ⟨c3, c4, hc3, hc4, hasg⟩ := Cond.castable_spec hcast
  cases Option.some.inj (hc3.symm.trans hcl)
  obtain ⟨c5, hc5, hcl5⟩ := Cond.classLink_spec hown hlink e.platform hpl
  cases Option.some.inj (hc4.symm.trans hc5)
  obtain ⟨vm', X', st⟩ := X.thenCaughtThrough q (g := F0 m pc ls rest) rfl (Steps.refl _) (by rw [hT]; exact hcell) (by rw [hv]; rfl) (by obtain ⟨k9, h9, -⟩ := Vm.findClass_spec hcl; exact ⟨k9, h9⟩) pre x suf hsplit
    (fun z hz => by
      rcases hpass z hz with h | ⟨hz0, nm, hl1, hn1⟩
      · exact Or.inl h
      · obtain ⟨c6, hc6, hcl6⟩ := Cond.classLink_spec hown hl1 e.platform hpl
        obtain ⟨a8, b8, h1, h2, h3⟩ := hn1
        cases Option.some.inj (h1.symm.trans hcl)
        cases Option.some.inj (h2.symm.trans hc6)
        exact Or.inr ⟨hz0, _, hcl6, h3⟩) hx (Or.inr ⟨h0, c4, hcl5, hasg⟩)
  obtain ⟨t, a1, b1⟩ := kk (T.setVm vm') hT X'
  exact ⟨t, st.trans a1, b1⟩
end Rows
section Ends
variable {p : Program} {l : Launch} {e : Env} {R : Room} {s : State} {m : MethodId} {args : Array Value} {below : List Frame} {meth : Method} {c : Code} {H : Heap} {locs : List Loc} {cells slots : Nat} {Q : State → Prop}
variable {mc ms : Nat} {free : Addr → Prop} {A0 A1 : Nat → Prop} {H0 : Heap} {a : Array Value} {ls : Array Slot} {st0 rest : List Value}
variable {Qc : Array Value → State → Outcome → State → Prop} {XC : String → State → State → Prop}
/-- what a body that may throw owes at its end -/
def vx_MQ (below : List Frame) (Qc : Array Value → State → Outcome → State → Prop) (XC : String → State → State → Prop) (a : Array Value) (s : State) (mc ms : Nat) (free : Addr → Prop) : State → Prop := fun t =>
  ∃ o, t.status = .running ∧ Ended t below o ∧ vx_Q Qc XC mc ms free a s o t
theorem vx_ret {g : JFrame} {mc ms : Nat} (k : W p l e R s m args below meth c H locs cells slots (MQ below Qc args s mc ms free) g) : W p l e R s m args below meth c H locs cells slots (vx_MQ below Qc XC args s mc ms free) g := by
  intro T hT X
  obtain ⟨t, a1, o, b1, b2, b3, b4⟩ := k T hT X
  exact ⟨t, a1, o, b1, b2, Or.inl ⟨b3, b4⟩⟩
/-- not caught here: it goes on to the caller -/
theorem vx_widen {g : JFrame} {q : Addr} {k n : Nat} (h1 : cells ≤ k) (h2 : slots ≤ n) (kk : vx_W p l e R s m args below meth c H locs k n Q g q) : vx_W p l e R s m args below meth c H locs cells slots Q g q := fun T hT X => kk T hT (stand_widen X h1 h2)
theorem vx_out {pc : Nat} {E : String} {ce : Cell} {q : Addr} {mc ms : Nat} (hout : ∀ x ∈ c.exceptionTable.toList, covers x pc = false) (hlocks : meth.locks = false) (hcell : H[q]? = some ce) (hv : ce.vm = .none) (hcl : s.vm.findClass E = some ce.cls)
    (hx : ∀ t : State, t.heap = H → s.vm.Alike t.vm → XC E s t) (hf : ∀ z ∈ locs, free z.base) (hc : cells ≤ mc) (hs : slots ≤ ms) :
    vx_W p l e R s m args below meth c H locs cells slots (vx_MQ below Qc XC args s mc ms free) (F0 m pc ls rest) q := by
  intro T hT X
  obtain ⟨st1, hrun, hend, hW, hsm⟩ := X.leaveThrown q (g := F0 m pc ls rest) rfl rfl rfl hout hlocks
  have hcell9 : (T.setFrames (.throwing q :: below)).heap[q]? = some ce := by
    show T.heap[q]? = some ce
    rw [hT]; exact hcell
  exact ⟨_, st1, .threw q, hrun, hend, Or.inr ⟨q, rfl, E, ce, locs, hx _ hT hW.alike, hcell9, hv, hcl, hW, hsm.mono hc hs, hf⟩⟩
theorem vx_frame {U : State} {k n : Nat} (h : s.sameButNew ({ U with vm := s.vm } : State) locs k n) : s.heap.size ≤ U.heap.size ∧ ∀ q : Nat, q < s.heap.size → (∀ z ∈ locs, z.base ≠ q) → U.heap[q]? = s.heap[q]? := by
  obtain ⟨-, h2, -, -, -, h6⟩ := h
  refine ⟨h2, fun q hq hz => ?_⟩
  obtain ⟨c9, e1, e2, e3, e4⟩ := h6 q _ (Array.getElem?_eq_getElem hq)
  have hs : c9.slots = (s.heap[q]).slots := Array.ext_getElem? fun i => e4 i fun hm => hz _ hm rfl
  have h9 : c9 = s.heap[q] := by
    rw [hs] at e2
    exact e2
  have e5 : U.heap[q]? = some c9 := e1
  rw [e5, h9, Array.getElem?_eq_getElem hq]
/-- the words of a throw but the four that speak of the heap -/
def vx_no (w : Cond) : Bool := decide (w ≠ .isRef (.static Bundle.tN "UNASSIGNED_STACK" Bundle.steD)) && decide (w ≠ .isRef (.static Bundle.tN "SUPPRESSED_SENTINEL" Bundle.listD)) && decide (w ≠ .laysStatic Bundle.tN "UNASSIGNED_STACK" Bundle.steD) && decide (w ≠ .laysStatic Bundle.tN "SUPPRESSED_SENTINEL" Bundle.listD)
def vx_at0 (own : String) (ic : Nat) (X : String) (names : List String) : List Cond := (Bundle.ownAtoms0 own ic X names).filter vx_no
def vx_atS (own : String) (ic : Nat) (X : String) (names : List String) : List Cond := (Bundle.ownAtoms own ic X names).filter vx_no
/-- a word that the tables alone decide, or a good one -/
def vx_ot (w : Cond) : Bool := w.onTables || goodWord w
theorem vx_ot_at {args a' : Array Value} {s U : State} {w : Cond} (hW : s.WarmedH U.vm) (hvm : s.vm = U.vm) (hg : vx_ot w = true) (h : w.before args s = true) : w.before a' U = true := by
  simp only [vx_ot, Bool.or_eq_true] at hg
  rcases hg with hg | hg
  · exact va_tabs hg hvm h
  · exact word_at hW (good_of_word hg) h
/-- a list's words: the good ones out of the method's own list, the others by premises of their own -/
theorem vx_hat {args : Array Value} {s : State} {L B : List Cond} (h1 : ∀ w ∈ L.filter goodWord, w.before args s = true) (h2 : ∀ w ∈ L.filter (fun w => !goodWord w), w ∈ B) (h3 : ∀ w ∈ B, w.before args s = true) : ∀ w ∈ L, w.before args s = true := by
  intro w hw
  by_cases g : goodWord w = true
  · exact h1 w (List.mem_filter.mpr ⟨hw, g⟩)
  · refine h3 w (h2 w (List.mem_filter.mpr ⟨hw, ?_⟩))
    show (!goodWord w) = true
    cases hgw : goodWord w
    · rfl
    · exact absurd hgw g
theorem vx_c {args : Array Value} {s : State} {w : Cond} {B : List Cond} (h : w.before args s = true) (t : ∀ w ∈ B, w.before args s = true) : ∀ w' ∈ w :: B, w'.before args s = true := fun w' h' => (List.mem_cons.mp h').elim (fun e => by rw [e]; exact h) (t w')
theorem vx_n {args : Array Value} {s : State} : ∀ w ∈ ([] : List Cond), w.before args s = true := fun _ h => nomatch h
theorem vx_own {args : Array Value} {s : State} {L : List Cond} (h1 : ∀ w ∈ L.filter vx_no, w.before args s = true)
    (hU : (Cond.isRef (.static Bundle.tN "UNASSIGNED_STACK" Bundle.steD)).before args s = true) (hN : (Cond.isRef (.static Bundle.tN "SUPPRESSED_SENTINEL" Bundle.listD)).before args s = true)
    (lU : (Cond.laysStatic Bundle.tN "UNASSIGNED_STACK" Bundle.steD).before args s = true) (lN : (Cond.laysStatic Bundle.tN "SUPPRESSED_SENTINEL" Bundle.listD).before args s = true) : ∀ w ∈ L, w.before args s = true := by
  intro w hw
  by_cases e1 : w = .isRef (.static Bundle.tN "UNASSIGNED_STACK" Bundle.steD)
  · rw [e1]; exact hU
  · by_cases e2 : w = .isRef (.static Bundle.tN "SUPPRESSED_SENTINEL" Bundle.listD)
    · rw [e2]; exact hN
    · by_cases e3 : w = .laysStatic Bundle.tN "UNASSIGNED_STACK" Bundle.steD
      · rw [e3]; exact lU
      · by_cases e4 : w = .laysStatic Bundle.tN "SUPPRESSED_SENTINEL" Bundle.listD
        · rw [e4]; exact lN
        · exact h1 w (List.mem_filter.mpr ⟨hw, by unfold vx_no; rw [decide_eq_true e1, decide_eq_true e2, decide_eq_true e3, decide_eq_true e4]; rfl⟩)
/-- where a static field lies, its class's statics cell in H -/
def vx_L (C n d : String) (A : Nat → Prop) (U : State) (H : Heap) : Prop := ∃ (c : ClassId) (k : Class) (i : Nat) (f : Field) (a : Nat) (cell : Cell), U.vm.findClass C = some c ∧ U.fieldFound? C n d = some (c, k, i, f) ∧ f.isStatic = true ∧ k.statics = some a ∧ H[a]? = some cell ∧ cell.vm.isStatics = true ∧ cell.cls = c ∧ f.slot < cell.slots.size ∧ k.staticTypes[f.slot]? = some f.type ∧ ¬ A a
theorem vx_L.moved {C n d : String} {A : Nat → Prop} {u U : State} {H : Heap} (hvm : u.vm.Alike U.vm) (h : vx_L C n d A u H) : vx_L C n d A U H := by
  obtain ⟨c, k, i, f, a, cell, h1, h2, h3, h4, h5, h6, h7, h8, h9, h10⟩ := h
  obtain ⟨k', hi', he⟩ := State.fieldFound?_setVm hvm h2
  exact ⟨c, k', i, f, a, cell, by rw [hvm.findClass]; exact h1, hi', h3, by rw [he]; exact h4, h5, h6, h7, h8, by rw [he]; exact h9, h10⟩
theorem vx_L.kept {C n d : String} {A : Nat → Prop} {U : State} {H H1 : Heap} (h : vx_L C n d A U H) (hq : ∀ a : Nat, a < H.size → ¬ A a → H1[a]? = H[a]?) : vx_L C n d A U H1 := by
  obtain ⟨c, k, i, f, a, cell, h1, h2, h3, h4, h5, h6, h7, h8, h9, h10⟩ := h
  exact ⟨c, k, i, f, a, cell, h1, h2, h3, h4, by rw [hq a (Array.getElem?_eq_some_iff.mp h5).1 h10]; exact h5, h6, h7, h8, h9, h10⟩
theorem vx_L.narrow {C n d : String} {A B : Nat → Prop} {U : State} {H : Heap} (h : vx_L C n d A U H) (hAB : ∀ q, B q → A q) : vx_L C n d B U H := by
  obtain ⟨c, k, i, f, a, cell, h1, h2, h3, h4, h5, h6, h7, h8, h9, h10⟩ := h
  exact ⟨c, k, i, f, a, cell, h1, h2, h3, h4, h5, h6, h7, h8, h9, fun z => h10 (hAB _ z)⟩
theorem vx_L.word {C n d : String} {A : Nat → Prop} {s : State} {args : Array Value} (h : vx_L C n d A s s.heap) : (Cond.laysStatic C n d).before args s = true := by
  obtain ⟨c, k, i, f, a, cell, h1, h2, h3, h4, h5, h6, h7, h8, h9, -⟩ := h
  show (Cond.laysStatic C n d).holds args s none s [] = true
  exact Cond.laysStatic_of h1 h2 h3 h4 h5 h6 h7 h8 h9
/-- .. and what it holds: null or some reference -/
def vx_Zq (C n d : String) (A : Nat → Prop) (U : State) (H : Heap) : Prop := va_Zq C n d A U H ∧ vx_L C n d A U H
theorem vx_Zq.moved {C n d : String} {A : Nat → Prop} {u U : State} {H : Heap} (hvm : u.vm.Alike U.vm) (h : vx_Zq C n d A u H) : vx_Zq C n d A U H := ⟨va_Zq.moved hvm h.1, vx_L.moved hvm h.2⟩
theorem vx_Zq.kept {C n d : String} {A : Nat → Prop} {U : State} {H H1 : Heap} (h : vx_Zq C n d A U H) (hq : ∀ a : Nat, a < H.size → ¬ A a → H1[a]? = H[a]?) : vx_Zq C n d A U H1 := ⟨va_Zq.kept h.1 hq, vx_L.kept h.2 hq⟩
theorem vx_Zq.narrow {C n d : String} {A B : Nat → Prop} {U : State} {H : Heap} (h : vx_Zq C n d A U H) (hAB : ∀ q, B q → A q) : vx_Zq C n d B U H := ⟨va_Zq.narrow h.1 hAB, vx_L.narrow h.2 hAB⟩
theorem vx_Zqof {args : Array Value} {s : State} {C n d : String} {A : Nat → Prop} (hl : (Cond.laysStatic C n d).before args s = true) (hini : (Cond.initialized C).before args s = true) (h : (Cond.isRef (.static C n d)).before args s = true) (hA : ∀ a : Nat, a < s.heap.size → ¬ A a) : vx_Zq C n d A s s.heap := by
  refine ⟨va_Zqof hl hini h hA, ?_⟩
  obtain ⟨c, k, i, f, a, cell, h1, h2, h3, h4, h5, h6, h7, h8, h9⟩ := Cond.laysStatic_spec hl
  exact ⟨c, k, i, f, a, cell, h1, h2, h3, h4, h5, h6, h7, h8, h9, hA a (Array.getElem?_eq_some_iff.mp h5).1⟩
theorem vx_isRef {C n d : String} {v : Value} {A : Nat → Prop} {s : State} {args : Array Value} (h : va_Z C n d v A s s.heap) (hv : v.isRef = true) : (Cond.isRef (.static C n d)).before args s = true := by
  obtain ⟨cf, kf, fi, f, a, cell, h1, h2, h3, h4, h5, h6, h7, -⟩ := h
  have he : (Term.static C n d).eval args s none [] s = some v := by
    simp [Term.eval, State.fieldNamed?, h1, h2, h4, h5, h6, h7]
  simp only [Cond.before, Cond.holds, Cond.value, he]
  cases v <;> simp_all [Value.isRef]
theorem vx_isRefq {C n d : String} {A : Nat → Prop} {s : State} {args : Array Value} (h : va_Zq C n d A s s.heap) : (Cond.isRef (.static C n d)).before args s = true := by
  rcases h with h | ⟨t, h⟩
  · exact vx_isRef h rfl
  · exact vx_isRef h rfl
/-- the same frame, seen from here: as if the method were called anew in this heap -/
theorem vx_rebase {T : State} (X : Stand p l e R s m args below meth c T locs cells slots) {R' : Room} (hf : R'.frames ≤ R.frames) (hl : R'.locals ≤ R.locals) (hc : cells + R'.cells ≤ R.cells) (hs : slots + R'.slots ≤ R.slots) :
    Stand p l e R' ((T.setVm s.vm).setFrames (.invoking m args :: below)) m args below meth c T [] 0 0 := by
  have htop : (T.setVm s.vm).topJava?.isSome := X.here.top
  have hF : ((T.setVm s.vm).setFrames (.invoking m args :: below)).frames = .invoking m args :: below := State.frames_setFrames _ (State.cur_lt_of_top htop)
  obtain ⟨g₀, hg0⟩ := Option.isSome_iff_exists.mp htop
  obtain ⟨r, hr⟩ := State.topJava?_eq_some.mp hg0
  have hl9 : e.platform.stackLimits (T.setVm s.vm).me = e.platform.stackLimits s.me := X.limits
  have hb9 : (T.setVm s.vm).me.stackBytes = s.me.stackBytes := X.bytes
  refine ⟨X.admits, X.cas, X.clock, hF, ?_, X.hears, X.method, X.code, X.here, X.tail, X.warmed, ?_, ?_, ?_⟩
  · have h := X.room
    have hU : ((T.setVm s.vm).setFrames (.invoking m args :: below)).localsInUse = s.localsInUse := by
      rw [State.localsInUse_invoking hF (meth := meth) (c := c) X.method X.code, State.localsInUse_invoking X.frames X.method X.code]
    simp only [State.hasRoom, Bool.and_eq_true, decide_eq_true_eq] at h ⊢
    obtain ⟨⟨⟨⟨h1, h2, h3, h4, h5, h6⟩, h7⟩, h8⟩, h9⟩ := h
    rw [X.frames, List.length_cons] at h2 h3
    have q1 := X.heapSize
    have q2 := X.used
    simp only [hF, hU, List.length_cons, State.stackLimits_setFrames, State.stackBytes_setFrames, hl9, hb9]
    refine ⟨⟨⟨⟨by omega, by omega, by omega, by omega, by omega, h6⟩, ?_⟩, ?_⟩, X.book⟩
    · show T.heap.size + R'.cells ≤ e.platform.maxCells
      omega
    · show T.slotsUsed + R'.slots ≤ e.platform.maxSlots
      omega
  · rw [State.stackLimits_setFrames]; rfl
  · rw [State.stackBytes_setFrames]; rfl
  · refine ⟨?_, Nat.le_refl _, Nat.le_refl _, ?_, ?_, fun a c9 h9 => ⟨c9, h9, rfl, rfl, fun _ _ => rfl⟩⟩
    · obtain ⟨t, ht, -⟩ := State.frames_cons hr
      show T.setVm s.vm = { ((T.setVm s.vm).setFrames (.invoking m args :: below)).setFrames (T.setVm s.vm).frames with heap := T.heap, slotsUsed := T.slotsUsed }
      rw [State.setFrames_setFrames, State.setFrames_self ht]
      rfl
    · show T.slotsUsed = T.slotsUsed + ((T.heap.toList.drop T.heap.size).map (·.slots.size)).sum
      rw [List.drop_eq_nil_of_le (Nat.le_of_eq Array.length_toList)]
      rfl
    · show ((T.heap.toList.drop T.heap.size).map (·.slots.size)).sum ≤ 0
      rw [List.drop_eq_nil_of_le (Nat.le_of_eq Array.length_toList)]
      exact Nat.le_refl _
/-- 'throw new E()': new; dup; invokespecial; athrow -/
theorem vx_throw0 {cc : ByteArray} {pc : Nat} (hexec : p.tables.exec = Jvm.exec) (hb : c.code = cc) (hl : l.stackTraces = false) {own cls : String} {names : List String} {ik ic mc ms : Nat} {A : Nat → Prop}
    (hown : s.vm.findClass own = some m.cls) (hcls : Bundle.fit cls = true) (hnames : ∀ n ∈ names, Bundle.fit n = true)
    (hk : (Cond.classLink own ik cls).before args s = true) (hini : (Cond.initialized cls).before args s = true) (hat : ∀ w ∈ vx_at0 own ic cls names, w.before args s = true)
    (hgood : ∀ w ∈ Cond.classLink own ik cls :: Cond.initialized cls :: vx_at0 own ic cls names, vx_ot w = true)
    (hU : vx_Zq Bundle.tN "UNASSIGNED_STACK" Bundle.steD A s s.heap) (hN : vx_Zq Bundle.tN "SUPPRESSED_SENTINEL" Bundle.listD A s s.heap) (hS : va_S A s.heap H locs) (hsize : ls.size = c.maxLocals)
    (d0 : decode cc pc = .ok (.new ik, 3)) (d3 : decode cc (pc + 3) = .ok (.dup, 1)) (d4 : decode cc (pc + 4) = .ok (.invokespecial ic, 3)) (d7 : decode cc (pc + 7) = .ok (.athrow, 1))
    (hout : ∀ x ∈ c.exceptionTable.toList, covers x (pc + 7) = false)
    (hRframes : names.length + 3 < R.frames) (hRlocals : (rest.map fun v => v.category).sum + (13 * (names.length + 1) + 42) ≤ R.locals) (hRcells : cells + 1 ≤ R.cells) (hRslots : slots + 6 ≤ R.slots) (hlocks : meth.locks = false)
    (hx : ∀ t : State, s.vm.Alike t.vm → H.size ≤ t.heap.size → (∀ q : Nat, q < H.size → t.heap[q]? = H[q]?) → XC cls s t)
    (hf : ∀ z ∈ locs, free z.base) (hc : cells + 1 ≤ mc) (hs : slots + 6 ≤ ms) :
    W p l e R s m args below meth c H locs cells slots (vx_MQ below Qc XC args s mc ms free) (F0 m pc ls rest) := by
  intro T hT X
  have htr : e.platform.stackTraces = false := (show e.platform.stackTraces = l.stackTraces by rw [X.admits.platform]).trans hl
  have Y := vx_rebase X (R' := { frames := R.frames, locals := R.locals, cells := 1, slots := 6 }) (Nat.le_refl _) (Nat.le_refl _) hRcells hRslots
  obtain ⟨s', hA⟩ : ∃ z, z = (T.setVm s.vm).setFrames (.invoking m args :: below) := ⟨_, rfl⟩
  rw [← hA] at Y
  have hvm : s'.vm = s.vm := by rw [hA]; rfl
  have hhp : s'.heap = H := by rw [hA]; exact hT
  have hW0 : s.WarmedH s'.vm := by rw [hvm]; exact State.WarmedH.refl s
  have hat' : ∀ w ∈ vx_at0 own ic cls names, w.before args s' = true := fun w hw => vx_ot_at hW0 hvm.symm (hgood w (List.mem_cons_of_mem _ (List.mem_cons_of_mem _ hw))) (hat w hw)
  have hk' : (Cond.classLink own ik cls).before args s' = true := vx_ot_at hW0 hvm.symm (hgood _ List.mem_cons_self) hk
  have hini' : (Cond.initialized cls).before args s' = true := vx_ot_at hW0 hvm.symm (hgood _ (List.mem_cons_of_mem _ List.mem_cons_self)) hini
  have hU' : vx_Zq Bundle.tN "UNASSIGNED_STACK" Bundle.steD A s' s'.heap := by rw [hhp]; exact vx_Zq.moved hW0.alike (hU.kept hS.2.1)
  have hN' : vx_Zq Bundle.tN "SUPPRESSED_SENTINEL" Bundle.listD A s' s'.heap := by rw [hhp]; exact vx_Zq.moved hW0.alike (hN.kept hS.2.1)
  have h : ∀ w ∈ Bundle.ownAtoms0 own ic cls names, w.before args s' = true := vx_own hat' (vx_isRefq hU'.1) (vx_isRefq hN'.1) hU'.2.word hN'.2.word
  have hown' : s'.vm.findClass own = some m.cls := by rw [hvm]; exact hown
  have hins : (Cond.instantiable cls 6).before args s' = true := h _ (by simp [Bundle.ownAtoms0])
  obtain ⟨vm₁, cX, kX, hfX, hkX, -, -, X₁, st1⟩ := Y.newCold hexec (own := own) (C := cls) (index := ik) (n := 6) hown' hk' hins hini'
    (g := F0 m pc ls rest) rfl (by rw [hb]; exact d0) (Nat.le_refl _) (Nat.le_refl _)
  generalize hT1 : (T.setVm vm₁).pushCell { cls := cX, slots := kX.instanceTypes.map defaultValue, vm := .none } = T1 at X₁ st1
  have hcat : (Value.ref T.heap.size).category = 1 := rfl
  have hcellA : T1.heap[T.heap.size]? = some (freshCell cX kX) := by rw [← hT1]; exact State.heap_pushCell_size _ _
  have d3' : decode c.code (pc + 3) = .ok (.dup, 1) := by rw [hb]; exact d3
  obtain ⟨U, hsteps, hrun, hend, hW, hsame, ce, hce, hO⟩ := X₁.ctorThrow0 hexec htr (own := own) (cls := cls) (names := names) (ic := ic) hown' hcls hnames h (fun x hx => nomatch hx) hfX hkX hcellA (by rw [hhp, hT]; exact Nat.le_refl _)
    (g := { method := m, pc := pc + 4, locals := ls, stack := .ref T.heap.size :: .ref T.heap.size :: rest, locked := none }) rfl hsize rfl rfl (rest := rest) rfl
    (by rw [hb]; exact d4) (by rw [hb]; exact d7) hout hRframes (by simp only [List.map_cons, List.sum_cons, hcat]; omega) hlocks
  obtain ⟨f1, f2⟩ := vx_frame hsame
  rw [hhp] at f1 f2
  have hWs : s.WarmedH U.vm := State.WarmedH.trans hW0 hW
  have hcl : s.vm.findClass cls = some ce.cls := by
    have h9 := hO.cls
    rw [hvm] at h9
    exact h9
  have hall : s.sameButNew ({ U with vm := s.vm } : State) locs mc ms := by
    subst hA
    obtain ⟨e1, e2⟩ := hsame
    rw [State.setFrames_setFrames] at e1
    have h2 : (T.setVm s.vm).sameButNew ({ U with vm := s.vm } : State) [] (0 + 1) (0 + 6) := ⟨e1, e2⟩
    have h3 := X.same.trans h2
    rw [List.append_nil] at h3
    exact h3.mono hc hs
  refine ⟨U, ?_, .threw T.heap.size, hrun, hend, Or.inr ⟨T.heap.size, rfl, cls, ce, locs, hx U hWs.alike f1 (fun q hq => f2 q hq (fun z hz => nomatch hz)), hce, hO.vm, hcl, hWs, hall, hf⟩⟩
  refine st1 _ ?_
  show Steps p.tables e below (T1.setTop { method := m, pc := pc + 3, locals := ls, stack := .ref T.heap.size :: rest, locked := none }) _
  jvm_step X₁.here [X₁.here.top, hexec, d3', Value.category]
  exact hsteps
/-- 'throw new E("text")': new; dup; ldc; invokespecial; athrow -/
theorem vx_throwS {cc : ByteArray} {pc : Nat} (hexec : p.tables.exec = Jvm.exec) (hb : c.code = cc) (hl : l.stackTraces = false) {own cls text : String} {names : List String} {ik is ic mc ms sa : Nat} {A : Nat → Prop}
    (hown : s.vm.findClass own = some m.cls) (hcls : Bundle.fit cls = true) (hnames : ∀ n ∈ names, Bundle.fit n = true)
    (hk : (Cond.classLink own ik cls).before args s = true) (hini : (Cond.initialized cls).before args s = true) (hstr : vk_R own is text sa s) (hat : ∀ w ∈ vx_atS own ic cls names, w.before args s = true)
    (hgood : ∀ w ∈ Cond.classLink own ik cls :: Cond.initialized cls :: vx_atS own ic cls names, vx_ot w = true)
    (hU : vx_Zq Bundle.tN "UNASSIGNED_STACK" Bundle.steD A s s.heap) (hN : vx_Zq Bundle.tN "SUPPRESSED_SENTINEL" Bundle.listD A s s.heap) (hS : va_S A s.heap H locs) (hsize : ls.size = c.maxLocals)
    (d0 : decode cc pc = .ok (.new ik, 3)) (d3 : decode cc (pc + 3) = .ok (.dup, 1)) (d4 : decode cc (pc + 4) = .ok (.ldc is, 2)) (d6 : decode cc (pc + 6) = .ok (.invokespecial ic, 3)) (d9 : decode cc (pc + 9) = .ok (.athrow, 1))
    (hout : ∀ x ∈ c.exceptionTable.toList, covers x (pc + 9) = false)
    (hRframes : names.length + 3 < R.frames) (hRlocals : (rest.map fun v => v.category).sum + (13 * (names.length + 1) + 43) ≤ R.locals) (hRcells : cells + 1 ≤ R.cells) (hRslots : slots + 6 ≤ R.slots) (hlocks : meth.locks = false)
    (hx : ∀ t : State, s.vm.Alike t.vm → H.size ≤ t.heap.size → (∀ q : Nat, q < H.size → t.heap[q]? = H[q]?) → XC cls s t)
    (hf : ∀ z ∈ locs, free z.base) (hc : cells + 1 ≤ mc) (hs : slots + 6 ≤ ms) :
    W p l e R s m args below meth c H locs cells slots (vx_MQ below Qc XC args s mc ms free) (F0 m pc ls rest) := by
  intro T hT X
  have htr : e.platform.stackTraces = false := (show e.platform.stackTraces = l.stackTraces by rw [X.admits.platform]).trans hl
  have Y := vx_rebase X (R' := { frames := R.frames, locals := R.locals, cells := 1, slots := 6 }) (Nat.le_refl _) (Nat.le_refl _) hRcells hRslots
  obtain ⟨s', hA⟩ : ∃ z, z = (T.setVm s.vm).setFrames (.invoking m args :: below) := ⟨_, rfl⟩
  rw [← hA] at Y
  have hvm : s'.vm = s.vm := by rw [hA]; rfl
  have hhp : s'.heap = H := by rw [hA]; exact hT
  have hW0 : s.WarmedH s'.vm := by rw [hvm]; exact State.WarmedH.refl s
  have hat' : ∀ w ∈ vx_atS own ic cls names, w.before args s' = true := fun w hw => vx_ot_at hW0 hvm.symm (hgood w (List.mem_cons_of_mem _ (List.mem_cons_of_mem _ hw))) (hat w hw)
  have hk' : (Cond.classLink own ik cls).before args s' = true := vx_ot_at hW0 hvm.symm (hgood _ List.mem_cons_self) hk
  have hini' : (Cond.initialized cls).before args s' = true := vx_ot_at hW0 hvm.symm (hgood _ (List.mem_cons_of_mem _ List.mem_cons_self)) hini
  have hU' : vx_Zq Bundle.tN "UNASSIGNED_STACK" Bundle.steD A s' s'.heap := by rw [hhp]; exact vx_Zq.moved hW0.alike (hU.kept hS.2.1)
  have hN' : vx_Zq Bundle.tN "SUPPRESSED_SENTINEL" Bundle.listD A s' s'.heap := by rw [hhp]; exact vx_Zq.moved hW0.alike (hN.kept hS.2.1)
  have h : ∀ w ∈ Bundle.ownAtoms own ic cls names, w.before args s' = true := vx_own hat' (vx_isRefq hU'.1) (vx_isRefq hN'.1) hU'.2.word hN'.2.word
  have hown' : s'.vm.findClass own = some m.cls := by rw [hvm]; exact hown
  have hins : (Cond.instantiable cls 6).before args s' = true := h _ (by simp [Bundle.ownAtoms])
  obtain ⟨vm₁, cX, kX, hfX, hkX, -, -, X₁, st1⟩ := Y.newCold hexec (own := own) (C := cls) (index := ik) (n := 6) hown' hk' hins hini'
    (g := F0 m pc ls rest) rfl (by rw [hb]; exact d0) (Nat.le_refl _) (Nat.le_refl _)
  generalize hT1 : (T.setVm vm₁).pushCell { cls := cX, slots := kX.instanceTypes.map defaultValue, vm := .none } = T1 at X₁ st1
  have hcat : (Value.ref T.heap.size).category = 1 := rfl
  have hcellA : T1.heap[T.heap.size]? = some (freshCell cX kX) := by rw [← hT1]; exact State.heap_pushCell_size _ _
  have d3' : decode c.code (pc + 3) = .ok (.dup, 1) := by rw [hb]; exact d3
  have d4' : decode c.code (pc + 4) = .ok (.ldc is, 2) := by rw [hb]; exact d4
  have hstr' : vk_R own is text sa s' := vk_R.warm hW0 hstr
  obtain ⟨U, hsteps, hrun, hend, hW, hsame, ce, hce, hO⟩ := X₁.ctorThrowS hexec htr (own := own) (cls := cls) (names := names) (ic := ic) hown' hcls hnames h (fun x hx => nomatch hx) hfX hkX hcellA (by rw [hhp, hT]; exact Nat.le_refl _) (msg := .ref sa) rfl
    (g := { method := m, pc := pc + 6, locals := ls, stack := .ref sa :: .ref T.heap.size :: .ref T.heap.size :: rest, locked := none }) rfl hsize rfl rfl (rest := rest) rfl
    (by rw [hb]; exact d6) (by rw [hb]; exact d9) hout hRframes (by simp only [List.map_cons, List.sum_cons, hcat]; omega) hlocks
  obtain ⟨f1, f2⟩ := vx_frame hsame
  rw [hhp] at f1 f2
  have hWs : s.WarmedH U.vm := State.WarmedH.trans hW0 hW
  have hcl : s.vm.findClass cls = some ce.cls := by
    have h9 := hO.cls
    rw [hvm] at h9
    exact h9
  have hall : s.sameButNew ({ U with vm := s.vm } : State) locs mc ms := by
    subst hA
    obtain ⟨e1, e2⟩ := hsame
    rw [State.setFrames_setFrames] at e1
    have h2 : (T.setVm s.vm).sameButNew ({ U with vm := s.vm } : State) [] (0 + 1) (0 + 6) := ⟨e1, e2⟩
    have h3 := X.same.trans h2
    rw [List.append_nil] at h3
    exact h3.mono hc hs
  refine ⟨U, ?_, .threw T.heap.size, hrun, hend, Or.inr ⟨T.heap.size, rfl, cls, ce, locs, hx U hWs.alike f1 (fun q hq => f2 q hq (fun z hz => nomatch hz)), hce, hO.vm, hcl, hWs, hall, hf⟩⟩
  refine st1 _ ?_
  show Steps p.tables e below (T1.setTop { method := m, pc := pc + 3, locals := ls, stack := .ref T.heap.size :: rest, locked := none }) _
  jvm_step X₁.here [X₁.here.top, hexec, d3', Value.category]
  exact X₁.ldcString hexec (own := own) (text := text) (index := is) (a := sa) hown' hstr'.1 hstr'.2
    (g := { method := m, pc := pc + 4, locals := ls, stack := .ref T.heap.size :: .ref T.heap.size :: rest, locked := none }) rfl d4' _ hsteps
/-- 'throw new E("text")', the text by a wide index -/
theorem vx_throwSW {cc : ByteArray} {pc : Nat} (hexec : p.tables.exec = Jvm.exec) (hb : c.code = cc) (hl : l.stackTraces = false) {own cls text : String} {names : List String} {ik is ic mc ms sa : Nat} {A : Nat → Prop}
    (hown : s.vm.findClass own = some m.cls) (hcls : Bundle.fit cls = true) (hnames : ∀ n ∈ names, Bundle.fit n = true)
    (hk : (Cond.classLink own ik cls).before args s = true) (hini : (Cond.initialized cls).before args s = true) (hstr : vk_R own is text sa s) (hat : ∀ w ∈ vx_atS own ic cls names, w.before args s = true)
    (hgood : ∀ w ∈ Cond.classLink own ik cls :: Cond.initialized cls :: vx_atS own ic cls names, vx_ot w = true)
    (hU : vx_Zq Bundle.tN "UNASSIGNED_STACK" Bundle.steD A s s.heap) (hN : vx_Zq Bundle.tN "SUPPRESSED_SENTINEL" Bundle.listD A s s.heap) (hS : va_S A s.heap H locs) (hsize : ls.size = c.maxLocals)
    (d0 : decode cc pc = .ok (.new ik, 3)) (d3 : decode cc (pc + 3) = .ok (.dup, 1)) (d4 : decode cc (pc + 4) = .ok (.ldc_w is, 3)) (d7 : decode cc (pc + 7) = .ok (.invokespecial ic, 3)) (d10 : decode cc (pc + 10) = .ok (.athrow, 1))
    (hout : ∀ x ∈ c.exceptionTable.toList, covers x (pc + 10) = false)
    (hRframes : names.length + 3 < R.frames) (hRlocals : (rest.map fun v => v.category).sum + (13 * (names.length + 1) + 43) ≤ R.locals) (hRcells : cells + 1 ≤ R.cells) (hRslots : slots + 6 ≤ R.slots) (hlocks : meth.locks = false)
    (hx : ∀ t : State, s.vm.Alike t.vm → H.size ≤ t.heap.size → (∀ q : Nat, q < H.size → t.heap[q]? = H[q]?) → XC cls s t)
    (hf : ∀ z ∈ locs, free z.base) (hc : cells + 1 ≤ mc) (hs : slots + 6 ≤ ms) :
    W p l e R s m args below meth c H locs cells slots (vx_MQ below Qc XC args s mc ms free) (F0 m pc ls rest) := by
  intro T hT X
  have htr : e.platform.stackTraces = false := (show e.platform.stackTraces = l.stackTraces by rw [X.admits.platform]).trans hl
  have Y := vx_rebase X (R' := { frames := R.frames, locals := R.locals, cells := 1, slots := 6 }) (Nat.le_refl _) (Nat.le_refl _) hRcells hRslots
  obtain ⟨s', hA⟩ : ∃ z, z = (T.setVm s.vm).setFrames (.invoking m args :: below) := ⟨_, rfl⟩
  rw [← hA] at Y
  have hvm : s'.vm = s.vm := by rw [hA]; rfl
  have hhp : s'.heap = H := by rw [hA]; exact hT
  have hW0 : s.WarmedH s'.vm := by rw [hvm]; exact State.WarmedH.refl s
  have hat' : ∀ w ∈ vx_atS own ic cls names, w.before args s' = true := fun w hw => vx_ot_at hW0 hvm.symm (hgood w (List.mem_cons_of_mem _ (List.mem_cons_of_mem _ hw))) (hat w hw)
  have hk' : (Cond.classLink own ik cls).before args s' = true := vx_ot_at hW0 hvm.symm (hgood _ List.mem_cons_self) hk
  have hini' : (Cond.initialized cls).before args s' = true := vx_ot_at hW0 hvm.symm (hgood _ (List.mem_cons_of_mem _ List.mem_cons_self)) hini
  have hU' : vx_Zq Bundle.tN "UNASSIGNED_STACK" Bundle.steD A s' s'.heap := by rw [hhp]; exact vx_Zq.moved hW0.alike (hU.kept hS.2.1)
  have hN' : vx_Zq Bundle.tN "SUPPRESSED_SENTINEL" Bundle.listD A s' s'.heap := by rw [hhp]; exact vx_Zq.moved hW0.alike (hN.kept hS.2.1)
  have h : ∀ w ∈ Bundle.ownAtoms own ic cls names, w.before args s' = true := vx_own hat' (vx_isRefq hU'.1) (vx_isRefq hN'.1) hU'.2.word hN'.2.word
  have hown' : s'.vm.findClass own = some m.cls := by rw [hvm]; exact hown
  have hins : (Cond.instantiable cls 6).before args s' = true := h _ (by simp [Bundle.ownAtoms])
  obtain ⟨vm₁, cX, kX, hfX, hkX, -, -, X₁, st1⟩ := Y.newCold hexec (own := own) (C := cls) (index := ik) (n := 6) hown' hk' hins hini'
    (g := F0 m pc ls rest) rfl (by rw [hb]; exact d0) (Nat.le_refl _) (Nat.le_refl _)
  generalize hT1 : (T.setVm vm₁).pushCell { cls := cX, slots := kX.instanceTypes.map defaultValue, vm := .none } = T1 at X₁ st1
  have hcat : (Value.ref T.heap.size).category = 1 := rfl
  have hcellA : T1.heap[T.heap.size]? = some (freshCell cX kX) := by rw [← hT1]; exact State.heap_pushCell_size _ _
  have d3' : decode c.code (pc + 3) = .ok (.dup, 1) := by rw [hb]; exact d3
  have d4' : decode c.code (pc + 4) = .ok (.ldc_w is, 3) := by rw [hb]; exact d4
  have hstr' : vk_R own is text sa s' := vk_R.warm hW0 hstr
  obtain ⟨U, hsteps, hrun, hend, hW, hsame, ce, hce, hO⟩ := X₁.ctorThrowS hexec htr (own := own) (cls := cls) (names := names) (ic := ic) hown' hcls hnames h (fun x hx => nomatch hx) hfX hkX hcellA (by rw [hhp, hT]; exact Nat.le_refl _) (msg := .ref sa) rfl
    (g := { method := m, pc := pc + 7, locals := ls, stack := .ref sa :: .ref T.heap.size :: .ref T.heap.size :: rest, locked := none }) rfl hsize rfl rfl (rest := rest) rfl
    (by rw [hb]; exact d7) (by rw [hb]; exact d10) hout hRframes (by simp only [List.map_cons, List.sum_cons, hcat]; omega) hlocks
  obtain ⟨f1, f2⟩ := vx_frame hsame
  rw [hhp] at f1 f2
  have hWs : s.WarmedH U.vm := State.WarmedH.trans hW0 hW
  have hcl : s.vm.findClass cls = some ce.cls := by
    have h9 := hO.cls
    rw [hvm] at h9
    exact h9
  have hall : s.sameButNew ({ U with vm := s.vm } : State) locs mc ms := by
    subst hA
    obtain ⟨e1, e2⟩ := hsame
    rw [State.setFrames_setFrames] at e1
    have h2 : (T.setVm s.vm).sameButNew ({ U with vm := s.vm } : State) [] (0 + 1) (0 + 6) := ⟨e1, e2⟩
    have h3 := X.same.trans h2
    rw [List.append_nil] at h3
    exact h3.mono hc hs
  refine ⟨U, ?_, .threw T.heap.size, hrun, hend, Or.inr ⟨T.heap.size, rfl, cls, ce, locs, hx U hWs.alike f1 (fun q hq => f2 q hq (fun z hz => nomatch hz)), hce, hO.vm, hcl, hWs, hall, hf⟩⟩
  refine st1 _ ?_
  show Steps p.tables e below (T1.setTop { method := m, pc := pc + 3, locals := ls, stack := .ref T.heap.size :: rest, locked := none }) _
  jvm_step X₁.here [X₁.here.top, hexec, d3', Value.category]
  exact X₁.ldcStringW hexec (own := own) (text := text) (index := is) (a := sa) hown' hstr'.1 hstr'.2
    (g := { method := m, pc := pc + 4, locals := ls, stack := .ref T.heap.size :: .ref T.heap.size :: rest, locked := none }) rfl d4' _ hsteps
end Ends
section Bodies
variable {l : Launch}
theorem vx_ofW {y : MethodName} {ws ws' : List Cond} {rm : Room} {Pc : Array Value → State → Prop} {Qc : Array Value → State → Outcome → State → Prop} {XC : String → State → State → Prop} {mc ms : Nat} {free : Addr → Prop} {cc : ByteArray} {maxL : Nat} {ret : Option FieldType}
    (hy : plainName y.cls = true) (hw : ws = Cond.code y cc maxL ret :: ws')
    (body : ∀ p e s m args below meth c s₁, BodyLoose p l y (headSpec ws rm) cc maxL ret e s m args below meth c s₁ → c.maxLocals = maxL → (∀ x ∈ c.exceptionTable.toList, False) → Pc args s →
      W p l e (headSpec ws rm).room s m args below meth c s.heap [] 0 0 (vx_MQ below Qc XC args s mc ms free) (entryFrame m args maxL)) : vx_Met l y ws rm Pc Qc XC mc ms free := by
  refine MetFree.of_bodyS (code := cc) (maxLocals := maxL) (ret := ret) hy ?_ ?_
  · intro args s m h hn
    obtain ⟨meth, c, h1, h2, h3, h4, h5, h6, -, -⟩ := Cond.code_spec hn (atoms_spec (ws := ws) h _ (by rw [hw]; exact List.mem_cons_self))
    exact ⟨meth, c, h1, h2, h3, h4, h5, h6⟩
  · intro p e s m args below meth c s₁ B hml hP _
    have hh0 : s₁.heap = s.heap := by rw [B.state]; rfl
    have ht : ∀ x ∈ c.exceptionTable.toList, False := by
      obtain ⟨meth9, c9, h1, h2, -, -, -, -, h7, -⟩ := Cond.code_spec B.named (atoms_spec (ws := ws) B.pre _ (by rw [hw]; exact List.mem_cons_self))
      cases Option.some.inj (h1.symm.trans B.method)
      cases Option.some.inj (h2.symm.trans (Stand.of_body B).code)
      intro x hx
      rw [Array.isEmpty_iff.mp h7] at hx
      cases hx
    obtain ⟨t, a1, o, b1, b2, b3⟩ := body p e s m args below meth c s₁ B hml ht hP s₁ hh0 (Stand.of_body B)
    exact ⟨t, o, a1, b1, b2, b3⟩
/-- the table of a body with handlers -/
theorem vx_table {p : Program} {x y : MethodName} {S : Spec} {cc bytes : ByteArray} {maxL maxL' : Nat} {ret ret' : Option FieldType} {e : Env} {s s₁ : State} {m : MethodId} {args : Array Value} {below : List Frame} {meth : Method} {c : Code} {hh : List (Nat × Nat × Nat × Nat)}
    (B : BodyLoose p l y S cc maxL ret e s m args below meth c s₁) (h : (Cond.codeWith y bytes maxL' ret' hh).before args s = true) : c.exceptionTable.toList = tableOf hh := by
  obtain ⟨m9, meth9, c9, hn9, h1, h2, -, -, h6, -⟩ := Cond.codeWith_spec h
  cases Option.some.inj (hn9.symm.trans B.named)
  cases Option.some.inj (h1.symm.trans B.method)
  cases Option.some.inj (h2.symm.trans (Stand.of_body B).code)
  rw [← h6, table_eq]
end Bodies
end VXA
/-! ===== END ===== -/
/-! ===== BEGIN a static call of a method with an exception table ===== -/
section VXS
variable {p : Program} {l : Launch} {e : Env} {R : Room} {s : State} {m : MethodId} {args : Array Value} {below : List Frame} {meth : Method} {c : Code} {T : State} {H : Heap} {locs : List Loc} {cells slots : Nat}
abbrev vx_CSW (R : Room) (s : State) (args : Array Value) (own : String) (index : Nat) (y : MethodName) (bytes : ByteArray) (maxL : Nat) (ret : Option FieldType) (hh : List (Nat × Nat × Nat × Nat)) (ws : List Cond) (rm : Room) (mc ms n : Nat) : Prop :=
  (rm.cells = mc ∧ rm.slots = ms ∧ rm.frames + 1 ≤ R.frames ∧ 8 + (maxL + 11) + rm.locals ≤ R.locals ∧ (∀ w ∈ ws, ∀ (a' : Array Value) (U : State), s.WarmedH U.vm → w.before a' U = true) ∧ Cond.codeWith y bytes maxL ret hh ∈ ws) ∧
  (Cond.codeWith y bytes maxL ret hh).before args s = true ∧ (Cond.initialized y.cls).before args s = true ∧ (y.cls ≠ "java/lang/invoke/MethodHandle" ∧ y.cls ≠ "java/lang/invoke/VarHandle") ∧
  (∀ sig, parseMethodDescriptor y.desc = some sig → n = sig.parameters.length) ∧ (Cond.methodLink own index y).before args s = true ∧ (Cond.static y).before args s = true
theorem vx_cwSW {own : String} {index maxL mc ms : Nat} {y : MethodName} {bytes : ByteArray} {ret : Option FieldType} {hh : List (Nat × Nat × Nat × Nat)} {Ts ws ws' : List Cond} {rm : Room} (n : Nat) (ht : ∀ w ∈ Ts, w.before args s = true) (hT : GoodIn Ts (va_wsS own index y ws)) (hw : ws = Cond.codeWith y bytes maxL ret hh :: ws') (hrc : rm.cells = mc) (hrs : rm.slots = ms)
    (hd : y.cls ≠ "java/lang/invoke/MethodHandle" ∧ y.cls ≠ "java/lang/invoke/VarHandle" ∧ (parseMethodDescriptor y.desc).map (fun d => d.parameters.length) = some n) (hR : rm.frames + 1 ≤ R.frames ∧ 8 + (maxL + 11) + rm.locals ≤ R.locals) :
    vx_CSW R s args own index y bytes maxL ret hh ws rm mc ms n := by
  have ok : ∀ w ∈ va_wsS own index y ws, w.before args s = true := fun w h => ht w (hT w h).1
  have hG : GoodIn Ts ws := fun w h => hT w (by unfold va_wsS; exact List.mem_append_right _ h)
  have hc : Cond.codeWith y bytes maxL ret hh ∈ ws := by rw [hw]; exact List.mem_cons_self
  refine ⟨⟨hrc, hrs, hR.1, hR.2, pay_in ht hG, hc⟩, ht _ (hG _ hc).1, ok _ (by simp [va_wsS]), ⟨hd.1, hd.2.1⟩, fun sig h => ?_, ok _ (by simp [va_wsS]), ok _ (by simp [va_wsS])⟩
  have h2 := hd.2.2
  rw [h] at h2
  exact (Option.some.inj h2).symm
theorem vx_callSW (X : Stand p l e R s m args below meth c T locs cells slots) (hexec : p.tables.exec = Jvm.exec) {own : String} {index : Nat} {y : MethodName} {bytes : ByteArray} {maxL : Nat} {ret : Option FieldType} {hh : List (Nat × Nat × Nat × Nat)}
    (hown : s.vm.findClass own = some m.cls) (hlink : (Cond.methodLink own index y).before args s = true) (hstat : (Cond.static y).before args s = true) (hinit : (Cond.initialized y.cls).before args s = true)
    (hcode : (Cond.codeWith y bytes maxL ret hh).before args s = true) (hy : y.cls ≠ "java/lang/invoke/MethodHandle" ∧ y.cls ≠ "java/lang/invoke/VarHandle")
    {W9 : Nat} {Pre : Pt → Array Value → Prop} {Post : Pt → Array Value → Option Value → Pt → Prop} (hK : Back l R p e below s args y 3 W9 Pre Post)
    {g : JFrame} (hg : g.method = m) (hsize : g.locals.size = c.maxLocals) {argsL rest : List Value} (hlen : ∀ sig, parseMethodDescriptor y.desc = some sig → argsL.length = sig.parameters.length)
    (hstack : g.stack = argsL.reverse ++ rest) (hW : 2 * g.monitorRoom + (rest.map fun v => v.category).sum ≤ W9) (hdg : decode c.code g.pc = .ok (.invokestatic index, 3))
    (hpre : ∀ vm₁, s.WarmedH vm₁ → Pre ⟨T.setVm vm₁, locs, cells, slots⟩ argsL.toArray) :
    ∃ (v : Option Value) (vm₁ : Vm) (B : Pt), s.WarmedH vm₁ ∧ Stand p l e R s m args below meth c B.U B.locs B.cells B.slots ∧ Post ⟨T.setVm vm₁, locs, cells, slots⟩ argsL.toArray v B ∧
      ∀ target, Steps p.tables e below (B.U.setTop { g with pc := g.pc + 3, stack := v.toList ++ rest }) target → Steps p.tables e below (T.setTop g) target := by
  obtain ⟨mk, methM, cM, hnamed, hmethM, -, -, -, -, -, -, hsigM⟩ := Cond.codeWith_spec hcode
  have hstatic : methM.isStatic = true := Cond.static_spec hnamed hmethM hstat
  obtain ⟨kP, hkP, -⟩ := className_of_methodNamed hnamed
  have hinitP : kP.init = .initialized := Cond.initialized_spec (findClass_of_methodNamed hnamed) hkP hinit
  obtain ⟨vm₁, X₁, hstep₁⟩ := X.invokestatic hexec hown hlink hnamed hmethM hstatic hkP hinitP hy (g := g) hg (argsL := argsL) (rest := rest) (hlen _ hsigM) hstack hdg
  obtain ⟨v, B, X', hpost, hsteps⟩ := hK m meth c ⟨T.setVm vm₁, locs, cells, slots⟩ { g with stack := rest } (.invokestatic index) mk argsL.toArray X₁ hg hsize hdg hW (X₁.named hnamed) (hpre vm₁ X₁.warmed)
  exact ⟨v, vm₁, B, X₁.warmed, X', hpost, fun target h => hstep₁ _ fun acts => by rw [doInvoke_state]; exact hsteps.trans h⟩
theorem vx_runSW {y : MethodName} {bytes cc : ByteArray} {maxL nL mc ms n index : Nat} {ret : Option FieldType} {hh : List (Nat × Nat × Nat × Nat)} {ws : List Cond} {rm : Room} {Pc : Array Value → State → Prop} {Qc : Array Value → State → Outcome → State → Prop} {free : Addr → Prop} {Ts : List Cond} {own : String} {As rest : List Value} {g : JFrame}
    (S : CallFix p m c cc nL s args Ts own) (hM : Met l y ws rm Pc Qc mc ms free) (cw : vx_CSW R s args own index y bytes maxL ret hh ws rm mc ms n) (hp : PreS s H Pc As)
    (hg : g.method = m) (hn : As.length = n) (hsize : g.locals.size = nL) (hstack : g.stack = As.reverse ++ rest) (hW : 2 * g.monitorRoom + (rest.map fun v => v.category).sum ≤ 8) (hdg : decode cc g.pc = .ok (.invokestatic index, 3)) (hf : cells + mc ≤ R.cells ∧ slots + ms ≤ R.slots) :
    va_Run p l e R s m args below meth c H locs cells slots mc ms g rest (Qc As.toArray) (free) := by
  obtain ⟨⟨hrc, hrs, hfr, hlo, hws, hcw⟩, hcode, hini, hy, hlen, hl, hstt⟩ := cw
  have hK : Back l R p e below s args y 3 8 (PreOf R mc ms Pc) (PostOf Qc mc ms free) := va_backW (hh := hh) (bytes := bytes) (maxL := maxL) (ret := ret) hM hp.1 hrc hrs hfr hlo hws hcw (fun a' U hW => word_at hW (Or.inl (by first | rfl | simp [Cond.onTables, Cond.keeps, Cond.steady])) hini)
  obtain ⟨hx, hb, hml, ho, -⟩ := S
  intro T hT X
  obtain ⟨v, vm₁, ⟨U', l2, c2, s2⟩, hW₁, X', ⟨g', mk, t, L, e1, e2, hq, h1, hL, h2, h3⟩, st⟩ := vx_callSW X hx (hh := hh) (bytes := bytes) (maxL := maxL) (ret := ret) ho hl hstt hini hcode hy hK hg (hsize.trans hml.symm) (argsL := As) (rest := rest) (fun sig h => hn.trans (hlen sig h)) hstack hW (by rw [hb]; exact hdg)
    (fun vm₁ hW₁ => ⟨hf.1, hf.2, hp.2 (T.setVm vm₁) hT hW₁⟩)
  dsimp only [Pt.U, Pt.locs, Pt.cells, Pt.slots] at X' e1 e2 h1 h2 h3 st
  subst h1; subst h2; subst h3
  exact ⟨v, (T.setVm vm₁).calling g' mk As.toArray, t, U', L, hT, X', hL, e1, e2, hq, st⟩
/-- not caught here, past rows that name other classes: it goes on to the caller -/
theorem vx_outP {p : Program} {l : Launch} {e : Env} {R : Room} {s : State} {m : MethodId} {args : Array Value} {below : List Frame} {meth : Method} {c : Code} {H : Heap} {locs : List Loc} {cells slots : Nat} {free : Addr → Prop} {ls : Array Slot} {rest : List Value} {Qc : Array Value → State → Outcome → State → Prop} {XC : String → State → State → Prop}
    {pc : Nat} {own E : String} {ce : Cell} {q : Addr} {mc ms : Nat} (hown : s.vm.findClass own = some m.cls) (hlocks : meth.locks = false)
    (hpass : ∀ z ∈ c.exceptionTable.toList, covers z pc = false ∨ (z.catchType ≠ 0 ∧ ∃ nm : String, (Cond.classLink own z.catchType nm).before args s = true ∧ va_Nc E nm s)) (hcell : H[q]? = some ce) (hv : ce.vm = .none) (hcl : s.vm.findClass E = some ce.cls)
    (hx : ∀ t : State, t.heap = H → s.vm.Alike t.vm → XC E s t) (hf : ∀ z ∈ locs, free z.base) (hc : cells ≤ mc) (hs : slots ≤ ms) :
    vx_W p l e R s m args below meth c H locs cells slots (vx_MQ below Qc XC args s mc ms free) (F0 m pc ls rest) q := by
  intro T hT X
  have hpl : e.platform.magicAccessors = ({} : Platform).magicAccessors := by rw [X.admits.platform]
  obtain ⟨vm', hW', X', st⟩ := X.outThrough hlocks q (g := F0 m pc ls rest) rfl rfl rfl (cell := ce) (by rw [hT]; exact hcell) (by rw [hv]; rfl)
    (by obtain ⟨k9, h9, -⟩ := Vm.findClass_spec hcl; exact ⟨k9, h9⟩) (fun z hz => by
      rcases hpass z hz with h | ⟨hz0, nm, hl1, hn1⟩
      · exact Or.inl h
      · obtain ⟨c6, hc6, hcl6⟩ := Cond.classLink_spec hown hl1 e.platform hpl
        obtain ⟨a8, b8, h1, h2, h3⟩ := hn1
        cases Option.some.inj (h1.symm.trans hcl)
        cases Option.some.inj (h2.symm.trans hc6)
        exact Or.inr ⟨hz0, _, hcl6, h3⟩)
  obtain ⟨g₀, hfr⟩ := X'.frames_eq
  have hcell9 : ((T.setVm vm').setFrames (.throwing q :: below)).heap[q]? = some ce := by
    show T.heap[q]? = some ce
    rw [hT]; exact hcell
  have hend : Ended ((T.setVm vm').setFrames (.throwing q :: below)) below (.threw q) := State.frames_setFrames _ (State.cur_lt_of_frames hfr)
  refine ⟨(T.setVm vm').setFrames (.throwing q :: below), ?_, .threw q, X'.here.running, hend, Or.inr ⟨q, rfl, E, ce, locs, hx _ hT (X'.ends _).1.alike, hcell9, hv, hcl, (X'.ends _).1, (X'.ends _).2.mono hc hs, hf⟩⟩
  rw [X.pushThrowing_eq]
  exact st
/-- a thing of a world lies in the heap -/
theorem vx_lt {D : va_G} {cl : List vw_C} {ws : va_W} {H1 : Heap} (h : va_P D cl ws H1) {k : Nat} {q : Nat × va_E} (hk : ws[k]? = some q) : q.1 < H1.size := (h k q hk).lt
end VXS
/-! ===== END ===== -/
/-! ===== BEGIN methods with a table of their own: called by a name, returning or throwing ===== -/
section VXH
/-! vx_backW, vx_callVX, vx_callSX, vx_callVW, vx_runVW, vx_runVX, vx_runSX, vx_ofWH follow the same proofs as their sisters above (Free/Laws.lean, Shelf42/LK1.lean); vx_outP calls Shelf42/NT130.lean (outThrough). -/
section
variable {l : Launch} {R : Room} {p : Program} {e : Env} {below : List Frame} {s : State} {sargs : Array Value} {y : MethodName} {len W9 : Nat}
theorem vx_backW {ws : List Cond} {rm : Room} {Pc : Array Value → State → Prop} {Qc : Array Value → State → Outcome → State → Prop} {XC : String → State → State → Prop} {mc ms : Nat} {free : Addr → Prop} {bytes : ByteArray} {maxL : Nat} {ret : Option FieldType} {hh : List (Nat × Nat × Nat × Nat)}
    (hM : vx_Met l y ws rm Pc Qc XC mc ms free) (hblind : FrameBlind Pc) (hrc : rm.cells = mc) (hrs : rm.slots = ms)
    (hframes : rm.frames + 1 ≤ R.frames) (hlocals : W9 + (maxL + 11) + rm.locals ≤ R.locals)
    (hws : ∀ w ∈ ws, ∀ a' U, s.WarmedH U.vm → w.before a' U = true) (hcode : Cond.codeWith y bytes maxL ret hh ∈ ws) (hinit : ∀ a' U, s.WarmedH U.vm → (Cond.initialized y.cls).before a' U = true) :
    vx_Back l R p e below s sargs y len W9 (PreOf R mc ms Pc) (PostOf Qc mc ms free) (vx_Post XC mc ms free) := by
  intro m meth c A g ig mk a X hg hsize hdg hW hn hp
  have h1 : (headSpec ws rm).pre.before a A.U = true := atoms_intro fun w hw => hws w hw _ _ X.warmed
  have h2 : (Cond.codeWith y bytes maxL ret hh).before a A.U = true := hws _ hcode _ _ X.warmed
  have h3 : (Cond.initialized y.cls).before a A.U = true := hinit _ _ X.warmed
  have h4 : A.cells + (headSpec ws rm).room.cells ≤ R.cells := by rw [show (headSpec ws rm).room.cells = mc from hrc]; exact hp.1
  have h5 : A.slots + (headSpec ws rm).room.slots ≤ R.slots := by rw [show (headSpec ws rm).room.slots = ms from hrs]; exact hp.2.1
  have hPc : Pc a (A.U.calling g mk a) := hblind _ _ _ _ hp.2.2
  obtain ⟨U, Ls, c0, s0⟩ := A
  dsimp only [Pt.U, Pt.locs, Pt.cells, Pt.slots] at h1 h2 h3 h4 h5 X hn hPc ⊢
  obtain ⟨m9, methY, cY, hn9, hmY, hcY, -, hlY, -⟩ := Cond.codeWith_spec h2
  cases Option.some.inj (hn9.symm.trans hn)
  obtain ⟨kY, hkY, -⟩ := className_of_methodNamed hn
  have hinitY : kY.init = .initialized := Cond.initialized_spec (findClass_of_methodNamed hn) hkY h3
  have h : At U g.method c below := by rw [hg]; exact X.here
  have hlocals9 : W9 + (maxL + 11) + (headSpec ws rm).room.locals ≤ R.locals := hlocals
  have happ : (headSpec ws rm).appliesLoose y e.platform (U.calling g mk a) = true :=
    Spec.appliesLoose_calling (g := g) h hdg hn hkY hinitY
      (X.room_calling (g := g) (R' := (headSpec ws rm).room) hsize hmY hcY hframes (by rw [hlY]; omega) h4 h5) h1
  obtain ⟨mid, hmid⟩ := h.above
  have hfr : (U.setTop g).frames = (.java g :: mid) ++ below := by rw [State.frames_setTop' g h.top, hmid]; rfl
  obtain ⟨o, s₂, hsteps, -, hend, hq⟩ := Steps.callFree hM p X.admits X.cas X.clock (acts := []) hfr happ hPc trivial
  have hq' : vx_Q Qc XC mc ms free a (U.calling g mk a) o s₂ := hq
  rw [State.frames_setTop' g h.top] at hend
  obtain ⟨g₀, hg0⟩ := Option.isSome_iff_exists.mp h.top
  obtain ⟨r, hr⟩ := State.topJava?_eq_some.mp hg0
  have hr' : (({ U with heap := s₂.heap, slotsUsed := s₂.slotsUsed } : State).setVm s₂.vm).frames = .java g₀ :: r := hr
  rcases hq' with ⟨hqc, L, hfe, hL⟩ | ⟨q, rfl, E, ce, L, hx, hce, hcv, hcl, hW₂, hsm, hL⟩
  · obtain ⟨⟨v, rfl⟩, hW₂, e2, q2, q3, q4, q5, q6⟩ := id hfe
    have e3 : s₂ = ({ (U.calling g mk a).setFrames s₂.frames with heap := s₂.heap, slotsUsed := s₂.slotsUsed } : State).setVm s₂.vm := by
      have : s₂ = ({ s₂ with vm := (U.calling g mk a).vm } : State).setVm s₂.vm := rfl
      rw [e2] at this
      exact this
    obtain ⟨c₂, i₂, len₂, hc₂, hd₂, hf₂⟩ := hend
    have hW' : U.WarmedH s₂.vm := hW₂
    have hcc : c₂ = c := by
      have h1 : s₂.code? g.method = U.code? g.method := by
        rw [State.code?_eq, State.code?_eq, hW'.alike.method?]
      exact Option.some.inj (hc₂.symm.trans (h1.trans h.code))
    subst hcc
    have hlen : len₂ = len := by rw [hdg] at hd₂; cases hd₂; rfl
    subst hlen
    have hs₂ : s₂ = (({ U with heap := s₂.heap, slotsUsed := s₂.slotsUsed } : State).setVm s₂.vm).setTop { g with pc := g.pc + len₂, stack := v.toList ++ g.stack } := by
      refine e3.trans ?_
      rw [hf₂, State.calling_eq h.top, State.setFrames_setFrames, State.setTop_of_frames _ hr', hr]
      rfl
    have hsame : U.sameButNew ({ U with heap := s₂.heap, slotsUsed := s₂.slotsUsed } : State) L mc ms := by
      refine ⟨?_, q2, q3, q4, q5, q6⟩
      obtain ⟨t, ht, -⟩ := State.frames_cons hr
      show ({ U with heap := s₂.heap, slotsUsed := s₂.slotsUsed } : State) = { U.setFrames U.frames with heap := s₂.heap, slotsUsed := s₂.slotsUsed }
      rw [State.setFrames_self ht]
    subst hg
    refine Or.inl ⟨v, ⟨(({ U with heap := s₂.heap, slotsUsed := s₂.slotsUsed } : State).setVm s₂.vm), Ls ++ L, c0 + mc, s0 + ms⟩,
      ⟨X.admits, X.cas, X.clock, X.frames, X.room, X.hears, X.method, X.code, (X.here.setHeapUsed s₂.heap s₂.slotsUsed).setVm hW'.alike, X.tail, State.WarmedH.trans X.warmed hW', X.limits, X.bytes, X.same.trans (hsame.setVm s.vm)⟩,
      ⟨g, mk, s₂, L, rfl, rfl, hqc, rfl, hL, rfl, rfl⟩, ?_⟩
    show Steps p.tables e below _ ((({ U with heap := s₂.heap, slotsUsed := s₂.slotsUsed } : State).setVm s₂.vm).setTop { g with pc := g.pc + len₂, stack := v.toList ++ g.stack })
    rw [← hs₂]
    exact hsteps
  · obtain ⟨e2, q2, q3, q4, q5, q6⟩ := id hsm
    have e3 : s₂ = ({ (U.calling g mk a).setFrames s₂.frames with heap := s₂.heap, slotsUsed := s₂.slotsUsed } : State).setVm s₂.vm := by
      have : s₂ = ({ s₂ with vm := (U.calling g mk a).vm } : State).setVm s₂.vm := rfl
      rw [e2] at this
      exact this
    have hf₂ : s₂.frames = .throwing q :: .java g :: U.frames.tail := hend
    have hW' : U.WarmedH s₂.vm := hW₂
    have hs₂ : s₂ = ((({ U with heap := s₂.heap, slotsUsed := s₂.slotsUsed } : State).setVm s₂.vm).setTop g).pushFrame (.throwing q) := by
      refine e3.trans ?_
      rw [hf₂, State.calling_eq h.top, State.setFrames_setFrames, State.pushFrame, State.frames_setTop _ hr', State.setTop_of_frames _ hr', State.setFrames_setFrames, hr]
      rfl
    have hsame : U.sameButNew ({ U with heap := s₂.heap, slotsUsed := s₂.slotsUsed } : State) L mc ms := by
      refine ⟨?_, q2, q3, q4, q5, q6⟩
      obtain ⟨t, ht, -⟩ := State.frames_cons hr
      show ({ U with heap := s₂.heap, slotsUsed := s₂.slotsUsed } : State) = { U.setFrames U.frames with heap := s₂.heap, slotsUsed := s₂.slotsUsed }
      rw [State.setFrames_self ht]
    subst hg
    refine Or.inr ⟨q, ⟨(({ U with heap := s₂.heap, slotsUsed := s₂.slotsUsed } : State).setVm s₂.vm), Ls ++ L, c0 + mc, s0 + ms⟩,
      ⟨X.admits, X.cas, X.clock, X.frames, X.room, X.hears, X.method, X.code, (X.here.setHeapUsed s₂.heap s₂.slotsUsed).setVm hW'.alike, X.tail, State.WarmedH.trans X.warmed hW', X.limits, X.bytes, X.same.trans (hsame.setVm s.vm)⟩,
      ⟨g, mk, s₂, L, E, ce, rfl, rfl, hx, hce, hcv, hcl, rfl, hL, rfl, rfl⟩, ?_⟩
    show Steps p.tables e below _ (((({ U with heap := s₂.heap, slotsUsed := s₂.slotsUsed } : State).setVm s₂.vm).setTop g).pushFrame (.throwing q))
    rw [← hs₂]
    exact hsteps
end
variable {p : Program} {l : Launch} {e : Env} {R : Room} {s : State} {m : MethodId} {args : Array Value} {below : List Frame} {meth : Method} {c : Code} {T : State} {H : Heap} {locs : List Loc} {cells slots : Nat}
theorem vx_callVX (X : Stand p l e R s m args below meth c T locs cells slots) (hexec : p.tables.exec = Jvm.exec) {own C : String} {index : Nat} {y : MethodName} {bytes : ByteArray} {maxL : Nat} {ret : Option FieldType} {hh : List (Nat × Nat × Nat × Nat)}
    (hown : s.vm.findClass own = some m.cls) (hlink : (Cond.methodLink own index y).before args s = true) (hinst : (Cond.instanceMethod y).before args s = true) (hsel : (Cond.selects C y y).before args s = true)
    (hcode : (Cond.codeWith y bytes maxL ret hh).before args s = true) (hy : y.cls ≠ "java/lang/invoke/MethodHandle" ∧ y.cls ≠ "java/lang/invoke/VarHandle")
    {W9 : Nat} {Pre : Pt → Array Value → Prop} {Post : Pt → Array Value → Option Value → Pt → Prop} {PostX : Pt → Array Value → Addr → Pt → Prop} (hK : vx_Back l R p e below s args y 3 W9 Pre Post PostX)
    {b : Addr} {cellB : Cell} (hcell : T.heap[b]? = some cellB) (hobj : cellB.vm.isStatics = false) (hcls : s.vm.findClass C = some cellB.cls)
    {g : JFrame} (hg : g.method = m) (hsize : g.locals.size = c.maxLocals) {argsL rest : List Value} (hlen : ∀ sig, parseMethodDescriptor y.desc = some sig → argsL.length = sig.parameters.length)
    (hstack : g.stack = argsL.reverse ++ .ref b :: rest) (hW : 2 * g.monitorRoom + (rest.map fun v => v.category).sum ≤ W9) (hdg : decode c.code g.pc = .ok (.invokevirtual index, 3))
    (hpre : ∀ vm₁, s.WarmedH vm₁ → Pre ⟨T.setVm vm₁, locs, cells, slots⟩ (Value.ref b :: argsL).toArray) :
    (∃ (v : Option Value) (vm₁ : Vm) (B : Pt), s.WarmedH vm₁ ∧ Stand p l e R s m args below meth c B.U B.locs B.cells B.slots ∧ Post ⟨T.setVm vm₁, locs, cells, slots⟩ (Value.ref b :: argsL).toArray v B ∧
      ∀ target, Steps p.tables e below (B.U.setTop { g with pc := g.pc + 3, stack := v.toList ++ rest }) target → Steps p.tables e below (T.setTop g) target) ∨
    (∃ (q : Addr) (vm₁ : Vm) (B : Pt), s.WarmedH vm₁ ∧ Stand p l e R s m args below meth c B.U B.locs B.cells B.slots ∧ PostX ⟨T.setVm vm₁, locs, cells, slots⟩ (Value.ref b :: argsL).toArray q B ∧
      Steps p.tables e below (T.setTop g) ((B.U.setTop { g with stack := rest }).pushFrame (.throwing q))) := by
  obtain ⟨mk, methM, hnamed, hmethM, hstM, habM⟩ := Cond.instanceMethod_spec hinst
  obtain ⟨m8, methM', cM, hn8, hmethM', -, -, -, -, -, -, hsigM⟩ := Cond.codeWith_spec hcode
  cases Option.some.inj (hn8.symm.trans hnamed)
  cases hmethM.symm.trans hmethM'
  obtain ⟨c2, r2, m2, q1, q2, q3, q4, kP, hkP, hkPi⟩ := Cond.selects_spec hsel
  cases hcls.symm.trans q1
  cases (State.methodFound?_of_named hnamed hy).symm.trans q2
  cases hnamed.symm.trans q3
  have hselP : selectMethod e.platform s.vm cellB.cls mk = .method mk := by rw [Launch.admits_selectMethod X.admits]; exact q4
  obtain ⟨vm₁, X₁, hstep₁⟩ := X.invokevirtual hexec hown hlink hnamed hmethM hstM hkP hkPi hy (a := b) (cell := cellB) hcell
    (fun z h => by rw [h] at hobj; cases hobj) hselP hmethM habM hkP hkPi (g := g) hg (argsL := argsL) (rest := rest) (hlen _ hsigM) hstack hdg
  rcases hK m meth c ⟨T.setVm vm₁, locs, cells, slots⟩ { g with stack := rest } (.invokevirtual index) mk (Value.ref b :: argsL).toArray X₁ hg hsize hdg hW (X₁.named hnamed) (hpre vm₁ X₁.warmed) with ⟨v, B, X', hpost, hsteps⟩ | ⟨q, B, X', hpost, hsteps⟩
  · exact Or.inl ⟨v, vm₁, B, X₁.warmed, X', hpost, fun target h => hstep₁ _ fun acts => by rw [doInvoke_state]; exact hsteps.trans h⟩
  · exact Or.inr ⟨q, vm₁, B, X₁.warmed, X', hpost, hstep₁ _ fun acts => by rw [doInvoke_state]; exact hsteps⟩
theorem vx_callSX (X : Stand p l e R s m args below meth c T locs cells slots) (hexec : p.tables.exec = Jvm.exec) {own : String} {index : Nat} {y : MethodName} {bytes : ByteArray} {maxL : Nat} {ret : Option FieldType} {hh : List (Nat × Nat × Nat × Nat)}
    (hown : s.vm.findClass own = some m.cls) (hlink : (Cond.methodLink own index y).before args s = true) (hstat : (Cond.static y).before args s = true) (hinit : (Cond.initialized y.cls).before args s = true)
    (hcode : (Cond.codeWith y bytes maxL ret hh).before args s = true) (hy : y.cls ≠ "java/lang/invoke/MethodHandle" ∧ y.cls ≠ "java/lang/invoke/VarHandle")
    {W9 : Nat} {Pre : Pt → Array Value → Prop} {Post : Pt → Array Value → Option Value → Pt → Prop} {PostX : Pt → Array Value → Addr → Pt → Prop} (hK : vx_Back l R p e below s args y 3 W9 Pre Post PostX)
    {g : JFrame} (hg : g.method = m) (hsize : g.locals.size = c.maxLocals) {argsL rest : List Value} (hlen : ∀ sig, parseMethodDescriptor y.desc = some sig → argsL.length = sig.parameters.length)
    (hstack : g.stack = argsL.reverse ++ rest) (hW : 2 * g.monitorRoom + (rest.map fun v => v.category).sum ≤ W9) (hdg : decode c.code g.pc = .ok (.invokestatic index, 3))
    (hpre : ∀ vm₁, s.WarmedH vm₁ → Pre ⟨T.setVm vm₁, locs, cells, slots⟩ argsL.toArray) :
    (∃ (v : Option Value) (vm₁ : Vm) (B : Pt), s.WarmedH vm₁ ∧ Stand p l e R s m args below meth c B.U B.locs B.cells B.slots ∧ Post ⟨T.setVm vm₁, locs, cells, slots⟩ argsL.toArray v B ∧
      ∀ target, Steps p.tables e below (B.U.setTop { g with pc := g.pc + 3, stack := v.toList ++ rest }) target → Steps p.tables e below (T.setTop g) target) ∨
    (∃ (q : Addr) (vm₁ : Vm) (B : Pt), s.WarmedH vm₁ ∧ Stand p l e R s m args below meth c B.U B.locs B.cells B.slots ∧ PostX ⟨T.setVm vm₁, locs, cells, slots⟩ argsL.toArray q B ∧
      Steps p.tables e below (T.setTop g) ((B.U.setTop { g with stack := rest }).pushFrame (.throwing q))) := by
  obtain ⟨mk, methM, cM, hnamed, hmethM, -, -, -, -, -, -, hsigM⟩ := Cond.codeWith_spec hcode
  have hstatic : methM.isStatic = true := Cond.static_spec hnamed hmethM hstat
  obtain ⟨kP, hkP, -⟩ := className_of_methodNamed hnamed
  have hinitP : kP.init = .initialized := Cond.initialized_spec (findClass_of_methodNamed hnamed) hkP hinit
  obtain ⟨vm₁, X₁, hstep₁⟩ := X.invokestatic hexec hown hlink hnamed hmethM hstatic hkP hinitP hy (g := g) hg (argsL := argsL) (rest := rest) (hlen _ hsigM) hstack hdg
  rcases hK m meth c ⟨T.setVm vm₁, locs, cells, slots⟩ { g with stack := rest } (.invokestatic index) mk argsL.toArray X₁ hg hsize hdg hW (X₁.named hnamed) (hpre vm₁ X₁.warmed) with ⟨v, B, X', hpost, hsteps⟩ | ⟨q, B, X', hpost, hsteps⟩
  · exact Or.inl ⟨v, vm₁, B, X₁.warmed, X', hpost, fun target h => hstep₁ _ fun acts => by rw [doInvoke_state]; exact hsteps.trans h⟩
  · exact Or.inr ⟨q, vm₁, B, X₁.warmed, X', hpost, hstep₁ _ fun acts => by rw [doInvoke_state]; exact hsteps⟩
theorem vx_callVW (X : Stand p l e R s m args below meth c T locs cells slots) (hexec : p.tables.exec = Jvm.exec) {own C : String} {index : Nat} {y : MethodName} {bytes : ByteArray} {maxL : Nat} {ret : Option FieldType} {hh : List (Nat × Nat × Nat × Nat)}
    (hown : s.vm.findClass own = some m.cls) (hlink : (Cond.methodLink own index y).before args s = true) (hinst : (Cond.instanceMethod y).before args s = true) (hsel : (Cond.selects C y y).before args s = true)
    (hcode : (Cond.codeWith y bytes maxL ret hh).before args s = true) (hy : y.cls ≠ "java/lang/invoke/MethodHandle" ∧ y.cls ≠ "java/lang/invoke/VarHandle")
    {W9 : Nat} {Pre : Pt → Array Value → Prop} {Post : Pt → Array Value → Option Value → Pt → Prop} (hK : Back l R p e below s args y 3 W9 Pre Post)
    {b : Addr} {cellB : Cell} (hcell : T.heap[b]? = some cellB) (hobj : cellB.vm.isStatics = false) (hcls : s.vm.findClass C = some cellB.cls)
    {g : JFrame} (hg : g.method = m) (hsize : g.locals.size = c.maxLocals) {argsL rest : List Value} (hlen : ∀ sig, parseMethodDescriptor y.desc = some sig → argsL.length = sig.parameters.length)
    (hstack : g.stack = argsL.reverse ++ .ref b :: rest) (hW : 2 * g.monitorRoom + (rest.map fun v => v.category).sum ≤ W9) (hdg : decode c.code g.pc = .ok (.invokevirtual index, 3))
    (hpre : ∀ vm₁, s.WarmedH vm₁ → Pre ⟨T.setVm vm₁, locs, cells, slots⟩ (Value.ref b :: argsL).toArray) :
    ∃ (v : Option Value) (vm₁ : Vm) (B : Pt), s.WarmedH vm₁ ∧ Stand p l e R s m args below meth c B.U B.locs B.cells B.slots ∧ Post ⟨T.setVm vm₁, locs, cells, slots⟩ (Value.ref b :: argsL).toArray v B ∧
      ∀ target, Steps p.tables e below (B.U.setTop { g with pc := g.pc + 3, stack := v.toList ++ rest }) target → Steps p.tables e below (T.setTop g) target := by
  obtain ⟨mk, methM, hnamed, hmethM, hstM, habM⟩ := Cond.instanceMethod_spec hinst
  obtain ⟨m8, methM', cM, hn8, hmethM', -, -, -, -, -, -, hsigM⟩ := Cond.codeWith_spec hcode
  cases Option.some.inj (hn8.symm.trans hnamed)
  cases hmethM.symm.trans hmethM'
  obtain ⟨c2, r2, m2, q1, q2, q3, q4, kP, hkP, hkPi⟩ := Cond.selects_spec hsel
  cases hcls.symm.trans q1
  cases (State.methodFound?_of_named hnamed hy).symm.trans q2
  cases hnamed.symm.trans q3
  have hselP : selectMethod e.platform s.vm cellB.cls mk = .method mk := by rw [Launch.admits_selectMethod X.admits]; exact q4
  obtain ⟨vm₁, X₁, hstep₁⟩ := X.invokevirtual hexec hown hlink hnamed hmethM hstM hkP hkPi hy (a := b) (cell := cellB) hcell
    (fun z h => by rw [h] at hobj; cases hobj) hselP hmethM habM hkP hkPi (g := g) hg (argsL := argsL) (rest := rest) (hlen _ hsigM) hstack hdg
  obtain ⟨v, B, X', hpost, hsteps⟩ := hK m meth c ⟨T.setVm vm₁, locs, cells, slots⟩ { g with stack := rest } (.invokevirtual index) mk (Value.ref b :: argsL).toArray X₁ hg hsize hdg hW (X₁.named hnamed) (hpre vm₁ X₁.warmed)
  exact ⟨v, vm₁, B, X₁.warmed, X', hpost, fun target h => hstep₁ _ fun acts => by rw [doInvoke_state]; exact hsteps.trans h⟩
abbrev vx_CVW (R : Room) (s : State) (args : Array Value) (own C : String) (index : Nat) (y : MethodName) (bytes : ByteArray) (maxL : Nat) (ret : Option FieldType) (hh : List (Nat × Nat × Nat × Nat)) (ws : List Cond) (rm : Room) (mc ms n : Nat) : Prop :=
  (rm.cells = mc ∧ rm.slots = ms ∧ rm.frames + 1 ≤ R.frames ∧ 8 + (maxL + 11) + rm.locals ≤ R.locals ∧ (∀ w ∈ ws, ∀ (a' : Array Value) (U : State), s.WarmedH U.vm → w.before a' U = true) ∧ Cond.codeWith y bytes maxL ret hh ∈ ws) ∧
  (Cond.codeWith y bytes maxL ret hh).before args s = true ∧ (Cond.initialized y.cls).before args s = true ∧ (y.cls ≠ "java/lang/invoke/MethodHandle" ∧ y.cls ≠ "java/lang/invoke/VarHandle") ∧
  (∀ sig, parseMethodDescriptor y.desc = some sig → n = sig.parameters.length) ∧ (Cond.methodLink own index y).before args s = true ∧ (Cond.instanceMethod y).before args s = true ∧ (Cond.selects C y y).before args s = true
theorem vx_cwVW {own C : String} {index maxL mc ms : Nat} {y : MethodName} {bytes : ByteArray} {ret : Option FieldType} {hh : List (Nat × Nat × Nat × Nat)} {Ts ws ws' : List Cond} {rm : Room} (n : Nat) (ht : ∀ w ∈ Ts, w.before args s = true) (hT : GoodIn Ts (wsV own index C y ws)) (hw : ws = Cond.codeWith y bytes maxL ret hh :: ws') (hrc : rm.cells = mc) (hrs : rm.slots = ms)
    (hd : y.cls = C ∧ y.cls ≠ "java/lang/invoke/MethodHandle" ∧ y.cls ≠ "java/lang/invoke/VarHandle" ∧ (parseMethodDescriptor y.desc).map (fun d => d.parameters.length) = some n) (hR : rm.frames + 1 ≤ R.frames ∧ 8 + (maxL + 11) + rm.locals ≤ R.locals) :
    vx_CVW R s args own C index y bytes maxL ret hh ws rm mc ms n := by
  obtain ⟨hC, hd⟩ := hd
  subst hC
  have ok : ∀ w ∈ wsV own index y.cls y ws, w.before args s = true := fun w h => ht w (hT w h).1
  have hG : GoodIn Ts ws := fun w h => hT w (by unfold wsV; exact List.mem_append_right _ h)
  have hc : Cond.codeWith y bytes maxL ret hh ∈ ws := by rw [hw]; exact List.mem_cons_self
  refine ⟨⟨hrc, hrs, hR.1, hR.2, pay_in ht hG, hc⟩, ht _ (hG _ hc).1, ok _ (by simp [wsV]), ⟨hd.1, hd.2.1⟩, fun sig h => ?_, ok _ (by simp [wsV]), ok _ (by simp [wsV]), ok _ (by simp [wsV])⟩
  have h2 := hd.2.2
  rw [h] at h2
  exact (Option.some.inj h2).symm
theorem vx_runVW {y : MethodName} {bytes cc : ByteArray} {maxL nL mc ms n index : Nat} {ret : Option FieldType} {hh : List (Nat × Nat × Nat × Nat)} {ws : List Cond} {rm : Room} {Pc : Array Value → State → Prop} {Qc : Array Value → State → Outcome → State → Prop} {free : Addr → Prop} {Ts : List Cond} {own C : String} {b : Addr} {As rest : List Value} {g : JFrame}
    (S : CallFix p m c cc nL s args Ts own) (hM : Met l y ws rm Pc Qc mc ms free) (cw : vx_CVW R s args own C index y bytes maxL ret hh ws rm mc ms n) (hp : PreV s H C b Pc As)
    (hg : g.method = m) (hn : As.length = n) (hsize : g.locals.size = nL) (hstack : g.stack = As.reverse ++ .ref b :: rest) (hW : 2 * g.monitorRoom + (rest.map fun v => v.category).sum ≤ 8) (hdg : decode cc g.pc = .ok (.invokevirtual index, 3)) (hf : cells + mc ≤ R.cells ∧ slots + ms ≤ R.slots) :
    va_Run p l e R s m args below meth c H locs cells slots mc ms g rest (Qc (Value.ref b :: As).toArray) free := by
  obtain ⟨⟨hrc, hrs, hfr, hlo, hws, hcw⟩, hcode, hini, hy, hlen, hl, hin, hse⟩ := cw
  have hK : Back l R p e below s args y 3 8 (PreOf R mc ms Pc) (PostOf Qc mc ms free) := va_backW (hh := hh) (bytes := bytes) (maxL := maxL) (ret := ret) hM hp.1 hrc hrs hfr hlo hws hcw (fun a' U hW => word_at hW (Or.inl (by first | rfl | simp [Cond.onTables, Cond.keeps, Cond.steady])) hini)
  obtain ⟨hx, hb, hml, ho, -⟩ := S
  obtain ⟨-, ⟨cellB, hcB, hoB, hclB⟩, hPc⟩ := hp
  intro T hT X
  obtain ⟨v, vm₁, ⟨U', l2, c2, s2⟩, hW₁, X', ⟨g', mk, t, L, e1, e2, hq, h1, hL, h2, h3⟩, st⟩ := vx_callVW X hx (C := C) (hh := hh) (bytes := bytes) (maxL := maxL) (ret := ret) ho hl hin hse hcode hy hK (by rw [hT]; exact hcB) hoB hclB hg (hsize.trans hml.symm) (argsL := As) (rest := rest) (fun sig h => hn.trans (hlen sig h)) hstack hW (by rw [hb]; exact hdg)
    (fun vm₁ hW₁ => ⟨hf.1, hf.2, hPc (T.setVm vm₁) hT hW₁⟩)
  dsimp only [Pt.U, Pt.locs, Pt.cells, Pt.slots] at X' e1 e2 h1 h2 h3 st
  subst h1; subst h2; subst h3
  exact ⟨v, (T.setVm vm₁).calling g' mk (Value.ref b :: As).toArray, t, U', L, hT, X', hL, e1, e2, hq, st⟩
section
variable {y : MethodName} {bytes cc : ByteArray} {maxL nL mc ms n index : Nat} {ret : Option FieldType} {ws : List Cond} {rm : Room} {Pc : Array Value → State → Prop} {Qc : Array Value → State → Outcome → State → Prop} {XC : String → State → State → Prop} {free : Addr → Prop} {Ts : List Cond} {own C : String} {b : Addr} {As rest : List Value} {g : JFrame}
theorem vx_runVX {hh : List (Nat × Nat × Nat × Nat)} (S : CallFix p m c cc nL s args Ts own) (hM : vx_Met l y ws rm Pc Qc XC mc ms free) (cw : vx_CVW R s args own C index y bytes maxL ret hh ws rm mc ms n) (hp : PreV s H C b Pc As)
    (hg : g.method = m) (hn : As.length = n) (hsize : g.locals.size = nL) (hstack : g.stack = As.reverse ++ .ref b :: rest) (hW : 2 * g.monitorRoom + (rest.map fun v => v.category).sum ≤ 8) (hdg : decode cc g.pc = .ok (.invokevirtual index, 3)) (hf : cells + mc ≤ R.cells ∧ slots + ms ≤ R.slots) :
    vx_Run p l e R s m args below meth c H locs cells slots mc ms g rest (Qc (Value.ref b :: As).toArray) XC free := by
  obtain ⟨⟨hrc, hrs, hfr, hlo, hws, hcw⟩, hcode, hini, hy, hlen, hl, hin, hse⟩ := cw
  have hK : vx_Back l R p e below s args y 3 8 (PreOf R mc ms Pc) (PostOf Qc mc ms free) (vx_Post XC mc ms free) := vx_backW (hh := hh) (bytes := bytes) (maxL := maxL) (ret := ret) hM hp.1 hrc hrs hfr hlo hws hcw (fun a' U hW => word_at hW (Or.inl (by first | rfl | simp [Cond.onTables, Cond.keeps, Cond.steady])) hini)
  obtain ⟨hx, hb, hml, ho, -⟩ := S
  obtain ⟨-, ⟨cellB, hcB, hoB, hclB⟩, hPc⟩ := hp
  intro T hT X
  rcases vx_callVX X hx (C := C) (hh := hh) (bytes := bytes) (maxL := maxL) (ret := ret) ho hl hin hse hcode hy hK (by rw [hT]; exact hcB) hoB hclB hg (hsize.trans hml.symm) (argsL := As) (rest := rest) (fun sig h => hn.trans (hlen sig h)) hstack hW (by rw [hb]; exact hdg)
    (fun vm₁ hW₁ => ⟨hf.1, hf.2, hPc (T.setVm vm₁) hT hW₁⟩) with ⟨v, vm₁, ⟨U', l2, c2, s2⟩, hW₁, X', ⟨g', mk, t, L, e1, e2, hq, h1, hL, h2, h3⟩, st⟩ | ⟨q, vm₁, ⟨U', l2, c2, s2⟩, hW₁, X', ⟨g', mk, t, L, E, ce, e1, e2, hq, hce, hcv, hcl, h1, hL, h2, h3⟩, st⟩
  · dsimp only [Pt.U, Pt.locs, Pt.cells, Pt.slots] at X' e1 e2 h1 h2 h3 st
    subst h1; subst h2; subst h3
    exact Or.inl ⟨v, (T.setVm vm₁).calling g' mk (Value.ref b :: As).toArray, t, U', L, hT, X', hL, e1, e2, hq, st⟩
  · dsimp only [Pt.U, Pt.locs, Pt.cells, Pt.slots] at X' e1 e2 h1 h2 h3 st hcl
    subst h1; subst h2; subst h3
    exact Or.inr ⟨q, (T.setVm vm₁).calling g' mk (Value.ref b :: As).toArray, t, U', L, E, ce, hT, X', hL, e1, e2, hq, hce, hcv, vx_cls hW₁ hcl, st⟩
theorem vx_runSX {hh : List (Nat × Nat × Nat × Nat)} (S : CallFix p m c cc nL s args Ts own) (hM : vx_Met l y ws rm Pc Qc XC mc ms free) (cw : vx_CSW R s args own index y bytes maxL ret hh ws rm mc ms n) (hp : PreS s H Pc As)
    (hg : g.method = m) (hn : As.length = n) (hsize : g.locals.size = nL) (hstack : g.stack = As.reverse ++ rest) (hW : 2 * g.monitorRoom + (rest.map fun v => v.category).sum ≤ 8) (hdg : decode cc g.pc = .ok (.invokestatic index, 3)) (hf : cells + mc ≤ R.cells ∧ slots + ms ≤ R.slots) :
    vx_Run p l e R s m args below meth c H locs cells slots mc ms g rest (Qc As.toArray) XC free := by
  obtain ⟨⟨hrc, hrs, hfr, hlo, hws, hcw⟩, hcode, hini, hy, hlen, hl, hstt⟩ := cw
  have hK : vx_Back l R p e below s args y 3 8 (PreOf R mc ms Pc) (PostOf Qc mc ms free) (vx_Post XC mc ms free) := vx_backW (hh := hh) (bytes := bytes) (maxL := maxL) (ret := ret) hM hp.1 hrc hrs hfr hlo hws hcw (fun a' U hW => word_at hW (Or.inl (by first | rfl | simp [Cond.onTables, Cond.keeps, Cond.steady])) hini)
  obtain ⟨hx, hb, hml, ho, -⟩ := S
  intro T hT X
  rcases vx_callSX X hx (hh := hh) (bytes := bytes) (maxL := maxL) (ret := ret) ho hl hstt hini hcode hy hK hg (hsize.trans hml.symm) (argsL := As) (rest := rest) (fun sig h => hn.trans (hlen sig h)) hstack hW (by rw [hb]; exact hdg)
    (fun vm₁ hW₁ => ⟨hf.1, hf.2, hp.2 (T.setVm vm₁) hT hW₁⟩) with ⟨v, vm₁, ⟨U', l2, c2, s2⟩, hW₁, X', ⟨g', mk, t, L, e1, e2, hq, h1, hL, h2, h3⟩, st⟩ | ⟨q, vm₁, ⟨U', l2, c2, s2⟩, hW₁, X', ⟨g', mk, t, L, E, ce, e1, e2, hq, hce, hcv, hcl, h1, hL, h2, h3⟩, st⟩
  · dsimp only [Pt.U, Pt.locs, Pt.cells, Pt.slots] at X' e1 e2 h1 h2 h3 st
    subst h1; subst h2; subst h3
    exact Or.inl ⟨v, (T.setVm vm₁).calling g' mk As.toArray, t, U', L, hT, X', hL, e1, e2, hq, st⟩
  · dsimp only [Pt.U, Pt.locs, Pt.cells, Pt.slots] at X' e1 e2 h1 h2 h3 st hcl
    subst h1; subst h2; subst h3
    exact Or.inr ⟨q, (T.setVm vm₁).calling g' mk As.toArray, t, U', L, E, ce, hT, X', hL, e1, e2, hq, hce, hcv, vx_cls hW₁ hcl, st⟩
end
end VXH
theorem vx_ofWH {l : Launch} {y : MethodName} {ws ws' : List Cond} {rm : Room} {Pc : Array Value → State → Prop} {Qc : Array Value → State → Outcome → State → Prop} {XC : String → State → State → Prop} {mc ms : Nat} {free : Addr → Prop} {cc : ByteArray} {maxL : Nat} {ret : Option FieldType} {hh : List (Nat × Nat × Nat × Nat)}
    (hy : plainName y.cls = true) (hw : ws = Cond.codeWith y cc maxL ret hh :: ws')
    (body : ∀ p e s m args below meth c s₁, BodyLoose p l y (headSpec ws rm) cc maxL ret e s m args below meth c s₁ → c.maxLocals = maxL → Pc args s →
      W p l e (headSpec ws rm).room s m args below meth c s.heap [] 0 0 (vx_MQ below Qc XC args s mc ms free) (entryFrame m args maxL)) : vx_Met l y ws rm Pc Qc XC mc ms free := by
  refine MetFree.of_bodyS (code := cc) (maxLocals := maxL) (ret := ret) hy ?_ ?_
  · intro args s m h hn
    obtain ⟨m9, meth, c, hn9, h1, h2, h3, h4, -, h5, h6, -⟩ := Cond.codeWith_spec (atoms_spec (ws := ws) h _ (by rw [hw]; exact List.mem_cons_self))
    cases hn.symm.trans hn9
    exact ⟨meth, c, h1, h2, h3, h4, h5, h6⟩
  · intro p e s m args below meth c s₁ B hml hP _
    have hh0 : s₁.heap = s.heap := by rw [B.state]; rfl
    obtain ⟨t, a1, o, b1, b2, b3⟩ := body p e s m args below meth c s₁ B hml hP s₁ hh0 (Stand.of_body B)
    exact ⟨t, o, a1, b1, b2, b3⟩
/-! ===== END ===== -/
end
section
-- ===== PART A: goes FIRST, ahead of the names: the tables' words, and 'selects' of the private methods out of them =====
/-- a private method of a class that the tables say can be made, by its rows of tables_1 -/
def lw_okq (q : MethodName × Nat) : Prop := (q.1.cls ≠ "java/lang/invoke/MethodHandle" ∧ q.1.cls ≠ "java/lang/invoke/VarHandle") ∧ Cond.instantiable q.1.cls q.2 ∈ tables_1 ∧ Cond.privateMethod q.1 ∈ tables_1 ∧ Cond.instanceMethod q.1 ∈ tables_1
theorem lw_p0 : lw_okq (⟨"HeapwrightLab", "present", "()LHeapwrightLab$Memory;"⟩, 8) := ⟨⟨by decide +kernel, by decide +kernel⟩, List.mem_of_getElem? (i := 26) (by decide +kernel), List.mem_of_getElem? (i := 24) (by decide +kernel), List.mem_of_getElem? (i := 25) (by decide +kernel)⟩
theorem lw_p1 : lw_okq (⟨"HeapwrightLab", "memoryOf", "(I)LHeapwrightLab$Memory;"⟩, 8) := ⟨⟨by decide +kernel, by decide +kernel⟩, List.mem_of_getElem? (i := 26) (by decide +kernel), List.mem_of_getElem? (i := 29) (by decide +kernel), List.mem_of_getElem? (i := 30) (by decide +kernel)⟩
theorem lw_p2 : lw_okq (⟨"HeapwrightLab", "requireName", "(I)V"⟩, 8) := ⟨⟨by decide +kernel, by decide +kernel⟩, List.mem_of_getElem? (i := 26) (by decide +kernel), List.mem_of_getElem? (i := 44) (by decide +kernel), List.mem_of_getElem? (i := 45) (by decide +kernel)⟩
theorem lw_p3 : lw_okq (⟨"java/lang/Throwable", "fillInStackTrace", "(I)Ljava/lang/Throwable;"⟩, 6) := ⟨⟨by decide +kernel, by decide +kernel⟩, List.mem_of_getElem? (i := 88) (by decide +kernel), List.mem_of_getElem? (i := 86) (by decide +kernel), List.mem_of_getElem? (i := 87) (by decide +kernel)⟩
theorem lw_p4 : lw_okq (⟨"HeapwrightLab", "requireHole", "(I)V"⟩, 8) := ⟨⟨by decide +kernel, by decide +kernel⟩, List.mem_of_getElem? (i := 26) (by decide +kernel), List.mem_of_getElem? (i := 195) (by decide +kernel), List.mem_of_getElem? (i := 196) (by decide +kernel)⟩
theorem lw_p5 : lw_okq (⟨"HeapwrightLab$Fits", "searchRound", "(II)I"⟩, 13) := ⟨⟨by decide +kernel, by decide +kernel⟩, List.mem_of_getElem? (i := 321) (by decide +kernel), List.mem_of_getElem? (i := 319) (by decide +kernel), List.mem_of_getElem? (i := 320) (by decide +kernel)⟩
theorem lw_p6 : lw_okq (⟨"HeapwrightLab$Slabs", "pagesOf", "(II)I"⟩, 14) := ⟨⟨by decide +kernel, by decide +kernel⟩, List.mem_of_getElem? (i := 345) (by decide +kernel), List.mem_of_getElem? (i := 343) (by decide +kernel), List.mem_of_getElem? (i := 344) (by decide +kernel)⟩
theorem lw_p7 : lw_okq (⟨"HeapwrightLab$Trace", "isDeed", "(I)Z"⟩, 4) := ⟨⟨by decide +kernel, by decide +kernel⟩, List.mem_of_getElem? (i := 392) (by decide +kernel), List.mem_of_getElem? (i := 390) (by decide +kernel), List.mem_of_getElem? (i := 391) (by decide +kernel)⟩
theorem lw_p8 : lw_okq (⟨"HeapwrightLab$Blocks", "indexOf", "(I)I"⟩, 6) := ⟨⟨by decide +kernel, by decide +kernel⟩, List.mem_of_getElem? (i := 514) (by decide +kernel), List.mem_of_getElem? (i := 512) (by decide +kernel), List.mem_of_getElem? (i := 513) (by decide +kernel)⟩
theorem lw_p9 : lw_okq (⟨"HeapwrightLabLaw$Pool", "holeAt", "(I)I"⟩, 17) := ⟨⟨by decide +kernel, by decide +kernel⟩, List.mem_of_getElem? (i := 637) (by decide +kernel), List.mem_of_getElem? (i := 965) (by decide +kernel), List.mem_of_getElem? (i := 966) (by decide +kernel)⟩
theorem lw_p10 : lw_okq (⟨"HeapwrightLabLaw$Pool", "takeSlot", "(I)I"⟩, 17) := ⟨⟨by decide +kernel, by decide +kernel⟩, List.mem_of_getElem? (i := 637) (by decide +kernel), List.mem_of_getElem? (i := 981) (by decide +kernel), List.mem_of_getElem? (i := 982) (by decide +kernel)⟩
theorem lw_p11 : lw_okq (⟨"HeapwrightLabLaw$Pool", "did", "(III)V"⟩, 17) := ⟨⟨by decide +kernel, by decide +kernel⟩, List.mem_of_getElem? (i := 637) (by decide +kernel), List.mem_of_getElem? (i := 989) (by decide +kernel), List.mem_of_getElem? (i := 990) (by decide +kernel)⟩
theorem lw_p12 : lw_okq (⟨"HeapwrightLab", "requireFreeDeed", "()V"⟩, 8) := ⟨⟨by decide +kernel, by decide +kernel⟩, List.mem_of_getElem? (i := 26) (by decide +kernel), List.mem_of_getElem? (i := 1017) (by decide +kernel), List.mem_of_getElem? (i := 1018) (by decide +kernel)⟩
theorem lw_p13 : lw_okq (⟨"HeapwrightLab", "requireThere", "(I)V"⟩, 8) := ⟨⟨by decide +kernel, by decide +kernel⟩, List.mem_of_getElem? (i := 26) (by decide +kernel), List.mem_of_getElem? (i := 1050) (by decide +kernel), List.mem_of_getElem? (i := 1051) (by decide +kernel)⟩
def lw_privs_1 : List (MethodName × Nat) := [(⟨"HeapwrightLab", "present", "()LHeapwrightLab$Memory;"⟩, 8), (⟨"HeapwrightLab", "memoryOf", "(I)LHeapwrightLab$Memory;"⟩, 8), (⟨"HeapwrightLab", "requireName", "(I)V"⟩, 8), (⟨"java/lang/Throwable", "fillInStackTrace", "(I)Ljava/lang/Throwable;"⟩, 6), (⟨"HeapwrightLab", "requireHole", "(I)V"⟩, 8), (⟨"HeapwrightLab$Fits", "searchRound", "(II)I"⟩, 13), (⟨"HeapwrightLab$Slabs", "pagesOf", "(II)I"⟩, 14), (⟨"HeapwrightLab$Trace", "isDeed", "(I)Z"⟩, 4), (⟨"HeapwrightLab$Blocks", "indexOf", "(I)I"⟩, 6), (⟨"HeapwrightLabLaw$Pool", "holeAt", "(I)I"⟩, 17), (⟨"HeapwrightLabLaw$Pool", "takeSlot", "(I)I"⟩, 17), (⟨"HeapwrightLabLaw$Pool", "did", "(III)V"⟩, 17), (⟨"HeapwrightLab", "requireFreeDeed", "()V"⟩, 8), (⟨"HeapwrightLab", "requireThere", "(I)V"⟩, 8)]
theorem lw_r1 : ∀ q ∈ lw_privs_1, lw_okq q := List.forall_mem_cons.mpr ⟨lw_p0, List.forall_mem_cons.mpr ⟨lw_p1, List.forall_mem_cons.mpr ⟨lw_p2, List.forall_mem_cons.mpr ⟨lw_p3, List.forall_mem_cons.mpr ⟨lw_p4, List.forall_mem_cons.mpr ⟨lw_p5, List.forall_mem_cons.mpr ⟨lw_p6, List.forall_mem_cons.mpr ⟨lw_p7, List.forall_mem_cons.mpr ⟨lw_p8, List.forall_mem_cons.mpr ⟨lw_p9, List.forall_mem_cons.mpr ⟨lw_p10, List.forall_mem_cons.mpr ⟨lw_p11, List.forall_mem_cons.mpr ⟨lw_p12, List.forall_mem_cons.mpr ⟨lw_p13, fun _ h => absurd h List.not_mem_nil⟩⟩⟩⟩⟩⟩⟩⟩⟩⟩⟩⟩⟩⟩
def lw_privs : List (MethodName × Nat) := lw_privs_1
def lw_tbl : List Cond := k2_sels lw_privs ++ tables_1
theorem lw_privs_ok : ∀ q ∈ lw_privs, lw_okq q := lw_r1

def RX0 : String := "HeapwrightLab$Blocks"
def TX0 : u_T := fun k => match k with
  | 0 => ("HeapwrightLab$Blocks", "places", "[I", true)
  | 1 => ("HeapwrightLab$Blocks", "sizes", "[I", true)
  | 2 => ("HeapwrightLab$Blocks", "rooms", "[I", true)
  | 3 => ("HeapwrightLab$Blocks", "byPlace", "[I", true)
  | 4 => ("HeapwrightLab$Blocks", "count", "I", false)
  | _ => ("HeapwrightLab$Blocks", "roomsTogether", "I", false)
def tyX0 : Nat → FieldType := fun k => match k with
  | 0 => .array .int
  | 1 => .array .int
  | 2 => .array .int
  | 3 => .array .int
  | 4 => .int
  | _ => .int
theorem nmX0 : ∀ a, a < 6 → ∀ b, b < 6 → a ≠ b → (TX0 a).2.1 ≠ (TX0 b).2.1 := by decide +kernel
theorem tyX0_ok : ∀ k, k < 6 → parseFieldDescriptor (TX0 k).2.2.1 = some (tyX0 k) := by decide +kernel
def RX1 : String := "HeapwrightLab$Buddies"
def TX1 : u_T := fun k => match k with
  | 0 => ("HeapwrightLab$Memory", "blocks", "LHeapwrightLab$Blocks;", true)
  | 1 => ("HeapwrightLab$Memory", "holes", "LHeapwrightLab$Holes;", true)
  | 2 => ("HeapwrightLab$Memory", "way", "I", true)
  | 3 => ("HeapwrightLab$Memory", "step", "I", false)
  | 4 => ("HeapwrightLab$Memory", "head", "I", false)
  | 5 => ("HeapwrightLab$Memory", "hand", "I", false)
  | 6 => ("HeapwrightLab$Memory", "seen", "I", false)
  | 7 => ("HeapwrightLab$Memory", "counts", "[I", true)
  | 8 => ("HeapwrightLab$Memory", "depths", "[I", true)
  | 9 => ("HeapwrightLab$Memory", "names", "I", false)
  | 10 => ("HeapwrightLab$Memory", "arenas", "I", false)
  | 11 => ("HeapwrightLab$Memory", "peak", "I", false)
  | _ => ("HeapwrightLab$Memory", "done", "I", false)
def tyX1 : Nat → FieldType := fun k => match k with
  | 0 => .object "HeapwrightLab$Blocks"
  | 1 => .object "HeapwrightLab$Holes"
  | 2 => .int
  | 3 => .int
  | 4 => .int
  | 5 => .int
  | 6 => .int
  | 7 => .array .int
  | 8 => .array .int
  | 9 => .int
  | 10 => .int
  | 11 => .int
  | _ => .int
theorem nmX1 : ∀ a, a < 13 → ∀ b, b < 13 → a ≠ b → (TX1 a).2.1 ≠ (TX1 b).2.1 := by decide +kernel
theorem tyX1_ok : ∀ k, k < 13 → parseFieldDescriptor (TX1 k).2.2.1 = some (tyX1 k) := by decide +kernel
def RX2 : String := "HeapwrightLab$Fits"
def TX2 : u_T := fun k => match k with
  | 0 => ("HeapwrightLab$Memory", "blocks", "LHeapwrightLab$Blocks;", true)
  | 1 => ("HeapwrightLab$Memory", "holes", "LHeapwrightLab$Holes;", true)
  | 2 => ("HeapwrightLab$Memory", "way", "I", true)
  | 3 => ("HeapwrightLab$Memory", "step", "I", false)
  | 4 => ("HeapwrightLab$Memory", "head", "I", false)
  | 5 => ("HeapwrightLab$Memory", "hand", "I", false)
  | 6 => ("HeapwrightLab$Memory", "seen", "I", false)
  | 7 => ("HeapwrightLab$Memory", "counts", "[I", true)
  | 8 => ("HeapwrightLab$Memory", "depths", "[I", true)
  | 9 => ("HeapwrightLab$Memory", "names", "I", false)
  | 10 => ("HeapwrightLab$Memory", "arenas", "I", false)
  | 11 => ("HeapwrightLab$Memory", "peak", "I", false)
  | _ => ("HeapwrightLab$Memory", "done", "I", false)
def tyX2 : Nat → FieldType := fun k => match k with
  | 0 => .object "HeapwrightLab$Blocks"
  | 1 => .object "HeapwrightLab$Holes"
  | 2 => .int
  | 3 => .int
  | 4 => .int
  | 5 => .int
  | 6 => .int
  | 7 => .array .int
  | 8 => .array .int
  | 9 => .int
  | 10 => .int
  | 11 => .int
  | _ => .int
theorem nmX2 : ∀ a, a < 13 → ∀ b, b < 13 → a ≠ b → (TX2 a).2.1 ≠ (TX2 b).2.1 := by decide +kernel
theorem tyX2_ok : ∀ k, k < 13 → parseFieldDescriptor (TX2 k).2.2.1 = some (tyX2 k) := by decide +kernel
def RX3 : String := "HeapwrightLab$Holes"
def TX3 : u_T := fun k => match k with
  | 0 => ("HeapwrightLab$Holes", "places", "[I", true)
  | 1 => ("HeapwrightLab$Holes", "sizes", "[I", true)
  | _ => ("HeapwrightLab$Holes", "count", "I", false)
def tyX3 : Nat → FieldType := fun k => match k with
  | 0 => .array .int
  | 1 => .array .int
  | _ => .int
theorem nmX3 : ∀ a, a < 3 → ∀ b, b < 3 → a ≠ b → (TX3 a).2.1 ≠ (TX3 b).2.1 := by decide +kernel
theorem tyX3_ok : ∀ k, k < 3 → parseFieldDescriptor (TX3 k).2.2.1 = some (tyX3 k) := by decide +kernel
def RX4 : String := "HeapwrightLab$Memory"
def TX4 : u_T := fun k => match k with
  | _ => ("", "", "", false)
def tyX4 : Nat → FieldType := fun k => match k with
  | _ => .int
theorem nmX4 : ∀ a, a < 0 → ∀ b, b < 0 → a ≠ b → (TX4 a).2.1 ≠ (TX4 b).2.1 := by decide +kernel
theorem tyX4_ok : ∀ k, k < 0 → parseFieldDescriptor (TX4 k).2.2.1 = some (tyX4 k) := by decide +kernel
def RX5 : String := "HeapwrightLab$Slabs"
def TX5 : u_T := fun k => match k with
  | 0 => ("HeapwrightLab$Memory", "blocks", "LHeapwrightLab$Blocks;", true)
  | 1 => ("HeapwrightLab$Memory", "holes", "LHeapwrightLab$Holes;", true)
  | 2 => ("HeapwrightLab$Memory", "way", "I", true)
  | 3 => ("HeapwrightLab$Memory", "step", "I", false)
  | 4 => ("HeapwrightLab$Memory", "head", "I", false)
  | 5 => ("HeapwrightLab$Memory", "hand", "I", false)
  | 6 => ("HeapwrightLab$Memory", "seen", "I", false)
  | 7 => ("HeapwrightLab$Memory", "counts", "[I", true)
  | 8 => ("HeapwrightLab$Memory", "depths", "[I", true)
  | 9 => ("HeapwrightLab$Memory", "names", "I", false)
  | 10 => ("HeapwrightLab$Memory", "arenas", "I", false)
  | 11 => ("HeapwrightLab$Memory", "peak", "I", false)
  | 12 => ("HeapwrightLab$Memory", "done", "I", false)
  | _ => ("HeapwrightLab$Slabs", "pages", "[I", true)
def tyX5 : Nat → FieldType := fun k => match k with
  | 0 => .object "HeapwrightLab$Blocks"
  | 1 => .object "HeapwrightLab$Holes"
  | 2 => .int
  | 3 => .int
  | 4 => .int
  | 5 => .int
  | 6 => .int
  | 7 => .array .int
  | 8 => .array .int
  | 9 => .int
  | 10 => .int
  | 11 => .int
  | 12 => .int
  | _ => .array .int
theorem nmX5 : ∀ a, a < 14 → ∀ b, b < 14 → a ≠ b → (TX5 a).2.1 ≠ (TX5 b).2.1 := by decide +kernel
theorem tyX5_ok : ∀ k, k < 14 → parseFieldDescriptor (TX5 k).2.2.1 = some (tyX5 k) := by decide +kernel
def RX6 : String := "HeapwrightLab$Trace"
def TX6 : u_T := fun k => match k with
  | 0 => ("HeapwrightLab$Trace", "kinds", "[I", true)
  | 1 => ("HeapwrightLab$Trace", "names", "[I", true)
  | 2 => ("HeapwrightLab$Trace", "sizes", "[I", true)
  | _ => ("HeapwrightLab$Trace", "length", "I", false)
def tyX6 : Nat → FieldType := fun k => match k with
  | 0 => .array .int
  | 1 => .array .int
  | 2 => .array .int
  | _ => .int
theorem nmX6 : ∀ a, a < 4 → ∀ b, b < 4 → a ≠ b → (TX6 a).2.1 ≠ (TX6 b).2.1 := by decide +kernel
theorem tyX6_ok : ∀ k, k < 4 → parseFieldDescriptor (TX6 k).2.2.1 = some (tyX6 k) := by decide +kernel
def RX7 : String := "HeapwrightLab"
def TX7 : u_T := fun k => match k with
  | 0 => ("HeapwrightLab", "trace", "LHeapwrightLab$Trace;", true)
  | 1 => ("HeapwrightLab", "first", "LHeapwrightLab$Fits;", true)
  | 2 => ("HeapwrightLab", "next", "LHeapwrightLab$Fits;", true)
  | 3 => ("HeapwrightLab", "best", "LHeapwrightLab$Fits;", true)
  | 4 => ("HeapwrightLab", "worst", "LHeapwrightLab$Fits;", true)
  | 5 => ("HeapwrightLab", "buddies", "LHeapwrightLab$Buddies;", true)
  | 6 => ("HeapwrightLab", "slabs", "LHeapwrightLab$Slabs;", true)
  | _ => ("HeapwrightLab", "way", "I", false)
def tyX7 : Nat → FieldType := fun k => match k with
  | 0 => .object "HeapwrightLab$Trace"
  | 1 => .object "HeapwrightLab$Fits"
  | 2 => .object "HeapwrightLab$Fits"
  | 3 => .object "HeapwrightLab$Fits"
  | 4 => .object "HeapwrightLab$Fits"
  | 5 => .object "HeapwrightLab$Buddies"
  | 6 => .object "HeapwrightLab$Slabs"
  | _ => .int
theorem nmX7 : ∀ a, a < 8 → ∀ b, b < 8 → a ≠ b → (TX7 a).2.1 ≠ (TX7 b).2.1 := by decide +kernel
theorem tyX7_ok : ∀ k, k < 8 → parseFieldDescriptor (TX7 k).2.2.1 = some (tyX7 k) := by decide +kernel
def RX8 : String := "HeapwrightLabLaw$Pool"
def TX8 : u_T := fun k => match k with
  | 0 => ("HeapwrightLabLaw$Pool", "m", "LHeapwrightLab;", false)
  | 1 => ("HeapwrightLabLaw$Pool", "s", "[I", true)
  | 2 => ("HeapwrightLabLaw$Pool", "draws", "I", false)
  | 3 => ("HeapwrightLabLaw$Pool", "way", "I", false)
  | 4 => ("HeapwrightLabLaw$Pool", "step", "I", false)
  | 5 => ("HeapwrightLabLaw$Pool", "head", "I", false)
  | 6 => ("HeapwrightLabLaw$Pool", "owner", "[I", false)
  | 7 => ("HeapwrightLabLaw$Pool", "names", "I", false)
  | 8 => ("HeapwrightLabLaw$Pool", "size", "[I", true)
  | 9 => ("HeapwrightLabLaw$Pool", "room", "[I", true)
  | 10 => ("HeapwrightLabLaw$Pool", "arena", "[I", true)
  | 11 => ("HeapwrightLabLaw$Pool", "arenas", "I", false)
  | 12 => ("HeapwrightLabLaw$Pool", "hand", "I", false)
  | 13 => ("HeapwrightLabLaw$Pool", "counted", "[I", false)
  | 14 => ("HeapwrightLabLaw$Pool", "peak", "I", false)
  | 15 => ("HeapwrightLabLaw$Pool", "deeds", "[I", false)
  | _ => ("HeapwrightLabLaw$Pool", "isTold", "Z", false)
def tyX8 : Nat → FieldType := fun k => match k with
  | 0 => .object "HeapwrightLab"
  | 1 => .array .int
  | 2 => .int
  | 3 => .int
  | 4 => .int
  | 5 => .int
  | 6 => .array .int
  | 7 => .int
  | 8 => .array .int
  | 9 => .array .int
  | 10 => .array .int
  | 11 => .int
  | 12 => .int
  | 13 => .array .int
  | 14 => .int
  | 15 => .array .int
  | _ => .boolean
theorem nmX8 : ∀ a, a < 17 → ∀ b, b < 17 → a ≠ b → (TX8 a).2.1 ≠ (TX8 b).2.1 := by decide +kernel
theorem tyX8_ok : ∀ k, k < 17 → parseFieldDescriptor (TX8 k).2.2.1 = some (tyX8 k) := by decide +kernel
def RX9 : String := "HeapwrightLabModel$Memory"
def TX9 : u_T := fun k => match k with
  | _ => ("", "", "", false)
def tyX9 : Nat → FieldType := fun k => match k with
  | _ => .int
theorem nmX9 : ∀ a, a < 0 → ∀ b, b < 0 → a ≠ b → (TX9 a).2.1 ≠ (TX9 b).2.1 := by decide +kernel
theorem tyX9_ok : ∀ k, k < 0 → parseFieldDescriptor (TX9 k).2.2.1 = some (tyX9 k) := by decide +kernel
def RX10 : String := "HeapwrightLabModel"
def TX10 : u_T := fun k => match k with
  | _ => ("", "", "", false)
def tyX10 : Nat → FieldType := fun k => match k with
  | _ => .int
theorem nmX10 : ∀ a, a < 0 → ∀ b, b < 0 → a ≠ b → (TX10 a).2.1 ≠ (TX10 b).2.1 := by decide +kernel
theorem tyX10_ok : ∀ k, k < 0 → parseFieldDescriptor (TX10 k).2.2.1 = some (tyX10 k) := by decide +kernel
def RJx145de : String := "java/io/Serializable"
def TJx145de : u_T := fun k => match k with
  | _ => ("", "", "", false)
def tyJx145de : Nat → FieldType := fun k => match k with
  | _ => .int
theorem nmJx145de : ∀ a, a < 0 → ∀ b, b < 0 → a ≠ b → (TJx145de a).2.1 ≠ (TJx145de b).2.1 := by decide +kernel
theorem tyJx145de_ok : ∀ k, k < 0 → parseFieldDescriptor (TJx145de k).2.2.1 = some (tyJx145de k) := by decide +kernel
def RJ9 : String := "java/lang/Math"
def TJ9 : u_T := fun k => match k with
  | _ => ("", "", "", false)
def tyJ9 : Nat → FieldType := fun k => match k with
  | _ => .int
theorem nmJ9 : ∀ a, a < 0 → ∀ b, b < 0 → a ≠ b → (TJ9 a).2.1 ≠ (TJ9 b).2.1 := by decide +kernel
theorem tyJ9_ok : ∀ k, k < 0 → parseFieldDescriptor (TJ9 k).2.2.1 = some (tyJ9 k) := by decide +kernel
def RJ0 : String := "java/lang/String"
def TJ0 : u_T := fun k => match k with
  | _ => ("", "", "", false)
def tyJ0 : Nat → FieldType := fun k => match k with
  | _ => .int
theorem nmJ0 : ∀ a, a < 0 → ∀ b, b < 0 → a ≠ b → (TJ0 a).2.1 ≠ (TJ0 b).2.1 := by decide +kernel
theorem tyJ0_ok : ∀ k, k < 0 → parseFieldDescriptor (TJ0 k).2.2.1 = some (tyJ0 k) := by decide +kernel
def RJ10 : String := "java/lang/System"
def TJ10 : u_T := fun k => match k with
  | _ => ("", "", "", false)
def tyJ10 : Nat → FieldType := fun k => match k with
  | _ => .int
theorem nmJ10 : ∀ a, a < 0 → ∀ b, b < 0 → a ≠ b → (TJ10 a).2.1 ≠ (TJ10 b).2.1 := by decide +kernel
theorem tyJ10_ok : ∀ k, k < 0 → parseFieldDescriptor (TJ10 k).2.2.1 = some (tyJ10 k) := by decide +kernel
def RJ7 : String := "java/util/Arrays"
def TJ7 : u_T := fun k => match k with
  | _ => ("", "", "", false)
def tyJ7 : Nat → FieldType := fun k => match k with
  | _ => .int
theorem nmJ7 : ∀ a, a < 0 → ∀ b, b < 0 → a ≠ b → (TJ7 a).2.1 ≠ (TJ7 b).2.1 := by decide +kernel
theorem tyJ7_ok : ∀ k, k < 0 → parseFieldDescriptor (TJ7 k).2.2.1 = some (tyJ7 k) := by decide +kernel
def RL : String := "HeapwrightLabLaw"
end
section
/-! ===== the tables of this claim: methods, fields, links, as read off its listing by program ===== -/
abbrev zMt : Type := MethodName × ByteArray × Nat × Option FieldType × Option (List (Nat × Nat × Nat × Nat)) × Nat × Nat
/-- private methods of a class above: (class of the receiver, method, words of lw_tbl: instantiable, size, private, instance, same) -/
def zXs : List (String × MethodName × Nat × Nat × Nat × Nat × Nat) := [("HeapwrightLab$Buddies", ⟨"HeapwrightLab$Memory", "welcome", "(I)V"⟩, 5063, 13, 3159, 3160, 6133), ("HeapwrightLab$Fits", ⟨"HeapwrightLab$Memory", "welcome", "(I)V"⟩, 3081, 13, 3159, 3160, 6133), ("HeapwrightLab$Slabs", ⟨"HeapwrightLab$Memory", "welcome", "(I)V"⟩, 3105, 14, 3159, 3160, 6133), ("HeapwrightLab$Buddies", ⟨"HeapwrightLab$Memory", "settle", "(III)Z"⟩, 5063, 13, 3163, 3164, 6134), ("HeapwrightLab$Fits", ⟨"HeapwrightLab$Memory", "settle", "(III)Z"⟩, 3081, 13, 3163, 3164, 6134), ("HeapwrightLab$Slabs", ⟨"HeapwrightLab$Memory", "settle", "(III)Z"⟩, 3105, 14, 3163, 3164, 6134), ("HeapwrightLab$Buddies", ⟨"HeapwrightLab$Memory", "release", "(I)V"⟩, 5063, 13, 4022, 4023, 6135), ("HeapwrightLab$Fits", ⟨"HeapwrightLab$Memory", "release", "(I)V"⟩, 3081, 13, 4022, 4023, 6135), ("HeapwrightLab$Slabs", ⟨"HeapwrightLab$Memory", "release", "(I)V"⟩, 3105, 14, 4022, 4023, 6135), ("HeapwrightLab$Buddies", ⟨"HeapwrightLab$Memory", "resettle", "(II)V"⟩, 5063, 13, 4048, 4049, 6136), ("HeapwrightLab$Fits", ⟨"HeapwrightLab$Memory", "resettle", "(II)V"⟩, 3081, 13, 4048, 4049, 6136), ("HeapwrightLab$Slabs", ⟨"HeapwrightLab$Memory", "resettle", "(II)V"⟩, 3105, 14, 4048, 4049, 6136), ("HeapwrightLab$Buddies", ⟨"HeapwrightLab$Memory", "leaveArena", "()V"⟩, 5063, 13, 4109, 4110, 6139), ("HeapwrightLab$Fits", ⟨"HeapwrightLab$Memory", "leaveArena", "()V"⟩, 3081, 13, 4109, 4110, 6139), ("HeapwrightLab$Slabs", ⟨"HeapwrightLab$Memory", "leaveArena", "()V"⟩, 3105, 14, 4109, 4110, 6139)]
def zT : List Cond := zXs.map (fun q => Cond.selects q.1 q.2.1 q.2.1) ++ lw_tbl
def zBk : List (List Cond) := [zXs.map (fun q => Cond.selects q.1 q.2.1 q.2.1), k2_sels lw_privs, tables_1_1, tables_1_2, tables_1_3, tables_1_4, tables_1_5]
def zO : List String := ["HeapwrightLab", "HeapwrightLab$Memory", "HeapwrightLab$Blocks", "HeapwrightLab$Holes", "HeapwrightLab$Buddies", "HeapwrightLab$Fits", "HeapwrightLab$Slabs", "HeapwrightLab$Trace", "java/util/Arrays", "HeapwrightLabLaw$Pool", "HeapwrightLabLaw"]
def zcl : List vw_C := [(RX0, TX0, 6), (RX1, TX1, 13), (RX2, TX2, 13), (RX3, TX3, 3), (RX5, TX5, 14), (RX6, TX6, 4), (RX7, TX7, 8), (RX8, TX8, 17)]
def zct : List (Nat → FieldType) := [tyX0, tyX1, tyX2, tyX3, tyX5, tyX6, tyX7, tyX8]
def zM : List zMt := [
  (⟨"HeapwrightLab", "names", "()I"⟩, prog_1_method_10_code, 1, (some Jvm.ClassFile.FieldType.int), none, 0, 2022),
  (⟨"HeapwrightLab", "present", "()LHeapwrightLab$Memory;"⟩, prog_1_method_44_code, 1, (some (Jvm.ClassFile.FieldType.object "HeapwrightLab$Memory")), none, 0, 2027),
  (⟨"HeapwrightLab", "memoryOf", "(I)LHeapwrightLab$Memory;"⟩, prog_1_method_45_code, 2, (some (Jvm.ClassFile.FieldType.object "HeapwrightLab$Memory")), none, 0, 2031),
  (⟨"HeapwrightLab$Memory", "namesGiven", "()I"⟩, prog_6_method_15_code, 1, (some Jvm.ClassFile.FieldType.int), none, 1, 2038),
  (⟨"HeapwrightLab", "isThere", "(I)Z"⟩, prog_1_method_13_code, 2, (some Jvm.ClassFile.FieldType.boolean), none, 0, 2042),
  (⟨"HeapwrightLab", "requireName", "(I)V"⟩, prog_1_method_40_code, 2, none, none, 0, 2046),
  (⟨"HeapwrightLab$Memory", "standing", "()LHeapwrightLab$Blocks;"⟩, prog_6_method_13_code, 1, (some (Jvm.ClassFile.FieldType.object "HeapwrightLab$Blocks")), none, 1, 2123),
  (⟨"HeapwrightLab$Blocks", "has", "(I)Z"⟩, prog_2_method_3_code, 2, (some Jvm.ClassFile.FieldType.boolean), none, 2, 2127),
  (⟨"HeapwrightLab", "place", "(I)I"⟩, prog_1_method_14_code, 2, (some Jvm.ClassFile.FieldType.int), none, 0, 2131),
  (⟨"HeapwrightLab$Blocks", "placeOf", "(I)I"⟩, prog_2_method_4_code, 2, (some Jvm.ClassFile.FieldType.int), none, 2, 2135),
  (⟨"HeapwrightLab", "size", "(I)I"⟩, prog_1_method_15_code, 2, (some Jvm.ClassFile.FieldType.int), none, 0, 2140),
  (⟨"HeapwrightLab$Blocks", "sizeOf", "(I)I"⟩, prog_2_method_5_code, 2, (some Jvm.ClassFile.FieldType.int), none, 2, 2144),
  (⟨"HeapwrightLab", "room", "(I)I"⟩, prog_1_method_16_code, 2, (some Jvm.ClassFile.FieldType.int), none, 0, 2148),
  (⟨"HeapwrightLab$Blocks", "roomOf", "(I)I"⟩, prog_2_method_6_code, 2, (some Jvm.ClassFile.FieldType.int), none, 2, 2152),
  (⟨"HeapwrightLab", "at", "(I)I"⟩, prog_1_method_17_code, 2, (some Jvm.ClassFile.FieldType.int), none, 0, 2156),
  (⟨"HeapwrightLab$Blocks", "nameOver", "(I)I"⟩, prog_2_method_12_code, 4, (some Jvm.ClassFile.FieldType.int), none, 2, 2161),
  (⟨"HeapwrightLab$Blocks", "endOf", "(I)I"⟩, prog_2_method_7_code, 2, (some Jvm.ClassFile.FieldType.int), none, 2, 2166),
  (⟨"HeapwrightLab", "blocks", "()I"⟩, prog_1_method_18_code, 1, (some Jvm.ClassFile.FieldType.int), none, 0, 2170),
  (⟨"HeapwrightLab$Blocks", "howMany", "()I"⟩, prog_2_method_8_code, 1, (some Jvm.ClassFile.FieldType.int), none, 2, 2174),
  (⟨"HeapwrightLab", "holes", "()I"⟩, prog_1_method_19_code, 1, (some Jvm.ClassFile.FieldType.int), none, 0, 2178),
  (⟨"HeapwrightLab$Memory", "gaps", "()LHeapwrightLab$Holes;"⟩, prog_6_method_14_code, 1, (some (Jvm.ClassFile.FieldType.object "HeapwrightLab$Holes")), none, 1, 2185),
  (⟨"HeapwrightLab$Holes", "howMany", "()I"⟩, prog_5_method_4_code, 1, (some Jvm.ClassFile.FieldType.int), none, 3, 2189),
  (⟨"HeapwrightLab", "holePlace", "(I)I"⟩, prog_1_method_20_code, 2, (some Jvm.ClassFile.FieldType.int), none, 0, 2193),
  (⟨"HeapwrightLab", "requireHole", "(I)V"⟩, prog_1_method_41_code, 2, none, none, 0, 2197),
  (⟨"HeapwrightLab$Holes", "placeOf", "(I)I"⟩, prog_5_method_5_code, 2, (some Jvm.ClassFile.FieldType.int), none, 3, 2202),
  (⟨"HeapwrightLab", "holeSize", "(I)I"⟩, prog_1_method_21_code, 2, (some Jvm.ClassFile.FieldType.int), none, 0, 2206),
  (⟨"HeapwrightLab$Holes", "sizeOf", "(I)I"⟩, prog_5_method_6_code, 2, (some Jvm.ClassFile.FieldType.int), none, 3, 2210),
  (⟨"HeapwrightLab", "used", "()I"⟩, prog_1_method_24_code, 1, (some Jvm.ClassFile.FieldType.int), none, 0, 2214),
  (⟨"HeapwrightLab$Blocks", "allRooms", "()I"⟩, prog_2_method_10_code, 1, (some Jvm.ClassFile.FieldType.int), none, 2, 2218),
  (⟨"HeapwrightLab", "wasted", "()I"⟩, prog_1_method_25_code, 1, (some Jvm.ClassFile.FieldType.int), none, 0, 2222),
  (⟨"HeapwrightLab$Blocks", "allSizes", "()I"⟩, prog_2_method_11_code, 3, (some Jvm.ClassFile.FieldType.int), none, 2, 2226),
  (⟨"HeapwrightLab", "largest", "()I"⟩, prog_1_method_26_code, 1, (some Jvm.ClassFile.FieldType.int), none, 0, 2231),
  (⟨"HeapwrightLab$Holes", "largestSize", "()I"⟩, prog_5_method_7_code, 3, (some Jvm.ClassFile.FieldType.int), none, 3, 2235),
  (⟨"HeapwrightLab", "counted", "(I)I"⟩, prog_1_method_28_code, 2, (some Jvm.ClassFile.FieldType.int), none, 0, 3002),
  (⟨"HeapwrightLab$Memory", "countOf", "(I)I"⟩, prog_6_method_18_code, 2, (some Jvm.ClassFile.FieldType.int), none, 1, 3025),
  (⟨"HeapwrightLab", "peak", "()I"⟩, prog_1_method_29_code, 1, (some Jvm.ClassFile.FieldType.int), none, 0, 3031),
  (⟨"HeapwrightLab", "wouldBe", "(I)I"⟩, prog_1_method_30_code, 2, (some Jvm.ClassFile.FieldType.int), none, 0, 3035),
  (⟨"HeapwrightLab", "requireSize", "(I)V"⟩, prog_1_method_39_code, 1, none, none, 0, 3038),
  (⟨"HeapwrightLab$Memory", "placeFor", "(I)I"⟩, prog_6_method_19_code, 2, (some Jvm.ClassFile.FieldType.int), none, 1, 3046),
  (⟨"HeapwrightLab$Buddies", "roomFor", "(I)I"⟩, prog_3_method_2_code, 3, (some Jvm.ClassFile.FieldType.int), none, 4, 3052),
  (⟨"HeapwrightLab$Fits", "roomFor", "(I)I"⟩, prog_4_method_2_code, 2, (some Jvm.ClassFile.FieldType.int), none, 5, 3055),
  (⟨"HeapwrightLab", "madeUp", "(II)I"⟩, prog_1_method_46_code, 2, (some Jvm.ClassFile.FieldType.int), none, 0, 3058),
  (⟨"HeapwrightLab$Slabs", "roomFor", "(I)I"⟩, prog_7_method_2_code, 3, (some Jvm.ClassFile.FieldType.int), none, 6, 3061),
  (⟨"HeapwrightLab$Buddies", "search", "(I)I"⟩, prog_3_method_3_code, 2, (some Jvm.ClassFile.FieldType.int), none, 4, 3068),
  (⟨"HeapwrightLab$Holes", "tightestWith", "(I)I"⟩, prog_5_method_11_code, 4, (some Jvm.ClassFile.FieldType.int), none, 3, 3073),
  (⟨"HeapwrightLab$Fits", "search", "(I)I"⟩, prog_4_method_3_code, 2, (some Jvm.ClassFile.FieldType.int), none, 5, 3076),
  (⟨"HeapwrightLab$Fits", "searchRound", "(II)I"⟩, prog_4_method_9_code, 6, (some Jvm.ClassFile.FieldType.int), none, 5, 3082),
  (⟨"HeapwrightLab$Holes", "firstReaching", "(I)I"⟩, prog_5_method_8_code, 3, (some Jvm.ClassFile.FieldType.int), none, 3, 3087),
  (⟨"HeapwrightLab$Holes", "widestWith", "(I)I"⟩, prog_5_method_12_code, 4, (some Jvm.ClassFile.FieldType.int), none, 3, 3093),
  (⟨"HeapwrightLab$Slabs", "search", "(I)I"⟩, prog_7_method_3_code, 3, (some Jvm.ClassFile.FieldType.int), none, 6, 3096),
  (⟨"HeapwrightLab$Holes", "firstOfSize", "(I)I"⟩, prog_5_method_9_code, 3, (some Jvm.ClassFile.FieldType.int), none, 3, 3100),
  (⟨"HeapwrightLab$Slabs", "pagesOf", "(II)I"⟩, prog_7_method_8_code, 5, (some Jvm.ClassFile.FieldType.int), none, 6, 3106),
  (⟨"HeapwrightLab$Holes", "firstWith", "(I)I"⟩, prog_5_method_10_code, 3, (some Jvm.ClassFile.FieldType.int), none, 3, 3111),
  (⟨"HeapwrightLab", "greatest", "()I"⟩, prog_1_method_31_code, 1, (some Jvm.ClassFile.FieldType.int), none, 0, 3116),
  (⟨"HeapwrightLab$Memory", "greatestSize", "()I"⟩, prog_6_method_20_code, 3, (some Jvm.ClassFile.FieldType.int), none, 1, 3123),
  (⟨"HeapwrightLab", "again", "(II)I"⟩, prog_1_method_32_code, 3, (some Jvm.ClassFile.FieldType.int), none, 0, 3128),
  (⟨"HeapwrightLab", "isWay", "(I)Z"⟩, prog_1_method_37_code, 1, (some Jvm.ClassFile.FieldType.boolean), none, 0, 3131),
  (⟨"HeapwrightLab$Memory", "follow", "(LHeapwrightLab$Trace;)LHeapwrightLab$Memory;"⟩, prog_6_method_12_code, 3, (some (Jvm.ClassFile.FieldType.object "HeapwrightLab$Memory")), none, 1, 3140),
  (⟨"HeapwrightLab$Trace", "length", "()I"⟩, prog_8_method_4_code, 1, (some Jvm.ClassFile.FieldType.int), none, 7, 3144),
  (⟨"HeapwrightLab$Trace", "kindOf", "(I)I"⟩, prog_8_method_5_code, 2, (some Jvm.ClassFile.FieldType.int), none, 7, 3148),
  (⟨"HeapwrightLab$Trace", "isDeed", "(I)Z"⟩, prog_8_method_8_code, 2, (some Jvm.ClassFile.FieldType.boolean), none, 7, 3153),
  (⟨"HeapwrightLab$Trace", "sizeOf", "(I)I"⟩, prog_8_method_7_code, 2, (some Jvm.ClassFile.FieldType.int), none, 7, 3157),
  (⟨"HeapwrightLab$Memory", "welcome", "(I)V"⟩, prog_6_method_25_code, 3, none, none, 1, 3161),
  (⟨"HeapwrightLab$Memory", "settle", "(III)Z"⟩, prog_6_method_26_code, 6, (some Jvm.ClassFile.FieldType.boolean), none, 1, 3165),
  (⟨"HeapwrightLab$Memory", "count", "(II)V"⟩, prog_6_method_22_code, 3, none, none, 1, 3172),
  (⟨"HeapwrightLab$Buddies", "splits", "(II)I"⟩, prog_3_method_4_code, 5, (some Jvm.ClassFile.FieldType.int), none, 4, 3179),
  (⟨"HeapwrightLab$Fits", "splits", "(II)I"⟩, prog_4_method_4_code, 3, (some Jvm.ClassFile.FieldType.int), none, 5, 3182),
  (⟨"HeapwrightLab$Slabs", "splits", "(II)I"⟩, prog_7_method_4_code, 3, (some Jvm.ClassFile.FieldType.int), none, 6, 3185),
  (⟨"HeapwrightLab$Blocks", "put", "(IIII)V"⟩, prog_2_method_13_code, 6, none, none, 2, 3189),
  (⟨"HeapwrightLab$Memory", "layOut", "()V"⟩, prog_6_method_24_code, 4, none, none, 1, 3196),
  (⟨"HeapwrightLab$Slabs", "sortPages", "()V"⟩, prog_7_method_6_code, 6, none, none, 6, 3204),
  (⟨"java/util/Arrays", "fill", "([II)V"⟩, prog_22_method_103_code, 4, none, none, 8, 3207),
  (⟨"HeapwrightLab$Blocks", "inOrder", "(I)I"⟩, prog_2_method_9_code, 2, (some Jvm.ClassFile.FieldType.int), none, 2, 3212),
  (⟨"HeapwrightLab$Memory", "sortPages", "()V"⟩, prog_6_method_9_code, 1, none, none, 1, 3216),
  (⟨"HeapwrightLab$Holes", "removeAll", "()V"⟩, prog_5_method_2_code, 1, none, none, 3, 3220),
  (⟨"HeapwrightLab$Buddies", "addGap", "(II)V"⟩, prog_3_method_5_code, 6, none, none, 4, 3229),
  (⟨"HeapwrightLab$Buddies", "largestPart", "(II)I"⟩, prog_3_method_6_code, 3, (some Jvm.ClassFile.FieldType.int), none, 4, 3232),
  (⟨"HeapwrightLab$Holes", "add", "(II)V"⟩, prog_5_method_3_code, 3, none, none, 3, 3236),
  (⟨"HeapwrightLab$Fits", "addGap", "(II)V"⟩, prog_4_method_5_code, 3, none, none, 5, 3239),
  (⟨"HeapwrightLab$Slabs", "addGap", "(II)V"⟩, prog_7_method_5_code, 6, none, none, 6, 4003),
  (⟨"HeapwrightLab$Slabs", "classOf", "(I)I"⟩, prog_7_method_7_code, 2, (some Jvm.ClassFile.FieldType.int), none, 6, 4007),
  (⟨"HeapwrightLab$Memory", "handBehind", "(I)V"⟩, prog_6_method_23_code, 2, none, none, 1, 4016),
  (⟨"HeapwrightLab$Trace", "nameOf", "(I)I"⟩, prog_8_method_6_code, 2, (some Jvm.ClassFile.FieldType.int), none, 7, 4020),
  (⟨"HeapwrightLab$Memory", "release", "(I)V"⟩, prog_6_method_27_code, 4, none, none, 1, 4024),
  (⟨"HeapwrightLab$Blocks", "remove", "(I)V"⟩, prog_2_method_14_code, 3, none, none, 2, 4030),
  (⟨"HeapwrightLab$Blocks", "indexOf", "(I)I"⟩, prog_2_method_19_code, 3, (some Jvm.ClassFile.FieldType.int), none, 2, 4035),
  (⟨"HeapwrightLab$Fits", "joins", "(II)I"⟩, prog_4_method_6_code, 5, (some Jvm.ClassFile.FieldType.int), none, 5, 4042),
  (⟨"HeapwrightLab$Memory", "joins", "(II)I"⟩, prog_6_method_6_code, 3, (some Jvm.ClassFile.FieldType.int), none, 1, 4045),
  (⟨"HeapwrightLab$Memory", "resettle", "(II)V"⟩, prog_6_method_28_code, 5, none, none, 1, 4050),
  (⟨"HeapwrightLab$Fits", "stretches", "(II)Z"⟩, prog_4_method_7_code, 6, (some Jvm.ClassFile.FieldType.boolean), none, 5, 4057),
  (⟨"HeapwrightLab$Blocks", "setRoom", "(II)V"⟩, prog_2_method_17_code, 3, none, none, 2, 4063),
  (⟨"HeapwrightLab$Memory", "stretches", "(II)Z"⟩, prog_6_method_7_code, 3, (some Jvm.ClassFile.FieldType.boolean), none, 1, 4075),
  (⟨"HeapwrightLab$Blocks", "setSize", "(II)V"⟩, prog_2_method_16_code, 3, none, none, 2, 4079),
  (⟨"HeapwrightLab$Blocks", "rename", "(II)V"⟩, prog_2_method_15_code, 3, none, none, 2, 4087),
  (⟨"HeapwrightLab$Fits", "pack", "()V"⟩, prog_4_method_8_code, 4, none, none, 5, 4094),
  (⟨"HeapwrightLab$Blocks", "setPlace", "(II)V"⟩, prog_2_method_18_code, 3, none, none, 2, 4101),
  (⟨"HeapwrightLab$Memory", "pack", "()V"⟩, prog_6_method_8_code, 1, none, none, 1, 4107),
  (⟨"HeapwrightLab$Memory", "leaveArena", "()V"⟩, prog_6_method_29_code, 2, none, none, 1, 4111),
  (⟨"HeapwrightLab", "bestWay", "()I"⟩, prog_1_method_33_code, 3, (some Jvm.ClassFile.FieldType.int), none, 0, 4117),
  (⟨"HeapwrightLab", "isBetter", "(LHeapwrightLab$Memory;LHeapwrightLab$Memory;)Z"⟩, prog_1_method_38_code, 2, (some Jvm.ClassFile.FieldType.boolean), none, 0, 4120),
  (⟨"HeapwrightLab", "digest", "()J"⟩, prog_1_method_35_code, 6, (some Jvm.ClassFile.FieldType.long), none, 0, 4124),
  (⟨"HeapwrightLab$Memory", "arenasOpen", "()I"⟩, prog_6_method_16_code, 1, (some Jvm.ClassFile.FieldType.int), none, 1, 4134),
  (⟨"HeapwrightLab$Memory", "handPlace", "()I"⟩, prog_6_method_17_code, 1, (some Jvm.ClassFile.FieldType.int), none, 1, 4145),
  (⟨"HeapwrightLab", "withEverything", "(JLHeapwrightLab$Memory;)J"⟩, prog_1_method_36_code, 8, (some Jvm.ClassFile.FieldType.long), none, 0, 4148),
  (⟨"HeapwrightLab$Memory", "classOf", "(I)I"⟩, prog_6_method_10_code, 2, (some Jvm.ClassFile.FieldType.int), none, 1, 4155),
  (⟨"HeapwrightLabLaw$Pool", "<init>", "([II)V"⟩, prog_10_method_1_code, 3, none, none, 9, 4160),
  (⟨"HeapwrightLab", "<init>", "()V"⟩, prog_1_method_1_code, 1, none, none, 0, 4165),
  (⟨"HeapwrightLab$Trace", "<init>", "()V"⟩, prog_8_method_1_code, 1, none, none, 7, 4170),
  (⟨"HeapwrightLab$Fits", "<init>", "(I)V"⟩, prog_4_method_1_code, 2, none, none, 5, 4189),
  (⟨"HeapwrightLab$Memory", "<init>", "(I)V"⟩, prog_6_method_1_code, 2, none, none, 1, 4192),
  (⟨"HeapwrightLab$Blocks", "<init>", "()V"⟩, prog_2_method_1_code, 1, none, none, 2, 4197),
  (⟨"HeapwrightLab$Holes", "<init>", "()V"⟩, prog_5_method_1_code, 1, none, none, 3, 4222),
  (⟨"HeapwrightLab$Buddies", "<init>", "()V"⟩, prog_3_method_1_code, 1, none, none, 4, 5066),
  (⟨"HeapwrightLab$Slabs", "<init>", "()V"⟩, prog_7_method_1_code, 1, none, none, 6, 5085),
  (⟨"HeapwrightLabLaw$Pool", "clear", "()V"⟩, prog_10_method_3_code, 2, none, none, 9, 5132),
  (⟨"HeapwrightLabLaw$Pool", "draw", "(I)I"⟩, prog_10_method_2_code, 3, (some Jvm.ClassFile.FieldType.int), none, 9, 5190),
  (⟨"HeapwrightLabLaw", "cell", "([II)I"⟩, method_3_code, 2, (some Jvm.ClassFile.FieldType.int), none, 10, 5193),
  (⟨"HeapwrightLabLaw", "below", "(II)I"⟩, method_2_code, 2, (some Jvm.ClassFile.FieldType.int), none, 10, 5197),
  (⟨"HeapwrightLabLaw$Pool", "reset", "(I)Z"⟩, prog_10_method_4_code, 3, (some Jvm.ClassFile.FieldType.boolean), none, 9, 5202),
  (⟨"HeapwrightLab", "reset", "(III)I"⟩, prog_1_method_2_code, 6, (some Jvm.ClassFile.FieldType.int), none, 0, 5207),
  (⟨"HeapwrightLab$Trace", "forget", "()V"⟩, prog_8_method_2_code, 1, none, none, 7, 5213),
  (⟨"HeapwrightLab$Memory", "beginAnew", "(II)V"⟩, prog_6_method_11_code, 3, none, none, 1, 5220),
  (⟨"HeapwrightLab$Blocks", "removeAll", "()V"⟩, prog_2_method_2_code, 1, none, none, 2, 5225),
  (⟨"HeapwrightLabLaw$Pool", "roomOf", "(I)I"⟩, prog_10_method_6_code, 4, (some Jvm.ClassFile.FieldType.int), none, 9, 5230),
  (⟨"HeapwrightLabLaw$Pool", "ask", "(I)Z"⟩, prog_10_method_18_code, 4, (some Jvm.ClassFile.FieldType.boolean), none, 9, 5234),
  (⟨"HeapwrightLabLaw$Pool", "take", "(I)I"⟩, prog_10_method_14_code, 8, (some Jvm.ClassFile.FieldType.int), none, 9, 5239),
  (⟨"HeapwrightLabLaw$Pool", "holes", "()[I"⟩, prog_10_method_11_code, 5, (some (Jvm.ClassFile.FieldType.array Jvm.ClassFile.FieldType.int)), none, 9, 6003),
  (⟨"HeapwrightLabLaw$Pool", "holeAt", "(I)I"⟩, prog_10_method_12_code, 3, (some Jvm.ClassFile.FieldType.int), none, 9, 6007),
  (⟨"HeapwrightLabLaw$Pool", "isFree", "(II)Z"⟩, prog_10_method_8_code, 4, (some Jvm.ClassFile.FieldType.boolean), none, 9, 6011),
  (⟨"HeapwrightLabLaw$Pool", "pageClass", "(I)I"⟩, prog_10_method_10_code, 3, (some Jvm.ClassFile.FieldType.int), none, 9, 6015),
  (⟨"HeapwrightLabLaw$Pool", "takeSlot", "(I)I"⟩, prog_10_method_15_code, 4, (some Jvm.ClassFile.FieldType.int), none, 9, 6023),
  (⟨"HeapwrightLabLaw$Pool", "fill", "(III)V"⟩, prog_10_method_13_code, 5, none, none, 9, 6027),
  (⟨"HeapwrightLabLaw$Pool", "did", "(III)V"⟩, prog_10_method_17_code, 5, none, none, 9, 6031),
  (⟨"HeapwrightLabLaw$Pool", "used", "()I"⟩, prog_10_method_9_code, 6, (some Jvm.ClassFile.FieldType.int), none, 9, 6035),
  (⟨"HeapwrightLab", "ask", "(I)I"⟩, prog_1_method_3_code, 2, (some Jvm.ClassFile.FieldType.int), none, 0, 6039),
  (⟨"HeapwrightLab", "requireFreeDeed", "()V"⟩, prog_1_method_43_code, 1, none, none, 0, 6059),
  (⟨"HeapwrightLab$Trace", "add", "(III)LHeapwrightLab$Trace;"⟩, prog_8_method_3_code, 4, (some (Jvm.ClassFile.FieldType.object "HeapwrightLab$Trace")), none, 7, 6064),
  (⟨"HeapwrightLabLaw$Pool", "act", "(I)Z"⟩, prog_10_method_24_code, 5, (some Jvm.ClassFile.FieldType.boolean), none, 9, 6070),
  (⟨"HeapwrightLabLaw$Pool", "place", "(I)I"⟩, prog_10_method_7_code, 3, (some Jvm.ClassFile.FieldType.int), none, 9, 6074),
  (⟨"HeapwrightLabLaw$Pool", "giveBack", "(I)Z"⟩, prog_10_method_19_code, 3, (some Jvm.ClassFile.FieldType.boolean), none, 9, 6079),
  (⟨"HeapwrightLabLaw$Pool", "give", "(II)V"⟩, prog_10_method_16_code, 6, none, none, 9, 6083),
  (⟨"HeapwrightLab", "giveBack", "(I)I"⟩, prog_1_method_4_code, 3, (some Jvm.ClassFile.FieldType.int), none, 0, 6088),
  (⟨"HeapwrightLab", "requireThere", "(I)V"⟩, prog_1_method_42_code, 2, none, none, 0, 6092),
  (⟨"HeapwrightLabLaw$Pool", "resize", "(II)Z"⟩, prog_10_method_20_code, 8, (some Jvm.ClassFile.FieldType.boolean), none, 9, 6097),
  (⟨"HeapwrightLab", "resize", "(II)I"⟩, prog_1_method_5_code, 3, (some Jvm.ClassFile.FieldType.int), none, 0, 6101),
  (⟨"HeapwrightLabLaw$Pool", "open", "()Z"⟩, prog_10_method_22_code, 1, (some Jvm.ClassFile.FieldType.boolean), none, 9, 6107),
  (⟨"HeapwrightLab", "open", "()I"⟩, prog_1_method_7_code, 1, (some Jvm.ClassFile.FieldType.int), none, 0, 6111),
  (⟨"HeapwrightLabLaw$Pool", "close", "()Z"⟩, prog_10_method_23_code, 4, (some Jvm.ClassFile.FieldType.boolean), none, 9, 6116),
  (⟨"HeapwrightLab", "close", "()I"⟩, prog_1_method_8_code, 2, (some Jvm.ClassFile.FieldType.int), none, 0, 6120),
  (⟨"HeapwrightLabLaw$Pool", "together", "()Z"⟩, prog_10_method_21_code, 6, (some Jvm.ClassFile.FieldType.boolean), none, 9, 6125),
  (⟨"HeapwrightLab", "together", "()I"⟩, prog_1_method_6_code, 2, (some Jvm.ClassFile.FieldType.int), none, 0, 6129)]
def zi_0 : List (Nat × Instr) := [(0, .aload_n 0), (1, .invokevirtual 83), (4, .invokevirtual 87), (7, .ireturn)]
def zi_1 : List (Nat × Instr) := [(0, .aload_n 0), (1, .aload_n 0), (2, .getfield 48), (5, .invokevirtual 70), (8, .areturn)]
def zi_2 : List (Nat × Instr) := [(0, .iload_n 1), (1, .tableswitch 60 0 4 #[35, 40, 45, 50, 55]), (36, .aload_n 0), (37, .getfield 21), (40, .areturn), (41, .aload_n 0), (42, .getfield 25), (45, .areturn), (46, .aload_n 0), (47, .getfield 28), (50, .areturn), (51, .aload_n 0), (52, .getfield 31), (55, .areturn), (56, .aload_n 0), (57, .getfield 37), (60, .areturn), (61, .aload_n 0), (62, .getfield 44), (65, .areturn)]
def zi_3 : List (Nat × Instr) := [(0, .aload_n 0), (1, .getfield 56), (4, .ireturn)]
def zi_4 : List (Nat × Instr) := [(0, .aload_n 0), (1, .iload_n 1), (2, .invokevirtual 107), (5, .aload_n 0), (6, .invokevirtual 83), (9, .invokevirtual 113), (12, .iload_n 1), (13, .invokevirtual 144), (16, .ireturn)]
def zi_5 : List (Nat × Instr) := [(0, .iload_n 1), (1, .ifCond .lt 14), (4, .iload_n 1), (5, .aload_n 0), (6, .invokevirtual 83), (9, .invokevirtual 87), (12, .if_icmp .lt 13), (15, .new 150), (18, .dup), (19, .ldc 226), (21, .invokespecial 154), (24, .athrow), (25, .return_)]
def zi_6 : List (Nat × Instr) := [(0, .aload_n 0), (1, .getfield 12), (4, .areturn)]
def zi_7 : List (Nat × Instr) := [(0, .iload_n 1), (1, .ifCond .lt 25), (4, .iload_n 1), (5, .aload_n 0), (6, .getfield 18), (9, .arraylength), (10, .if_icmp .ge 16), (13, .aload_n 0), (14, .getfield 18), (17, .iload_n 1), (18, .iaload), (19, .ifCond .le 7), (22, .iconst 1), (23, .goto 4), (26, .iconst 0), (27, .ireturn)]
def zi_8 : List (Nat × Instr) := [(0, .aload_n 0), (1, .iload_n 1), (2, .invokevirtual 107), (5, .aload_n 0), (6, .invokevirtual 83), (9, .invokevirtual 113), (12, .iload_n 1), (13, .invokevirtual 123), (16, .ireturn)]
def zi_9 : List (Nat × Instr) := [(0, .aload_n 0), (1, .iload_n 1), (2, .invokevirtual 37), (5, .ifCond .eq 12), (8, .aload_n 0), (9, .getfield 9), (12, .iload_n 1), (13, .iaload), (14, .goto 4), (17, .iconst (-1)), (18, .ireturn)]
def zi_10 : List (Nat × Instr) := [(0, .aload_n 0), (1, .iload_n 1), (2, .invokevirtual 107), (5, .aload_n 0), (6, .invokevirtual 83), (9, .invokevirtual 113), (12, .iload_n 1), (13, .invokevirtual 147), (16, .ireturn)]
def zi_11 : List (Nat × Instr) := [(0, .aload_n 0), (1, .iload_n 1), (2, .invokevirtual 37), (5, .ifCond .eq 12), (8, .aload_n 0), (9, .getfield 15), (12, .iload_n 1), (13, .iaload), (14, .goto 4), (17, .iconst (-1)), (18, .ireturn)]
def zi_12 : List (Nat × Instr) := [(0, .aload_n 0), (1, .iload_n 1), (2, .invokevirtual 107), (5, .aload_n 0), (6, .invokevirtual 83), (9, .invokevirtual 113), (12, .iload_n 1), (13, .invokevirtual 117), (16, .ireturn)]
def zi_13 : List (Nat × Instr) := [(0, .aload_n 0), (1, .iload_n 1), (2, .invokevirtual 37), (5, .ifCond .eq 12), (8, .aload_n 0), (9, .getfield 18), (12, .iload_n 1), (13, .iaload), (14, .goto 4), (17, .iconst (-1)), (18, .ireturn)]
def zi_14 : List (Nat × Instr) := [(0, .iload_n 1), (1, .ifCond .lt 10), (4, .iload_n 1), (5, .sipush 1024), (8, .if_icmp .lt 13), (11, .new 150), (14, .dup), (15, .ldc 152), (17, .invokespecial 154), (20, .athrow), (21, .aload_n 0), (22, .invokevirtual 83), (25, .invokevirtual 113), (28, .iload_n 1), (29, .invokevirtual 155), (32, .ireturn)]
def zi_15 : List (Nat × Instr) := [(0, .iconst 0), (1, .istore_n 2), (2, .iload_n 2), (3, .aload_n 0), (4, .getfield 30), (7, .if_icmp .ge 36), (10, .aload_n 0), (11, .getfield 21), (14, .iload_n 2), (15, .iaload), (16, .istore_n 3), (17, .aload_n 0), (18, .iload_n 3), (19, .invokevirtual 45), (22, .iload_n 1), (23, .if_icmp .gt 14), (26, .iload_n 1), (27, .aload_n 0), (28, .iload_n 3), (29, .invokevirtual 48), (32, .if_icmp .ge 5), (35, .iload_n 3), (36, .ireturn), (37, .iinc 2 1), (40, .goto (-38)), (43, .iconst (-1)), (44, .ireturn)]
def zi_16 : List (Nat × Instr) := [(0, .aload_n 0), (1, .iload_n 1), (2, .invokevirtual 37), (5, .ifCond .eq 19), (8, .aload_n 0), (9, .getfield 9), (12, .iload_n 1), (13, .iaload), (14, .aload_n 0), (15, .getfield 18), (18, .iload_n 1), (19, .iaload), (20, .iadd), (21, .goto 4), (24, .iconst (-1)), (25, .ireturn)]
def zi_17 : List (Nat × Instr) := [(0, .aload_n 0), (1, .invokevirtual 83), (4, .invokevirtual 113), (7, .invokevirtual 138), (10, .ireturn)]
def zi_18 : List (Nat × Instr) := [(0, .aload_n 0), (1, .getfield 30), (4, .ireturn)]
def zi_19 : List (Nat × Instr) := [(0, .aload_n 0), (1, .invokevirtual 83), (4, .invokevirtual 158), (7, .invokevirtual 162), (10, .ireturn)]
def zi_20 : List (Nat × Instr) := [(0, .aload_n 0), (1, .getfield 21), (4, .areturn)]
def zi_21 : List (Nat × Instr) := [(0, .aload_n 0), (1, .getfield 18), (4, .ireturn)]
def zi_22 : List (Nat × Instr) := [(0, .aload_n 0), (1, .iload_n 1), (2, .invokevirtual 165), (5, .aload_n 0), (6, .invokevirtual 83), (9, .invokevirtual 158), (12, .iload_n 1), (13, .invokevirtual 168), (16, .ireturn)]
def zi_23 : List (Nat × Instr) := [(0, .iload_n 1), (1, .ifCond .lt 17), (4, .iload_n 1), (5, .aload_n 0), (6, .invokevirtual 83), (9, .invokevirtual 158), (12, .invokevirtual 162), (15, .if_icmp .lt 13), (18, .new 150), (21, .dup), (22, .ldc 228), (24, .invokespecial 154), (27, .athrow), (28, .return_)]
def zi_24 : List (Nat × Instr) := [(0, .iload_n 1), (1, .ifCond .lt 20), (4, .iload_n 1), (5, .aload_n 0), (6, .getfield 18), (9, .if_icmp .ge 12), (12, .aload_n 0), (13, .getfield 9), (16, .iload_n 1), (17, .iaload), (18, .goto 4), (21, .iconst (-1)), (22, .ireturn)]
def zi_25 : List (Nat × Instr) := [(0, .aload_n 0), (1, .iload_n 1), (2, .invokevirtual 165), (5, .aload_n 0), (6, .invokevirtual 83), (9, .invokevirtual 158), (12, .iload_n 1), (13, .invokevirtual 169), (16, .ireturn)]
def zi_26 : List (Nat × Instr) := [(0, .iload_n 1), (1, .ifCond .lt 20), (4, .iload_n 1), (5, .aload_n 0), (6, .getfield 18), (9, .if_icmp .ge 12), (12, .aload_n 0), (13, .getfield 15), (16, .iload_n 1), (17, .iaload), (18, .goto 4), (21, .iconst 0), (22, .ireturn)]
def zi_27 : List (Nat × Instr) := [(0, .aload_n 0), (1, .invokevirtual 83), (4, .invokevirtual 113), (7, .invokevirtual 178), (10, .ireturn)]
def zi_28 : List (Nat × Instr) := [(0, .aload_n 0), (1, .getfield 34), (4, .ireturn)]
def zi_29 : List (Nat × Instr) := [(0, .aload_n 0), (1, .invokevirtual 83), (4, .invokevirtual 113), (7, .invokevirtual 178), (10, .aload_n 0), (11, .invokevirtual 83), (14, .invokevirtual 113), (17, .invokevirtual 181), (20, .isub), (21, .ireturn)]
def zi_30 : List (Nat × Instr) := [(0, .iconst 0), (1, .istore_n 1), (2, .iconst 0), (3, .istore_n 2), (4, .iload_n 2), (5, .aload_n 0), (6, .getfield 30), (9, .if_icmp .ge 22), (12, .iload_n 1), (13, .aload_n 0), (14, .aload_n 0), (15, .getfield 21), (18, .iload_n 2), (19, .iaload), (20, .invokevirtual 41), (23, .iadd), (24, .istore_n 1), (25, .iinc 2 1), (28, .goto (-24)), (31, .iload_n 1), (32, .ireturn)]
def zi_31 : List (Nat × Instr) := [(0, .aload_n 0), (1, .invokevirtual 83), (4, .invokevirtual 158), (7, .invokevirtual 184), (10, .ireturn)]
def zi_32 : List (Nat × Instr) := [(0, .iconst 0), (1, .istore_n 1), (2, .iconst 0), (3, .istore_n 2), (4, .iload_n 2), (5, .aload_n 0), (6, .getfield 18), (9, .if_icmp .ge 20), (12, .iload_n 1), (13, .aload_n 0), (14, .getfield 15), (17, .iload_n 2), (18, .iaload), (19, .invokestatic 22), (22, .istore_n 1), (23, .iinc 2 1), (26, .goto (-22)), (29, .iload_n 1), (30, .ireturn)]
def zi_33 : List (Nat × Instr) := [(0, .iload_n 1), (1, .ifCond .lt 8), (4, .iload_n 1), (5, .iconst 4), (6, .if_icmp .le 13), (9, .new 56), (12, .dup), (13, .ldc 187), (15, .invokespecial 60), (18, .athrow), (19, .aload_n 0), (20, .invokevirtual 83), (23, .iload_n 1), (24, .invokevirtual 128), (27, .ireturn)]
def zi_34 : List (Nat × Instr) := [(0, .iload_n 1), (1, .tableswitch 48 5 7 #[27, 32, 40]), (28, .aload_n 0), (29, .getfield 62), (32, .ireturn), (33, .aload_n 0), (34, .getfield 21), (37, .invokevirtual 118), (40, .ireturn), (41, .aload_n 0), (42, .getfield 21), (45, .invokevirtual 121), (48, .ireturn), (49, .iload_n 1), (50, .ifCond .lt 17), (53, .iload_n 1), (54, .iconst 5), (55, .if_icmp .ge 12), (58, .aload_n 0), (59, .getfield 32), (62, .iload_n 1), (63, .iaload), (64, .goto 4), (67, .iconst 0), (68, .ireturn)]
def zi_35 : List (Nat × Instr) := [(0, .aload_n 0), (1, .invokevirtual 83), (4, .iconst 5), (5, .invokevirtual 128), (8, .ireturn)]
def zi_36 : List (Nat × Instr) := [(0, .iload_n 1), (1, .invokestatic 80), (4, .aload_n 0), (5, .invokevirtual 83), (8, .iload_n 1), (9, .invokevirtual 189), (12, .ireturn)]
def zi_37 : List (Nat × Instr) := [(0, .iload_n 0), (1, .iconst 1), (2, .if_icmp .lt 10), (5, .iload_n 0), (6, .sipush 300), (9, .if_icmp .le 13), (12, .new 56), (15, .dup), (16, .ldc 224), (18, .invokespecial 60), (21, .athrow), (22, .return_)]
def zi_38 : List (Nat × Instr) := [(0, .aload_n 0), (1, .getfield 21), (4, .aload_n 0), (5, .aload_n 0), (6, .iload_n 1), (7, .invokevirtual 124), (10, .invokevirtual 127), (13, .invokevirtual 130), (16, .ireturn)]
def zi_39 : List (Nat × Instr) := [(0, .bipush 8), (2, .istore_n 2), (3, .iload_n 2), (4, .sipush 1024), (7, .if_icmp .ge 22), (10, .iload_n 2), (11, .iload_n 1), (12, .aload_n 0), (13, .getfield 9), (16, .iadd), (17, .if_icmp .lt 5), (20, .iload_n 2), (21, .ireturn), (22, .iload_n 2), (23, .iconst 2), (24, .imul), (25, .istore_n 2), (26, .goto (-23)), (29, .sipush 1024), (32, .ireturn)]
def zi_40 : List (Nat × Instr) := [(0, .iload_n 1), (1, .aload_n 0), (2, .getfield 9), (5, .iadd), (6, .aload_n 0), (7, .getfield 15), (10, .invokestatic 18), (13, .ireturn)]
def zi_41 : List (Nat × Instr) := [(0, .iload_n 0), (1, .iload_n 1), (2, .iadd), (3, .iconst 1), (4, .isub), (5, .iload_n 1), (6, .ineg), (7, .iand), (8, .ireturn)]
def zi_42 : List (Nat × Instr) := [(0, .bipush 8), (2, .istore_n 2), (3, .iload_n 2), (4, .sipush 128), (7, .if_icmp .gt 22), (10, .iload_n 2), (11, .iload_n 1), (12, .aload_n 0), (13, .getfield 15), (16, .iadd), (17, .if_icmp .lt 5), (20, .iload_n 2), (21, .ireturn), (22, .iload_n 2), (23, .iconst 2), (24, .imul), (25, .istore_n 2), (26, .goto (-23)), (29, .iload_n 1), (30, .aload_n 0), (31, .getfield 15), (34, .iadd), (35, .sipush 128), (38, .invokestatic 19), (41, .ireturn)]
def zi_43 : List (Nat × Instr) := [(0, .aload_n 0), (1, .aload_n 0), (2, .getfield 15), (5, .invokevirtual 19), (8, .putfield 25), (11, .aload_n 0), (12, .getfield 15), (15, .iload_n 1), (16, .invokevirtual 28), (19, .ireturn)]
def zi_44 : List (Nat × Instr) := [(0, .iconst (-1)), (1, .istore_n 2), (2, .iconst 0), (3, .istore_n 3), (4, .iload_n 3), (5, .aload_n 0), (6, .getfield 18), (9, .if_icmp .ge 40), (12, .aload_n 0), (13, .getfield 15), (16, .iload_n 3), (17, .iaload), (18, .iload_n 1), (19, .if_icmp .lt 24), (22, .iload_n 2), (23, .ifCond .lt 18), (26, .aload_n 0), (27, .getfield 15), (30, .iload_n 3), (31, .iaload), (32, .aload_n 0), (33, .getfield 15), (36, .iload_n 2), (37, .iaload), (38, .if_icmp .ge 5), (41, .iload_n 3), (42, .istore_n 2), (43, .iinc 3 1), (46, .goto (-42)), (49, .iload_n 2), (50, .ireturn)]
def zi_45 : List (Nat × Instr) := [(0, .aload_n 0), (1, .aload_n 0), (2, .getfield 22), (5, .invokevirtual 26), (8, .putfield 32), (11, .aload_n 0), (12, .getfield 35), (15, .tableswitch 62 0 2 #[25, 32, 53]), (40, .aload_n 0), (41, .iconst 0), (42, .iload_n 1), (43, .invokevirtual 38), (46, .ireturn), (47, .aload_n 0), (48, .aload_n 0), (49, .getfield 22), (52, .aload_n 0), (53, .getfield 41), (56, .invokevirtual 44), (59, .iconst 0), (60, .invokestatic 48), (63, .iload_n 1), (64, .invokevirtual 38), (67, .ireturn), (68, .aload_n 0), (69, .getfield 22), (72, .iload_n 1), (73, .invokevirtual 53), (76, .ireturn), (77, .aload_n 0), (78, .getfield 22), (81, .iload_n 1), (82, .invokevirtual 56), (85, .ireturn)]
def zi_46 : List (Nat × Instr) := [(0, .aload_n 0), (1, .getfield 22), (4, .invokevirtual 26), (7, .istore_n 3), (8, .iconst 0), (9, .istore 4), (11, .iload 4), (13, .iload_n 3), (14, .if_icmp .ge 56), (17, .iload_n 1), (18, .iload 4), (20, .iadd), (21, .iload_n 3), (22, .if_icmp .ge 10), (25, .iload_n 1), (26, .iload 4), (28, .iadd), (29, .goto 9), (32, .iload_n 1), (33, .iload 4), (35, .iadd), (36, .iload_n 3), (37, .isub), (38, .istore 5), (40, .aload_n 0), (41, .getfield 22), (44, .iload 5), (46, .invokevirtual 66), (49, .iload_n 2), (50, .if_icmp .lt 14), (53, .aload_n 0), (54, .iload 4), (56, .iconst 1), (57, .iadd), (58, .putfield 32), (61, .iload 5), (63, .ireturn), (64, .iinc 4 1), (67, .goto (-56)), (70, .iconst (-1)), (71, .ireturn)]
def zi_47 : List (Nat × Instr) := [(0, .iconst 0), (1, .istore_n 2), (2, .iload_n 2), (3, .aload_n 0), (4, .getfield 18), (7, .if_icmp .ge 28), (10, .aload_n 0), (11, .getfield 9), (14, .iload_n 2), (15, .iaload), (16, .aload_n 0), (17, .getfield 15), (20, .iload_n 2), (21, .iaload), (22, .iadd), (23, .iload_n 1), (24, .if_icmp .le 5), (27, .iload_n 2), (28, .ireturn), (29, .iinc 2 1), (32, .goto (-30)), (35, .iconst (-1)), (36, .ireturn)]
def zi_48 : List (Nat × Instr) := [(0, .iconst (-1)), (1, .istore_n 2), (2, .iconst 0), (3, .istore_n 3), (4, .iload_n 3), (5, .aload_n 0), (6, .getfield 18), (9, .if_icmp .ge 40), (12, .aload_n 0), (13, .getfield 15), (16, .iload_n 3), (17, .iaload), (18, .iload_n 1), (19, .if_icmp .lt 24), (22, .iload_n 2), (23, .ifCond .lt 18), (26, .aload_n 0), (27, .getfield 15), (30, .iload_n 3), (31, .iaload), (32, .aload_n 0), (33, .getfield 15), (36, .iload_n 2), (37, .iaload), (38, .if_icmp .le 5), (41, .iload_n 3), (42, .istore_n 2), (43, .iinc 3 1), (46, .goto (-42)), (49, .iload_n 2), (50, .ireturn)]
def zi_49 : List (Nat × Instr) := [(0, .iload_n 1), (1, .sipush 128), (4, .if_icmp .ge 14), (7, .aload_n 0), (8, .getfield 23), (11, .iload_n 1), (12, .invokevirtual 27), (15, .goto 4), (18, .iconst (-1)), (19, .istore_n 2), (20, .iload_n 2), (21, .ifCond .lt 22), (24, .aload_n 0), (25, .aload_n 0), (26, .iload_n 1), (27, .aload_n 0), (28, .getfield 23), (31, .iload_n 2), (32, .invokevirtual 33), (35, .invokevirtual 36), (38, .putfield 39), (41, .iload_n 2), (42, .ireturn), (43, .aload_n 0), (44, .iload_n 1), (45, .sipush 128), (48, .if_icmp .gt 14), (51, .aload_n 0), (52, .iload_n 1), (53, .sipush 1024), (56, .invokevirtual 36), (59, .goto 4), (62, .iconst 0), (63, .putfield 39), (66, .aload_n 0), (67, .getfield 23), (70, .iload_n 1), (71, .sipush 128), (74, .invokestatic 42), (77, .invokevirtual 47), (80, .ireturn)]
def zi_50 : List (Nat × Instr) := [(0, .iconst 0), (1, .istore_n 2), (2, .iload_n 2), (3, .aload_n 0), (4, .getfield 18), (7, .if_icmp .ge 21), (10, .aload_n 0), (11, .getfield 15), (14, .iload_n 2), (15, .iaload), (16, .iload_n 1), (17, .if_icmp .ne 5), (20, .iload_n 2), (21, .ireturn), (22, .iinc 2 1), (25, .goto (-23)), (28, .iconst (-1)), (29, .ireturn)]
def zi_51 : List (Nat × Instr) := [(0, .iconst 0), (1, .istore_n 3), (2, .iconst 0), (3, .istore 4), (5, .iload 4), (7, .bipush 8), (9, .if_icmp .ge 33), (12, .iload 4), (14, .sipush 128), (17, .imul), (18, .iload_n 2), (19, .if_icmp .gt 23), (22, .aload_n 0), (23, .getfield 9), (26, .iload 4), (28, .iaload), (29, .iload_n 1), (30, .if_icmp .ne 6), (33, .iinc 3 1), (36, .iinc 4 1), (39, .goto (-34)), (42, .iload_n 3), (43, .ireturn)]
def zi_52 : List (Nat × Instr) := [(0, .iconst 0), (1, .istore_n 2), (2, .iload_n 2), (3, .aload_n 0), (4, .getfield 18), (7, .if_icmp .ge 21), (10, .aload_n 0), (11, .getfield 15), (14, .iload_n 2), (15, .iaload), (16, .iload_n 1), (17, .if_icmp .lt 5), (20, .iload_n 2), (21, .ireturn), (22, .iinc 2 1), (25, .goto (-23)), (28, .iconst (-1)), (29, .ireturn)]
def zi_53 : List (Nat × Instr) := [(0, .aload_n 0), (1, .invokevirtual 83), (4, .invokevirtual 192), (7, .ireturn)]
def zi_54 : List (Nat × Instr) := [(0, .aload_n 0), (1, .getfield 21), (4, .invokevirtual 121), (7, .istore_n 1), (8, .sipush 300), (11, .istore_n 2), (12, .iload_n 2), (13, .iconst 1), (14, .if_icmp .lt 28), (17, .aload_n 0), (18, .iload_n 2), (19, .invokevirtual 124), (22, .iload_n 1), (23, .if_icmp .gt 13), (26, .aload_n 0), (27, .iload_n 2), (28, .invokevirtual 133), (31, .ifCond .lt 5), (34, .iload_n 2), (35, .ireturn), (36, .iinc 2 (-1)), (39, .goto (-27)), (42, .iconst 0), (43, .ireturn)]
def zi_55 : List (Nat × Instr) := [(0, .iload_n 1), (1, .invokestatic 52), (4, .ifCond .ne 13), (7, .new 56), (10, .dup), (11, .ldc 58), (13, .invokespecial 60), (16, .athrow), (17, .iload_n 2), (18, .ifCond .lt 9), (21, .iload_n 2), (22, .bipush 7), (24, .if_icmp .le 13), (27, .new 56), (30, .dup), (31, .ldc 195), (33, .invokespecial 60), (36, .athrow), (37, .aload_n 0), (38, .iload_n 1), (39, .invokevirtual 70), (42, .aload_n 0), (43, .getfield 12), (46, .invokevirtual 103), (49, .iload_n 2), (50, .invokevirtual 128), (53, .ireturn)]
def zi_56 : List (Nat × Instr) := [(0, .iload_n 0), (1, .ifCond .lt 13), (4, .iload_n 0), (5, .bipush 6), (7, .if_icmp .ge 7), (10, .iconst 1), (11, .goto 4), (14, .iconst 0), (15, .ireturn)]
def zi_57 : List (Nat × Instr) := [(0, .aload_n 0), (1, .getfield 65), (4, .istore_n 2), (5, .iload_n 2), (6, .aload_n 1), (7, .invokevirtual 80), (10, .if_icmp .ge 138), (13, .aload_n 1), (14, .iload_n 2), (15, .invokevirtual 86), (18, .tableswitch 106 0 5 #[38, 50, 62, 79, 86, 99]), (56, .aload_n 0), (57, .aload_n 1), (58, .iload_n 2), (59, .invokevirtual 89), (62, .invokevirtual 90), (65, .goto 59), (68, .aload_n 0), (69, .aload_n 1), (70, .iload_n 2), (71, .invokevirtual 94), (74, .invokevirtual 97), (77, .goto 47), (80, .aload_n 0), (81, .aload_n 1), (82, .iload_n 2), (83, .invokevirtual 94), (86, .aload_n 1), (87, .iload_n 2), (88, .invokevirtual 89), (91, .invokevirtual 100), (94, .goto 30), (97, .aload_n 0), (98, .invokevirtual 104), (101, .goto 23), (104, .aload_n 0), (105, .dup), (106, .getfield 59), (109, .iconst 1), (110, .iadd), (111, .putfield 59), (114, .goto 10), (117, .aload_n 0), (118, .invokevirtual 107), (121, .goto 3), (124, .aload_n 0), (125, .aload_n 0), (126, .getfield 62), (129, .aload_n 0), (130, .getfield 12), (133, .invokevirtual 110), (136, .invokestatic 113), (139, .putfield 62), (142, .iinc 2 1), (145, .goto (-140)), (148, .aload_n 0), (149, .aload_n 1), (150, .invokevirtual 80), (153, .putfield 65), (156, .aload_n 0), (157, .areturn)]
def zi_58 : List (Nat × Instr) := [(0, .aload_n 0), (1, .getfield 21), (4, .ireturn)]
def zi_59 : List (Nat × Instr) := [(0, .aload_n 0), (1, .iload_n 1), (2, .invokevirtual 25), (5, .ifCond .eq 12), (8, .aload_n 0), (9, .getfield 9), (12, .iload_n 1), (13, .iaload), (14, .goto 4), (17, .iconst (-1)), (18, .ireturn)]
def zi_60 : List (Nat × Instr) := [(0, .iload_n 1), (1, .ifCond .lt 15), (4, .iload_n 1), (5, .aload_n 0), (6, .getfield 21), (9, .if_icmp .ge 7), (12, .iconst 1), (13, .goto 4), (16, .iconst 0), (17, .ireturn)]
def zi_61 : List (Nat × Instr) := [(0, .aload_n 0), (1, .iload_n 1), (2, .invokevirtual 25), (5, .ifCond .eq 12), (8, .aload_n 0), (9, .getfield 18), (12, .iload_n 1), (13, .iaload), (14, .goto 4), (17, .iconst (-1)), (18, .ireturn)]
def zi_62 : List (Nat × Instr) := [(0, .aload_n 0), (1, .getfield 56), (4, .bipush 80), (6, .if_icmp .lt 4), (9, .return_), (10, .aload_n 0), (11, .getfield 56), (14, .istore_n 2), (15, .aload_n 0), (16, .getfield 36), (19, .iload_n 2), (20, .aload_n 0), (21, .getfield 59), (24, .iastore), (25, .aload_n 0), (26, .dup), (27, .getfield 56), (30, .iconst 1), (31, .iadd), (32, .putfield 56), (35, .aload_n 0), (36, .iload_n 2), (37, .iload_n 1), (38, .aload_n 0), (39, .iload_n 1), (40, .invokevirtual 124), (43, .invokevirtual 162), (46, .pop), (47, .return_)]
def zi_63 : List (Nat × Instr) := [(0, .aload_n 0), (1, .iload_n 3), (2, .invokevirtual 127), (5, .istore 4), (7, .aload_n 0), (8, .iconst 0), (9, .aload_n 0), (10, .getfield 166), (13, .invokevirtual 169), (16, .iload 4), (18, .ifCond .ge 11), (21, .aload_n 0), (22, .iconst 4), (23, .iconst 1), (24, .invokevirtual 169), (27, .iconst 0), (28, .ireturn), (29, .aload_n 0), (30, .getfield 21), (33, .iload 4), (35, .invokevirtual 130), (38, .istore 5), (40, .aload_n 0), (41, .iconst 1), (42, .aload_n 0), (43, .aload_n 0), (44, .getfield 21), (47, .iload 4), (49, .invokevirtual 46), (52, .iload_n 3), (53, .invokevirtual 49), (56, .invokevirtual 169), (59, .aload_n 0), (60, .getfield 12), (63, .iload_n 1), (64, .iload 5), (66, .iload_n 2), (67, .iload_n 3), (68, .invokevirtual 144), (71, .aload_n 0), (72, .invokevirtual 77), (75, .aload_n 0), (76, .getfield 39), (79, .iconst 1), (80, .if_icmp .ne 11), (83, .aload_n 0), (84, .iload 5), (86, .iload_n 3), (87, .iadd), (88, .invokevirtual 172), (91, .iconst 1), (92, .ireturn)]
def zi_64 : List (Nat × Instr) := [(0, .iload_n 1), (1, .ifCond .lt 18), (4, .iload_n 1), (5, .iconst 5), (6, .if_icmp .ge 13), (9, .aload_n 0), (10, .getfield 32), (13, .iload_n 1), (14, .dup2), (15, .iaload), (16, .iload_n 2), (17, .iadd), (18, .iastore), (19, .return_)]
def zi_65 : List (Nat × Instr) := [(0, .iconst 0), (1, .istore_n 3), (2, .iload_n 1), (3, .iconst 2), (4, .idiv), (5, .istore 4), (7, .iload 4), (9, .ifCond .le 21), (12, .iload 4), (14, .iload_n 2), (15, .if_icmp .lt 15), (18, .iinc 3 1), (21, .iload 4), (23, .iconst 2), (24, .idiv), (25, .istore 4), (27, .goto (-20)), (30, .iload_n 3), (31, .ireturn)]
def zi_66 : List (Nat × Instr) := [(0, .iload_n 1), (1, .iload_n 2), (2, .if_icmp .le 7), (5, .iconst 1), (6, .goto 4), (9, .iconst 0), (10, .ireturn)]
def zi_67 : List (Nat × Instr) := [(0, .iload_n 2), (1, .sipush 128), (4, .if_icmp .ge 14), (7, .iload_n 1), (8, .sipush 128), (11, .if_icmp .lt 7), (14, .iconst 1), (15, .goto 4), (18, .iconst 0), (19, .ireturn)]
def zi_68 : List (Nat × Instr) := [(0, .iload_n 1), (1, .ifCond .lt 32), (4, .iload_n 1), (5, .aload_n 0), (6, .getfield 18), (9, .arraylength), (10, .if_icmp .ge 23), (13, .aload_n 0), (14, .iload_n 1), (15, .invokevirtual 37), (18, .ifCond .ne 15), (21, .aload_n 0), (22, .getfield 30), (25, .aload_n 0), (26, .getfield 21), (29, .arraylength), (30, .if_icmp .lt 4), (33, .return_), (34, .aload_n 0), (35, .getfield 30), (38, .istore 5), (40, .iload 5), (42, .ifCond .le 42), (45, .aload_n 0), (46, .aload_n 0), (47, .getfield 21), (50, .iload 5), (52, .iconst 1), (53, .isub), (54, .iaload), (55, .invokevirtual 45), (58, .iload_n 2), (59, .if_icmp .le 25), (62, .aload_n 0), (63, .getfield 21), (66, .iload 5), (68, .aload_n 0), (69, .getfield 21), (72, .iload 5), (74, .iconst 1), (75, .isub), (76, .iaload), (77, .iastore), (78, .iinc 5 (-1)), (81, .goto (-41)), (84, .aload_n 0), (85, .getfield 21), (88, .iload 5), (90, .iload_n 1), (91, .iastore), (92, .aload_n 0), (93, .dup), (94, .getfield 30), (97, .iconst 1), (98, .iadd), (99, .putfield 30), (102, .aload_n 0), (103, .getfield 9), (106, .iload_n 1), (107, .iload_n 2), (108, .iastore), (109, .aload_n 0), (110, .getfield 15), (113, .iload_n 1), (114, .iload_n 3), (115, .iastore), (116, .aload_n 0), (117, .getfield 18), (120, .iload_n 1), (121, .iload 4), (123, .iastore), (124, .aload_n 0), (125, .dup), (126, .getfield 34), (129, .iload 4), (131, .iadd), (132, .putfield 34), (135, .return_)]
def zi_69 : List (Nat × Instr) := [(0, .aload_n 0), (1, .invokevirtual 148), (4, .aload_n 0), (5, .getfield 21), (8, .invokevirtual 151), (11, .iconst 0), (12, .istore_n 1), (13, .iconst 0), (14, .istore_n 2), (15, .iload_n 2), (16, .aload_n 0), (17, .getfield 12), (20, .invokevirtual 152), (23, .if_icmp .ge 40), (26, .aload_n 0), (27, .getfield 12), (30, .iload_n 2), (31, .invokevirtual 153), (34, .istore_n 3), (35, .aload_n 0), (36, .iload_n 1), (37, .aload_n 0), (38, .getfield 12), (41, .iload_n 3), (42, .invokevirtual 136), (45, .invokevirtual 156), (48, .aload_n 0), (49, .getfield 12), (52, .iload_n 3), (53, .invokevirtual 159), (56, .istore_n 1), (57, .iinc 2 1), (60, .goto (-45)), (63, .aload_n 0), (64, .iload_n 1), (65, .sipush 1024), (68, .invokevirtual 156), (71, .return_)]
def zi_70 : List (Nat × Instr) := [(0, .aload_n 0), (1, .getfield 9), (4, .iconst 0), (5, .invokestatic 57), (8, .iconst 0), (9, .istore_n 1), (10, .iload_n 1), (11, .aload_n 0), (12, .getfield 63), (15, .invokevirtual 67), (18, .if_icmp .ge 105), (21, .aload_n 0), (22, .getfield 63), (25, .iload_n 1), (26, .invokevirtual 73), (29, .istore_n 2), (30, .aload_n 0), (31, .getfield 63), (34, .iload_n 2), (35, .invokevirtual 76), (38, .sipush 128), (41, .if_icmp .gt 14), (44, .aload_n 0), (45, .getfield 63), (48, .iload_n 2), (49, .invokevirtual 76), (52, .goto 4), (55, .iconst (-1)), (56, .istore_n 3), (57, .aload_n 0), (58, .getfield 63), (61, .iload_n 2), (62, .invokevirtual 79), (65, .sipush 128), (68, .idiv), (69, .iconst 0), (70, .invokestatic 42), (73, .istore 4), (75, .iload 4), (77, .istore 5), (79, .iload 5), (81, .bipush 8), (83, .if_icmp .ge 34), (86, .iload 5), (88, .sipush 128), (91, .imul), (92, .aload_n 0), (93, .getfield 63), (96, .iload_n 2), (97, .invokevirtual 80), (100, .if_icmp .ge 17), (103, .aload_n 0), (104, .getfield 9), (107, .iload 5), (109, .iload_n 3), (110, .iastore), (111, .iinc 5 1), (114, .goto (-35)), (117, .iinc 1 1), (120, .goto (-110)), (123, .return_)]
def zi_71 : List (Nat × Instr) := [(0, .iconst 0), (1, .istore_n 2), (2, .aload_n 0), (3, .arraylength), (4, .istore_n 3), (5, .iload_n 2), (6, .iload_n 3), (7, .if_icmp .ge 13), (10, .aload_n 0), (11, .iload_n 2), (12, .iload_n 1), (13, .iastore), (14, .iinc 2 1), (17, .goto (-12)), (20, .return_)]
def zi_72 : List (Nat × Instr) := [(0, .iload_n 1), (1, .ifCond .lt 20), (4, .iload_n 1), (5, .aload_n 0), (6, .getfield 30), (9, .if_icmp .ge 12), (12, .aload_n 0), (13, .getfield 21), (16, .iload_n 1), (17, .iaload), (18, .goto 4), (21, .iconst (-1)), (22, .ireturn)]
def zi_73 : List (Nat × Instr) := [(0, .return_)]
def zi_74 : List (Nat × Instr) := [(0, .aload_n 0), (1, .iconst 0), (2, .putfield 18), (5, .return_)]
def zi_75 : List (Nat × Instr) := [(0, .iload_n 1), (1, .istore_n 3), (2, .iconst 0), (3, .istore 4), (5, .iload 4), (7, .sipush 128), (10, .if_icmp .ge 36), (13, .iload_n 3), (14, .iload_n 2), (15, .if_icmp .ge 31), (18, .iload_n 3), (19, .iload_n 2), (20, .invokestatic 32), (23, .istore 5), (25, .aload_n 0), (26, .getfield 15), (29, .iload_n 3), (30, .iload 5), (32, .invokevirtual 36), (35, .iload_n 3), (36, .iload 5), (38, .iadd), (39, .istore_n 3), (40, .iinc 4 1), (43, .goto (-38)), (46, .return_)]
def zi_76 : List (Nat × Instr) := [(0, .sipush 1024), (3, .istore_n 2), (4, .iload_n 2), (5, .bipush 8), (7, .if_icmp .le 25), (10, .iload_n 0), (11, .iload_n 2), (12, .irem), (13, .ifCond .ne 12), (16, .iload_n 2), (17, .iload_n 1), (18, .iload_n 0), (19, .isub), (20, .if_icmp .gt 5), (23, .iload_n 2), (24, .ireturn), (25, .iload_n 2), (26, .iconst 2), (27, .idiv), (28, .istore_n 2), (29, .goto (-25)), (32, .bipush 8), (34, .ireturn)]
def zi_77 : List (Nat × Instr) := [(0, .aload_n 0), (1, .getfield 18), (4, .sipush 128), (7, .if_icmp .ge 33), (10, .aload_n 0), (11, .getfield 9), (14, .aload_n 0), (15, .getfield 18), (18, .iload_n 1), (19, .iastore), (20, .aload_n 0), (21, .getfield 15), (24, .aload_n 0), (25, .getfield 18), (28, .iload_n 2), (29, .iastore), (30, .aload_n 0), (31, .dup), (32, .getfield 18), (35, .iconst 1), (36, .iadd), (37, .putfield 18), (40, .return_)]
def zi_78 : List (Nat × Instr) := [(0, .iload_n 1), (1, .iload_n 2), (2, .if_icmp .ge 14), (5, .aload_n 0), (6, .getfield 22), (9, .iload_n 1), (10, .iload_n 2), (11, .iload_n 1), (12, .isub), (13, .invokevirtual 59), (16, .return_)]
def zi_79 : List (Nat × Instr) := [(0, .iload_n 1), (1, .istore_n 3), (2, .iconst 0), (3, .istore 4), (5, .iload 4), (7, .sipush 128), (10, .if_icmp .ge 78), (13, .iload_n 3), (14, .iload_n 2), (15, .if_icmp .ge 73), (18, .iload_n 3), (19, .sipush 128), (22, .irem), (23, .ifCond .ne 28), (26, .iload_n 2), (27, .iload_n 3), (28, .isub), (29, .sipush 128), (32, .if_icmp .lt 19), (35, .iload_n 2), (36, .iload_n 3), (37, .isub), (38, .sipush 128), (41, .idiv), (42, .sipush 128), (45, .imul), (46, .istore 5), (48, .goto 19), (51, .aload_n 0), (52, .iload_n 3), (53, .sipush 128), (56, .idiv), (57, .invokevirtual 50), (60, .bipush 8), (62, .invokestatic 42), (65, .istore 5), (67, .aload_n 0), (68, .getfield 23), (71, .iload_n 3), (72, .iload 5), (74, .invokevirtual 53), (77, .iload_n 3), (78, .iload 5), (80, .iadd), (81, .istore_n 3), (82, .iinc 4 1), (85, .goto (-80)), (88, .return_)]
def zi_80 : List (Nat × Instr) := [(0, .iload_n 1), (1, .ifCond .lt 18), (4, .iload_n 1), (5, .bipush 8), (7, .if_icmp .ge 12), (10, .aload_n 0), (11, .getfield 9), (14, .iload_n 1), (15, .iaload), (16, .goto 4), (19, .iconst (-1)), (20, .ireturn)]
def zi_81 : List (Nat × Instr) := [(0, .aload_n 0), (1, .iload_n 1), (2, .sipush 1024), (5, .if_icmp .ge 7), (8, .iload_n 1), (9, .goto 4), (12, .iconst 0), (13, .putfield 53), (16, .return_)]
def zi_82 : List (Nat × Instr) := [(0, .aload_n 0), (1, .iload_n 1), (2, .invokevirtual 25), (5, .ifCond .eq 12), (8, .aload_n 0), (9, .getfield 15), (12, .iload_n 1), (13, .iaload), (14, .goto 4), (17, .iconst (-1)), (18, .ireturn)]
def zi_83 : List (Nat × Instr) := [(0, .aload_n 0), (1, .getfield 12), (4, .iload_n 1), (5, .invokevirtual 175), (8, .ifCond .ne 4), (11, .return_), (12, .aload_n 0), (13, .getfield 12), (16, .iload_n 1), (17, .invokevirtual 136), (20, .istore_n 2), (21, .aload_n 0), (22, .getfield 12), (25, .iload_n 1), (26, .invokevirtual 138), (29, .istore_n 3), (30, .aload_n 0), (31, .getfield 12), (34, .iload_n 1), (35, .invokevirtual 141), (38, .aload_n 0), (39, .invokevirtual 77), (42, .aload_n 0), (43, .iconst 2), (44, .aload_n 0), (45, .iload_n 2), (46, .iload_n 3), (47, .invokevirtual 179), (50, .invokevirtual 169), (53, .return_)]
def zi_84 : List (Nat × Instr) := [(0, .aload_n 0), (1, .iload_n 1), (2, .invokevirtual 37), (5, .ifCond .ne 4), (8, .return_), (9, .aload_n 0), (10, .iload_n 1), (11, .invokevirtual 51), (14, .istore_n 2), (15, .iload_n 2), (16, .aload_n 0), (17, .getfield 30), (20, .iconst 1), (21, .isub), (22, .if_icmp .ge 23), (25, .aload_n 0), (26, .getfield 21), (29, .iload_n 2), (30, .aload_n 0), (31, .getfield 21), (34, .iload_n 2), (35, .iconst 1), (36, .iadd), (37, .iaload), (38, .iastore), (39, .iinc 2 1), (42, .goto (-27)), (45, .aload_n 0), (46, .dup), (47, .getfield 30), (50, .iconst 1), (51, .isub), (52, .putfield 30), (55, .aload_n 0), (56, .dup), (57, .getfield 34), (60, .aload_n 0), (61, .getfield 18), (64, .iload_n 1), (65, .iaload), (66, .isub), (67, .putfield 34), (70, .aload_n 0), (71, .getfield 18), (74, .iload_n 1), (75, .iconst 0), (76, .iastore), (77, .return_)]
def zi_85 : List (Nat × Instr) := [(0, .iconst 0), (1, .istore_n 2), (2, .iload_n 2), (3, .aload_n 0), (4, .getfield 30), (7, .iconst 1), (8, .isub), (9, .if_icmp .ge 21), (12, .aload_n 0), (13, .getfield 21), (16, .iload_n 2), (17, .iaload), (18, .iload_n 1), (19, .if_icmp .ne 5), (22, .iload_n 2), (23, .ireturn), (24, .iinc 2 1), (27, .goto (-25)), (30, .aload_n 0), (31, .getfield 30), (34, .ifCond .le 12), (37, .aload_n 0), (38, .getfield 30), (41, .iconst 1), (42, .isub), (43, .goto 4), (46, .iconst 0), (47, .ireturn)]
def zi_86 : List (Nat × Instr) := [(0, .aload_n 0), (1, .getfield 22), (4, .iload_n 1), (5, .invokevirtual 44), (8, .istore_n 3), (9, .iconst 0), (10, .istore 4), (12, .aload_n 0), (13, .getfield 22), (16, .iload_n 3), (17, .invokevirtual 63), (20, .iload_n 1), (21, .if_icmp .ge 6), (24, .iinc 4 1), (27, .aload_n 0), (28, .getfield 22), (31, .iload_n 3), (32, .invokevirtual 63), (35, .aload_n 0), (36, .getfield 22), (39, .iload_n 3), (40, .invokevirtual 66), (43, .iadd), (44, .iload_n 1), (45, .iload_n 2), (46, .iadd), (47, .if_icmp .le 6), (50, .iinc 4 1), (53, .iload 4), (55, .ireturn)]
def zi_87 : List (Nat × Instr) := [(0, .aload_n 0), (1, .aload_n 0), (2, .getfield 21), (5, .aload_n 0), (6, .getfield 21), (9, .iload_n 1), (10, .invokevirtual 42), (13, .invokevirtual 46), (16, .iload_n 2), (17, .invokevirtual 49), (20, .ireturn)]
def zi_88 : List (Nat × Instr) := [(0, .aload_n 0), (1, .getfield 12), (4, .iload_n 1), (5, .invokevirtual 175), (8, .ifCond .ne 4), (11, .return_), (12, .aload_n 0), (13, .iload_n 2), (14, .invokevirtual 124), (17, .istore_n 3), (18, .iload_n 3), (19, .aload_n 0), (20, .getfield 12), (23, .iload_n 1), (24, .invokevirtual 138), (27, .if_icmp .eq 12), (30, .aload_n 0), (31, .iload_n 1), (32, .iload_n 3), (33, .invokevirtual 182), (36, .ifCond .eq 13), (39, .aload_n 0), (40, .getfield 12), (43, .iload_n 1), (44, .iload_n 2), (45, .invokevirtual 186), (48, .return_), (49, .iload_n 2), (50, .aload_n 0), (51, .getfield 12), (54, .iload_n 1), (55, .invokevirtual 137), (58, .invokestatic 189), (61, .istore 4), (63, .aload_n 0), (64, .bipush 80), (66, .iload_n 2), (67, .iload_n 3), (68, .invokevirtual 162), (71, .ifCond .eq 25), (74, .aload_n 0), (75, .iload_n 1), (76, .invokevirtual 97), (79, .aload_n 0), (80, .getfield 12), (83, .bipush 80), (85, .iload_n 1), (86, .invokevirtual 192), (89, .aload_n 0), (90, .iconst 3), (91, .iload 4), (93, .invokevirtual 169), (96, .return_)]
def zi_89 : List (Nat × Instr) := [(0, .aload_n 0), (1, .getfield 69), (4, .iload_n 1), (5, .invokevirtual 73), (8, .istore_n 3), (9, .iload_n 2), (10, .aload_n 0), (11, .getfield 69), (14, .iload_n 1), (15, .invokevirtual 78), (18, .isub), (19, .istore 4), (21, .iload 4), (23, .ifCond .ge 34), (26, .aload_n 0), (27, .getfield 69), (30, .iload_n 1), (31, .iload_n 2), (32, .invokevirtual 81), (35, .aload_n 0), (36, .invokevirtual 84), (39, .aload_n 0), (40, .iconst 2), (41, .aload_n 0), (42, .iload_n 3), (43, .iload 4), (45, .iadd), (46, .iload 4), (48, .ineg), (49, .invokevirtual 88), (52, .invokevirtual 91), (55, .iconst 1), (56, .ireturn), (57, .aload_n 0), (58, .getfield 22), (61, .iload_n 3), (62, .invokevirtual 44), (65, .istore 5), (67, .aload_n 0), (68, .getfield 22), (71, .iload 5), (73, .invokevirtual 63), (76, .iload_n 3), (77, .if_icmp .ne 17), (80, .aload_n 0), (81, .getfield 22), (84, .iload 5), (86, .invokevirtual 66), (89, .iload 4), (91, .if_icmp .ge 5), (94, .iconst 0), (95, .ireturn), (96, .aload_n 0), (97, .iconst 1), (98, .aload_n 0), (99, .aload_n 0), (100, .getfield 22), (103, .iload 5), (105, .invokevirtual 66), (108, .iload 4), (110, .invokevirtual 94), (113, .invokevirtual 91), (116, .aload_n 0), (117, .getfield 69), (120, .iload_n 1), (121, .iload_n 2), (122, .invokevirtual 81), (125, .aload_n 0), (126, .invokevirtual 84), (129, .iconst 1), (130, .ireturn)]
def zi_90 : List (Nat × Instr) := [(0, .aload_n 0), (1, .iload_n 1), (2, .invokevirtual 37), (5, .ifCond .eq 27), (8, .aload_n 0), (9, .dup), (10, .getfield 34), (13, .iload_n 2), (14, .aload_n 0), (15, .getfield 18), (18, .iload_n 1), (19, .iaload), (20, .isub), (21, .iadd), (22, .putfield 34), (25, .aload_n 0), (26, .getfield 18), (29, .iload_n 1), (30, .iload_n 2), (31, .iastore), (32, .return_)]
def zi_91 : List (Nat × Instr) := [(0, .iconst 0), (1, .ireturn)]
def zi_92 : List (Nat × Instr) := [(0, .aload_n 0), (1, .iload_n 1), (2, .invokevirtual 37), (5, .ifCond .eq 10), (8, .aload_n 0), (9, .getfield 15), (12, .iload_n 1), (13, .iload_n 2), (14, .iastore), (15, .return_)]
def zi_93 : List (Nat × Instr) := [(0, .aload_n 0), (1, .iload_n 1), (2, .invokevirtual 37), (5, .ifCond .eq 24), (8, .aload_n 0), (9, .iload_n 2), (10, .invokevirtual 37), (13, .ifCond .ne 16), (16, .iload_n 2), (17, .ifCond .lt 12), (20, .iload_n 2), (21, .aload_n 0), (22, .getfield 18), (25, .arraylength), (26, .if_icmp .lt 4), (29, .return_), (30, .aload_n 0), (31, .getfield 21), (34, .aload_n 0), (35, .iload_n 1), (36, .invokevirtual 51), (39, .iload_n 2), (40, .iastore), (41, .aload_n 0), (42, .getfield 9), (45, .iload_n 2), (46, .aload_n 0), (47, .getfield 9), (50, .iload_n 1), (51, .iaload), (52, .iastore), (53, .aload_n 0), (54, .getfield 15), (57, .iload_n 2), (58, .aload_n 0), (59, .getfield 15), (62, .iload_n 1), (63, .iaload), (64, .iastore), (65, .aload_n 0), (66, .getfield 18), (69, .iload_n 2), (70, .aload_n 0), (71, .getfield 18), (74, .iload_n 1), (75, .iaload), (76, .iastore), (77, .aload_n 0), (78, .getfield 18), (81, .iload_n 1), (82, .iconst 0), (83, .iastore), (84, .return_)]
def zi_94 : List (Nat × Instr) := [(0, .iconst 0), (1, .istore_n 1), (2, .iconst 0), (3, .istore_n 2), (4, .iload_n 2), (5, .aload_n 0), (6, .getfield 69), (9, .invokevirtual 97), (12, .if_icmp .ge 63), (15, .aload_n 0), (16, .getfield 69), (19, .iload_n 2), (20, .invokevirtual 98), (23, .istore_n 3), (24, .aload_n 0), (25, .getfield 69), (28, .iload_n 3), (29, .invokevirtual 101), (32, .iload_n 1), (33, .if_icmp .eq 25), (36, .aload_n 0), (37, .getfield 69), (40, .iload_n 3), (41, .iload_n 1), (42, .invokevirtual 102), (45, .aload_n 0), (46, .iconst 3), (47, .aload_n 0), (48, .getfield 69), (51, .iload_n 3), (52, .invokevirtual 78), (55, .invokevirtual 91), (58, .iload_n 1), (59, .aload_n 0), (60, .getfield 69), (63, .iload_n 3), (64, .invokevirtual 78), (67, .iadd), (68, .istore_n 1), (69, .iinc 2 1), (72, .goto (-68)), (75, .aload_n 0), (76, .iload_n 1), (77, .invokevirtual 105), (80, .aload_n 0), (81, .invokevirtual 84), (84, .return_)]
def zi_95 : List (Nat × Instr) := [(0, .aload_n 0), (1, .iload_n 1), (2, .invokevirtual 37), (5, .ifCond .eq 10), (8, .aload_n 0), (9, .getfield 9), (12, .iload_n 1), (13, .iload_n 2), (14, .iastore), (15, .return_)]
def zi_96 : List (Nat × Instr) := [(0, .return_)]
def zi_97 : List (Nat × Instr) := [(0, .aload_n 0), (1, .getfield 56), (4, .iconst 1), (5, .isub), (6, .istore_n 1), (7, .iload_n 1), (8, .ifCond .lt 27), (11, .aload_n 0), (12, .getfield 36), (15, .iload_n 1), (16, .iaload), (17, .aload_n 0), (18, .getfield 59), (21, .if_icmp .ne 8), (24, .aload_n 0), (25, .iload_n 1), (26, .invokevirtual 97), (29, .iinc 1 (-1)), (32, .goto (-25)), (35, .aload_n 0), (36, .dup), (37, .getfield 59), (40, .iconst 1), (41, .isub), (42, .putfield 59), (45, .return_)]
def zi_98 : List (Nat × Instr) := [(0, .iconst 0), (1, .istore_n 1), (2, .iconst 1), (3, .istore_n 2), (4, .iload_n 2), (5, .bipush 6), (7, .if_icmp .ge 41), (10, .aload_n 0), (11, .iload_n 2), (12, .invokevirtual 70), (15, .aload_n 0), (16, .getfield 12), (19, .invokevirtual 103), (22, .aload_n 0), (23, .iload_n 1), (24, .invokevirtual 70), (27, .aload_n 0), (28, .getfield 12), (31, .invokevirtual 103), (34, .invokestatic 197), (37, .ifCond .eq 5), (40, .iload_n 2), (41, .istore_n 1), (42, .iinc 2 1), (45, .goto (-41)), (48, .iload_n 1), (49, .ireturn)]
def zi_99 : List (Nat × Instr) := [(0, .aload_n 0), (1, .iconst 4), (2, .invokevirtual 128), (5, .aload_n 1), (6, .iconst 4), (7, .invokevirtual 128), (10, .if_icmp .eq 22), (13, .aload_n 0), (14, .iconst 4), (15, .invokevirtual 128), (18, .aload_n 1), (19, .iconst 4), (20, .invokevirtual 128), (23, .if_icmp .ge 7), (26, .iconst 1), (27, .goto 4), (30, .iconst 0), (31, .ireturn), (32, .aload_n 0), (33, .iconst 5), (34, .invokevirtual 128), (37, .aload_n 1), (38, .iconst 5), (39, .invokevirtual 128), (42, .if_icmp .ge 7), (45, .iconst 1), (46, .goto 4), (49, .iconst 0), (50, .ireturn)]
def zi_100 : List (Nat × Instr) := [(0, .aload_n 0), (1, .invokevirtual 83), (4, .astore_n 1), (5, .ldc2_w 204), (8, .lstore_n 2), (9, .lload_n 2), (10, .ldc2_w 206), (13, .lmul), (14, .aload_n 0), (15, .getfield 48), (18, .i2l), (19, .ladd), (20, .lstore_n 2), (21, .lload_n 2), (22, .ldc2_w 206), (25, .lmul), (26, .aload_n 1), (27, .invokevirtual 87), (30, .i2l), (31, .ladd), (32, .lstore_n 2), (33, .lload_n 2), (34, .ldc2_w 206), (37, .lmul), (38, .aload_n 0), (39, .getfield 12), (42, .invokevirtual 141), (45, .i2l), (46, .ladd), (47, .lstore_n 2), (48, .lload_n 2), (49, .ldc2_w 206), (52, .lmul), (53, .aload_n 1), (54, .invokevirtual 131), (57, .i2l), (58, .ladd), (59, .lstore_n 2), (60, .lload_n 2), (61, .ldc2_w 206), (64, .lmul), (65, .aload_n 1), (66, .invokevirtual 113), (69, .invokevirtual 138), (72, .i2l), (73, .ladd), (74, .lstore_n 2), (75, .lload_n 2), (76, .ldc2_w 206), (79, .lmul), (80, .aload_n 0), (81, .invokevirtual 208), (84, .i2l), (85, .ladd), (86, .lstore_n 2), (87, .lload_n 2), (88, .ldc2_w 206), (91, .lmul), (92, .aload_n 0), (93, .invokevirtual 211), (96, .i2l), (97, .ladd), (98, .lstore_n 2), (99, .lload_n 2), (100, .ldc2_w 206), (103, .lmul), (104, .aload_n 0), (105, .invokevirtual 214), (108, .i2l), (109, .ladd), (110, .lstore_n 2), (111, .lload_n 2), (112, .ldc2_w 206), (115, .lmul), (116, .aload_n 0), (117, .invokevirtual 217), (120, .i2l), (121, .ladd), (122, .lstore_n 2), (123, .lload_n 2), (124, .ldc2_w 206), (127, .lmul), (128, .aload_n 1), (129, .invokevirtual 175), (132, .i2l), (133, .ladd), (134, .lstore_n 2), (135, .iconst 0), (136, .istore 4), (138, .iload 4), (140, .iconst 4), (141, .if_icmp .gt 23), (144, .lload_n 2), (145, .ldc2_w 206), (148, .lmul), (149, .aload_n 1), (150, .iload 4), (152, .invokevirtual 128), (155, .i2l), (156, .ladd), (157, .lstore_n 2), (158, .iinc 4 1), (161, .goto (-23)), (164, .lload_n 2), (165, .aload_n 1), (166, .invokestatic 220), (169, .lstore_n 2), (170, .lload_n 2), (171, .ldc2_w 206), (174, .lmul), (175, .aload_n 1), (176, .iconst 1), (177, .invokevirtual 189), (180, .i2l), (181, .ladd), (182, .lstore_n 2), (183, .lload_n 2), (184, .ldc2_w 206), (187, .lmul), (188, .aload_n 1), (189, .bipush 30), (191, .invokevirtual 189), (194, .i2l), (195, .ladd), (196, .lstore_n 2), (197, .lload_n 2), (198, .ldc2_w 206), (201, .lmul), (202, .aload_n 1), (203, .bipush 120), (205, .invokevirtual 189), (208, .i2l), (209, .ladd), (210, .lstore_n 2), (211, .iconst 0), (212, .istore 4), (214, .iload 4), (216, .bipush 6), (218, .if_icmp .ge 52), (221, .aload_n 0), (222, .iload 4), (224, .invokevirtual 70), (227, .aload_n 0), (228, .getfield 12), (231, .invokevirtual 103), (234, .astore 5), (236, .lload_n 2), (237, .ldc2_w 206), (240, .lmul), (241, .aload 5), (243, .iconst 4), (244, .invokevirtual 128), (247, .i2l), (248, .ladd), (249, .lstore_n 2), (250, .lload_n 2), (251, .ldc2_w 206), (254, .lmul), (255, .aload 5), (257, .iconst 5), (258, .invokevirtual 128), (261, .i2l), (262, .ladd), (263, .lstore_n 2), (264, .iinc 4 1), (267, .goto (-53)), (270, .lload_n 2), (271, .lreturn)]
def zi_101 : List (Nat × Instr) := [(0, .aload_n 0), (1, .getfield 59), (4, .ireturn)]
def zi_102 : List (Nat × Instr) := [(0, .aload_n 0), (1, .getfield 53), (4, .ireturn)]
def zi_103 : List (Nat × Instr) := [(0, .lload_n 0), (1, .lstore_n 3), (2, .aload_n 2), (3, .invokevirtual 113), (6, .astore 5), (8, .iconst 0), (9, .istore 6), (11, .iload 6), (13, .aload_n 2), (14, .invokevirtual 87), (17, .if_icmp .ge 54), (20, .lload_n 3), (21, .ldc2_w 206), (24, .lmul), (25, .aload 5), (27, .iload 6), (29, .invokevirtual 123), (32, .i2l), (33, .ladd), (34, .lstore_n 3), (35, .lload_n 3), (36, .ldc2_w 206), (39, .lmul), (40, .aload 5), (42, .iload 6), (44, .invokevirtual 147), (47, .i2l), (48, .ladd), (49, .lstore_n 3), (50, .lload_n 3), (51, .ldc2_w 206), (54, .lmul), (55, .aload 5), (57, .iload 6), (59, .invokevirtual 117), (62, .i2l), (63, .ladd), (64, .lstore_n 3), (65, .iinc 6 1), (68, .goto (-57)), (71, .aload_n 2), (72, .invokevirtual 158), (75, .astore 6), (77, .lload_n 3), (78, .ldc2_w 206), (81, .lmul), (82, .aload 6), (84, .invokevirtual 162), (87, .i2l), (88, .ladd), (89, .lstore_n 3), (90, .iconst 0), (91, .istore 7), (93, .iload 7), (95, .aload 6), (97, .invokevirtual 162), (100, .if_icmp .ge 39), (103, .lload_n 3), (104, .ldc2_w 206), (107, .lmul), (108, .aload 6), (110, .iload 7), (112, .invokevirtual 168), (115, .i2l), (116, .ladd), (117, .lstore_n 3), (118, .lload_n 3), (119, .ldc2_w 206), (122, .lmul), (123, .aload 6), (125, .iload 7), (127, .invokevirtual 169), (130, .i2l), (131, .ladd), (132, .lstore_n 3), (133, .iinc 7 1), (136, .goto (-43)), (139, .iconst 0), (140, .istore 7), (142, .iload 7), (144, .bipush 8), (146, .if_icmp .ge 23), (149, .lload_n 3), (150, .ldc2_w 206), (153, .lmul), (154, .aload_n 2), (155, .iload 7), (157, .invokevirtual 172), (160, .i2l), (161, .ladd), (162, .lstore_n 3), (163, .iinc 7 1), (166, .goto (-24)), (169, .lload_n 3), (170, .lreturn)]
def zi_104 : List (Nat × Instr) := [(0, .iconst (-1)), (1, .ireturn)]
def zi_105 : List (Nat × Instr) := [(0, .aload_n 0), (1, .invokespecial 1), (4, .aload_n 0), (5, .new 7), (8, .dup), (9, .invokespecial 9), (12, .putfield 10), (15, .aload_n 0), (16, .iconst 4), (17, .putfield 16), (20, .aload_n 0), (21, .iconst 2), (22, .putfield 20), (25, .aload_n 0), (26, .sipush 1024), (29, .newarray .int), (31, .putfield 23), (34, .aload_n 0), (35, .bipush 81), (37, .newarray .int), (39, .putfield 27), (42, .aload_n 0), (43, .bipush 81), (45, .newarray .int), (47, .putfield 30), (50, .aload_n 0), (51, .bipush 81), (53, .newarray .int), (55, .putfield 33), (58, .aload_n 0), (59, .iconst 5), (60, .newarray .int), (62, .putfield 36), (65, .aload_n 0), (66, .iconst 0), (67, .newarray .int), (69, .putfield 39), (72, .aload_n 0), (73, .iconst 1), (74, .putfield 42), (77, .aload_n 0), (78, .aload_n 1), (79, .putfield 46), (82, .aload_n 0), (83, .iload_n 2), (84, .putfield 49), (87, .aload_n 0), (88, .invokevirtual 52), (91, .return_)]
def zi_106 : List (Nat × Instr) := [(0, .aload_n 0), (1, .invokespecial 3), (4, .aload_n 0), (5, .new 9), (8, .dup), (9, .invokespecial 11), (12, .putfield 12), (15, .aload_n 0), (16, .new 16), (19, .dup), (20, .iconst 0), (21, .invokespecial 18), (24, .putfield 21), (27, .aload_n 0), (28, .new 16), (31, .dup), (32, .iconst 1), (33, .invokespecial 18), (36, .putfield 25), (39, .aload_n 0), (40, .new 16), (43, .dup), (44, .iconst 2), (45, .invokespecial 18), (48, .putfield 28), (51, .aload_n 0), (52, .new 16), (55, .dup), (56, .iconst 3), (57, .invokespecial 18), (60, .putfield 31), (63, .aload_n 0), (64, .new 34), (67, .dup), (68, .invokespecial 36), (71, .putfield 37), (74, .aload_n 0), (75, .new 41), (78, .dup), (79, .invokespecial 43), (82, .putfield 44), (85, .aload_n 0), (86, .iconst 0), (87, .putfield 48), (90, .return_)]
def zi_107 : List (Nat × Instr) := [(0, .aload_n 0), (1, .invokespecial 3), (4, .aload_n 0), (5, .sipush 150), (8, .newarray .int), (10, .putfield 9), (13, .aload_n 0), (14, .sipush 150), (17, .newarray .int), (19, .putfield 15), (22, .aload_n 0), (23, .sipush 150), (26, .newarray .int), (28, .putfield 18), (31, .return_)]
def zi_108 : List (Nat × Instr) := [(0, .aload_n 0), (1, .iload_n 1), (2, .invokespecial 3), (5, .return_)]
def zi_109 : List (Nat × Instr) := [(0, .aload_n 0), (1, .invokespecial 3), (4, .aload_n 0), (5, .new 9), (8, .dup), (9, .invokespecial 11), (12, .putfield 12), (15, .aload_n 0), (16, .new 18), (19, .dup), (20, .invokespecial 20), (23, .putfield 21), (26, .aload_n 0), (27, .iconst 4), (28, .putfield 25), (31, .aload_n 0), (32, .iconst 2), (33, .putfield 29), (36, .aload_n 0), (37, .iconst 5), (38, .newarray .int), (40, .putfield 32), (43, .aload_n 0), (44, .bipush 80), (46, .newarray .int), (48, .putfield 36), (51, .aload_n 0), (52, .iload_n 1), (53, .putfield 39), (56, .return_)]
def zi_110 : List (Nat × Instr) := [(0, .aload_n 0), (1, .invokespecial 3), (4, .aload_n 0), (5, .bipush 81), (7, .newarray .int), (9, .putfield 9), (12, .aload_n 0), (13, .bipush 81), (15, .newarray .int), (17, .putfield 15), (20, .aload_n 0), (21, .bipush 81), (23, .newarray .int), (25, .putfield 18), (28, .aload_n 0), (29, .bipush 81), (31, .newarray .int), (33, .putfield 21), (36, .return_)]
def zi_111 : List (Nat × Instr) := [(0, .aload_n 0), (1, .invokespecial 3), (4, .aload_n 0), (5, .sipush 128), (8, .newarray .int), (10, .putfield 9), (13, .aload_n 0), (14, .sipush 128), (17, .newarray .int), (19, .putfield 15), (22, .aload_n 0), (23, .iconst 1), (24, .putfield 18), (27, .aload_n 0), (28, .getfield 15), (31, .iconst 0), (32, .sipush 1024), (35, .iastore), (36, .return_)]
def zi_112 : List (Nat × Instr) := [(0, .aload_n 0), (1, .iconst 4), (2, .invokespecial 3), (5, .return_)]
def zi_113 : List (Nat × Instr) := [(0, .aload_n 0), (1, .iconst 5), (2, .invokespecial 3), (5, .aload_n 0), (6, .bipush 8), (8, .newarray .int), (10, .putfield 9), (13, .return_)]
def zi_114 : List (Nat × Instr) := [(0, .iconst 0), (1, .istore_n 1), (2, .iload_n 1), (3, .sipush 1024), (6, .if_icmp .ge 16), (9, .aload_n 0), (10, .getfield 23), (13, .iload_n 1), (14, .iconst (-1)), (15, .iastore), (16, .iinc 1 1), (19, .goto (-17)), (22, .return_)]
def zi_115 : List (Nat × Instr) := [(0, .aload_n 0), (1, .getfield 46), (4, .aload_n 0), (5, .getfield 49), (8, .bipush 24), (10, .irem), (11, .invokestatic 55), (14, .aload_n 0), (15, .getfield 49), (18, .bipush 24), (20, .idiv), (21, .bipush 8), (23, .irem), (24, .ishr), (25, .bipush 97), (27, .aload_n 0), (28, .getfield 49), (31, .imul), (32, .iadd), (33, .iload_n 1), (34, .invokestatic 61), (37, .istore_n 2), (38, .aload_n 0), (39, .dup), (40, .getfield 49), (43, .iconst 1), (44, .iadd), (45, .putfield 49), (48, .iload_n 2), (49, .ireturn)]
def zi_116 : List (Nat × Instr) := [(0, .iload_n 1), (1, .aload_n 0), (2, .arraylength), (3, .if_icmp .ge 9), (6, .aload_n 0), (7, .iload_n 1), (8, .iaload), (9, .goto 9), (12, .ldc 8), (14, .iload_n 1), (15, .iconst 3), (16, .iadd), (17, .imul), (18, .ireturn)]
def zi_117 : List (Nat × Instr) := [(0, .iload_n 0), (1, .ldc 7), (3, .iand), (4, .iload_n 1), (5, .irem), (6, .ireturn)]
def zi_118 : List (Nat × Instr) := [(0, .aload_n 0), (1, .getfield 65), (4, .istore_n 2), (5, .aload_n 0), (6, .iload_n 1), (7, .putfield 65), (10, .aload_n 0), (11, .iconst 1), (12, .aload_n 0), (13, .iconst 4), (14, .invokevirtual 68), (17, .ishl), (18, .putfield 16), (21, .aload_n 0), (22, .aload_n 0), (23, .iconst 5), (24, .invokevirtual 68), (27, .putfield 20), (30, .aload_n 0), (31, .getfield 10), (34, .aload_n 0), (35, .getfield 65), (38, .aload_n 0), (39, .getfield 16), (42, .aload_n 0), (43, .getfield 20), (46, .invokevirtual 72), (49, .iload_n 2), (50, .if_icmp .ne 7), (53, .iconst 1), (54, .goto 4), (57, .iconst 0), (58, .ireturn)]
def zi_119 : List (Nat × Instr) := [(0, .iload_n 1), (1, .invokestatic 52), (4, .ifCond .ne 13), (7, .new 56), (10, .dup), (11, .ldc 58), (13, .invokespecial 60), (16, .athrow), (17, .iload_n 2), (18, .iconst 1), (19, .if_icmp .eq 29), (22, .iload_n 2), (23, .iconst 2), (24, .if_icmp .eq 24), (27, .iload_n 2), (28, .iconst 4), (29, .if_icmp .eq 19), (32, .iload_n 2), (33, .bipush 8), (35, .if_icmp .eq 13), (38, .new 56), (41, .dup), (42, .ldc 63), (44, .invokespecial 60), (47, .athrow), (48, .iload_n 3), (49, .ifCond .lt 9), (52, .iload_n 3), (53, .bipush 8), (55, .if_icmp .le 13), (58, .new 56), (61, .dup), (62, .ldc 65), (64, .invokespecial 60), (67, .athrow), (68, .aload_n 0), (69, .getfield 48), (72, .istore 4), (74, .aload_n 0), (75, .iload_n 1), (76, .putfield 48), (79, .aload_n 0), (80, .getfield 12), (83, .invokevirtual 67), (86, .iconst 0), (87, .istore 5), (89, .iload 5), (91, .bipush 6), (93, .if_icmp .ge 20), (96, .aload_n 0), (97, .iload 5), (99, .invokevirtual 70), (102, .iload_n 2), (103, .iload_n 3), (104, .invokevirtual 74), (107, .iinc 5 1), (110, .goto (-21)), (113, .iload 4), (115, .ireturn)]
def zi_120 : List (Nat × Instr) := [(0, .aload_n 0), (1, .iconst 0), (2, .putfield 21), (5, .return_)]
def zi_121 : List (Nat × Instr) := [(0, .aload_n 0), (1, .iload_n 1), (2, .putfield 25), (5, .aload_n 0), (6, .iload_n 2), (7, .putfield 29), (10, .aload_n 0), (11, .iconst 0), (12, .putfield 53), (15, .aload_n 0), (16, .iconst 0), (17, .putfield 56), (20, .aload_n 0), (21, .iconst 0), (22, .putfield 59), (25, .aload_n 0), (26, .iconst 0), (27, .putfield 62), (30, .aload_n 0), (31, .iconst 0), (32, .putfield 65), (35, .aload_n 0), (36, .getfield 32), (39, .iconst 0), (40, .invokestatic 68), (43, .aload_n 0), (44, .getfield 12), (47, .invokevirtual 74), (50, .aload_n 0), (51, .invokevirtual 77), (54, .return_)]
def zi_122 : List (Nat × Instr) := [(0, .aload_n 0), (1, .getfield 18), (4, .iconst 0), (5, .invokestatic 24), (8, .aload_n 0), (9, .iconst 0), (10, .putfield 30), (13, .aload_n 0), (14, .iconst 0), (15, .putfield 34), (18, .return_)]
def zi_123 : List (Nat × Instr) := [(0, .iload_n 1), (1, .aload_n 0), (2, .getfield 20), (5, .iadd), (6, .istore_n 2), (7, .aload_n 0), (8, .getfield 65), (11, .iconst 4), (12, .if_icmp .ge 10), (15, .aload_n 0), (16, .getfield 16), (19, .goto 26), (22, .aload_n 0), (23, .getfield 65), (26, .iconst 4), (27, .if_icmp .eq 10), (30, .iload_n 2), (31, .sipush 128), (34, .if_icmp .gt 8), (37, .bipush 8), (39, .goto 6), (42, .sipush 128), (45, .istore_n 3), (46, .iload_n 3), (47, .iload_n 2), (48, .if_icmp .ge 46), (51, .iload_n 3), (52, .aload_n 0), (53, .getfield 65), (56, .iconst 4), (57, .if_icmp .ge 10), (60, .aload_n 0), (61, .getfield 16), (64, .goto 25), (67, .aload_n 0), (68, .getfield 65), (71, .iconst 4), (72, .if_icmp .eq 10), (75, .iload_n 2), (76, .sipush 128), (79, .if_icmp .gt 7), (82, .iload_n 3), (83, .goto 6), (86, .sipush 128), (89, .iadd), (90, .istore_n 3), (91, .goto (-45)), (94, .iload_n 3), (95, .ireturn)]
def zi_124 : List (Nat × Instr) := [(0, .aload_n 0), (1, .dup), (2, .getfield 124), (5, .dup_x1), (6, .iconst 1), (7, .iadd), (8, .putfield 124), (11, .istore_n 2), (12, .aload_n 0), (13, .getfield 27), (16, .iload_n 2), (17, .iload_n 1), (18, .iastore), (19, .aload_n 0), (20, .getfield 30), (23, .iload_n 2), (24, .aload_n 0), (25, .iload_n 1), (26, .invokevirtual 127), (29, .iastore), (30, .aload_n 0), (31, .getfield 33), (34, .iload_n 2), (35, .aload_n 0), (36, .getfield 130), (39, .iastore), (40, .aload_n 0), (41, .aload_n 0), (42, .getfield 30), (45, .iload_n 2), (46, .iaload), (47, .invokevirtual 133), (50, .istore_n 3), (51, .iload_n 3), (52, .ifCond .ge 16), (55, .aload_n 0), (56, .getfield 36), (59, .iconst 4), (60, .dup2), (61, .iaload), (62, .iconst 1), (63, .iadd), (64, .iastore), (65, .goto 15), (68, .aload_n 0), (69, .iload_n 3), (70, .aload_n 0), (71, .getfield 30), (74, .iload_n 2), (75, .iaload), (76, .iload_n 2), (77, .invokevirtual 110), (80, .aload_n 0), (81, .iconst 0), (82, .iload_n 1), (83, .iconst 0), (84, .invokevirtual 136), (87, .aload_n 0), (88, .getfield 42), (91, .ifCond .eq 47), (94, .aload_n 0), (95, .getfield 10), (98, .iload_n 1), (99, .invokevirtual 139), (102, .iload_n 2), (103, .if_icmp .ne 39), (106, .aload_n 0), (107, .getfield 10), (110, .iload_n 2), (111, .invokevirtual 142), (114, .iload_n 3), (115, .ifCond .lt 7), (118, .iconst 1), (119, .goto 4), (122, .iconst 0), (123, .if_icmp .ne 19), (126, .aload_n 0), (127, .getfield 10), (130, .iload_n 2), (131, .invokevirtual 146), (134, .iload_n 3), (135, .if_icmp .ne 7), (138, .iconst 1), (139, .goto 4), (142, .iconst 0), (143, .ireturn)]
def zi_125 : List (Nat × Instr) := [(0, .aload_n 0), (1, .invokevirtual 100), (4, .astore_n 2), (5, .aload_n 0), (6, .getfield 65), (9, .iconst 5), (10, .if_icmp .ne 9), (13, .aload_n 0), (14, .iload_n 1), (15, .invokevirtual 104), (18, .ireturn), (19, .iconst 0), (20, .istore_n 3), (21, .aload_n 0), (22, .getfield 65), (25, .iconst 1), (26, .if_icmp .ne 31), (29, .iload_n 3), (30, .aload_n 2), (31, .arraylength), (32, .if_icmp .ge 25), (35, .aload_n 2), (36, .iload_n 3), (37, .iaload), (38, .aload_n 2), (39, .iload_n 3), (40, .iconst 1), (41, .iadd), (42, .iaload), (43, .iadd), (44, .aload_n 0), (45, .getfield 107), (48, .if_icmp .gt 9), (51, .iinc 3 2), (54, .goto (-33)), (57, .iconst (-1)), (58, .istore 4), (60, .iconst 0), (61, .istore 5), (63, .iload 5), (65, .aload_n 2), (66, .arraylength), (67, .if_icmp .ge 113), (70, .iload 4), (72, .ifCond .lt 11), (75, .aload_n 0), (76, .getfield 65), (79, .iconst 1), (80, .if_icmp .le 100), (83, .iload_n 3), (84, .iload 5), (86, .iadd), (87, .aload_n 2), (88, .arraylength), (89, .irem), (90, .istore 6), (92, .aload_n 0), (93, .getfield 36), (96, .iconst 0), (97, .dup2), (98, .iaload), (99, .iconst 1), (100, .iadd), (101, .iastore), (102, .iload 4), (104, .ifCond .lt 44), (107, .aload_n 0), (108, .getfield 65), (111, .iconst 3), (112, .if_icmp .ne 21), (115, .aload_n 2), (116, .iload 6), (118, .iconst 1), (119, .iadd), (120, .iaload), (121, .aload_n 2), (122, .iload 4), (124, .iconst 1), (125, .iadd), (126, .iaload), (127, .if_icmp .le 25), (130, .goto 18), (133, .aload_n 2), (134, .iload 6), (136, .iconst 1), (137, .iadd), (138, .iaload), (139, .aload_n 2), (140, .iload 4), (142, .iconst 1), (143, .iadd), (144, .iaload), (145, .if_icmp .ge 7), (148, .iconst 1), (149, .goto 4), (152, .iconst 0), (153, .istore 7), (155, .aload_n 2), (156, .iload 6), (158, .iconst 1), (159, .iadd), (160, .iaload), (161, .iload_n 1), (162, .if_icmp .lt 12), (165, .iload 7), (167, .ifCond .eq 7), (170, .iload 6), (172, .istore 4), (174, .iinc 5 2), (177, .goto (-114)), (180, .iload 4), (182, .ifCond .ge 5), (185, .iconst (-1)), (186, .ireturn), (187, .aload_n 2), (188, .iload 4), (190, .iconst 1), (191, .iadd), (192, .iaload), (193, .istore 5), (195, .aload_n 0), (196, .getfield 65), (199, .iconst 4), (200, .if_icmp .ge 19), (203, .iload 5), (205, .iload_n 1), (206, .if_icmp .le 13), (209, .aload_n 0), (210, .getfield 36), (213, .iconst 1), (214, .dup2), (215, .iaload), (216, .iconst 1), (217, .iadd), (218, .iastore), (219, .aload_n 0), (220, .getfield 65), (223, .iconst 4), (224, .if_icmp .ne 28), (227, .iload 5), (229, .iload_n 1), (230, .if_icmp .le 22), (233, .iload 5), (235, .iconst 2), (236, .idiv), (237, .istore 5), (239, .aload_n 0), (240, .getfield 36), (243, .iconst 1), (244, .dup2), (245, .iaload), (246, .iconst 1), (247, .iadd), (248, .iastore), (249, .goto (-30)), (252, .aload_n 0), (253, .getfield 65), (256, .iconst 1), (257, .if_icmp .ne 29), (260, .aload_n 0), (261, .aload_n 2), (262, .iload 4), (264, .iaload), (265, .iload_n 1), (266, .iadd), (267, .sipush 1024), (270, .if_icmp .ne 7), (273, .iconst 0), (274, .goto 9), (277, .aload_n 2), (278, .iload 4), (280, .iaload), (281, .iload_n 1), (282, .iadd), (283, .putfield 107), (286, .aload_n 2), (287, .iload 4), (289, .iaload), (290, .ireturn)]
def zi_126 : List (Nat × Instr) := [(0, .sipush 2048), (3, .newarray .int), (5, .astore_n 1), (6, .iconst 0), (7, .istore_n 2), (8, .iconst 0), (9, .istore_n 3), (10, .iload_n 3), (11, .sipush 1024), (14, .if_icmp .ge 42), (17, .aload_n 0), (18, .iload_n 3), (19, .invokevirtual 83), (22, .istore 4), (24, .iload 4), (26, .ifCond .le 18), (29, .aload_n 1), (30, .iload_n 2), (31, .iinc 2 1), (34, .iload_n 3), (35, .iastore), (36, .aload_n 1), (37, .iload_n 2), (38, .iinc 2 1), (41, .iload 4), (43, .iastore), (44, .iload_n 3), (45, .iconst 1), (46, .iload 4), (48, .invokestatic 86), (51, .iadd), (52, .istore_n 3), (53, .goto (-43)), (56, .iload_n 2), (57, .newarray .int), (59, .astore 4), (61, .aload_n 1), (62, .iconst 0), (63, .aload 4), (65, .iconst 0), (66, .iload_n 2), (67, .invokestatic 91), (70, .aload 4), (72, .areturn)]
def zi_127 : List (Nat × Instr) := [(0, .aload_n 0), (1, .getfield 23), (4, .iload_n 1), (5, .iaload), (6, .ifCond .lt 5), (9, .iconst 0), (10, .ireturn), (11, .iconst 1), (12, .istore_n 2), (13, .aload_n 0), (14, .getfield 65), (17, .iconst 4), (18, .if_icmp .ge 29), (21, .iload_n 1), (22, .iload_n 2), (23, .iadd), (24, .sipush 1024), (27, .if_icmp .ge 137), (30, .aload_n 0), (31, .getfield 23), (34, .iload_n 1), (35, .iload_n 2), (36, .iadd), (37, .iaload), (38, .ifCond .ge 126), (41, .iinc 2 1), (44, .goto (-23)), (47, .aload_n 0), (48, .getfield 65), (51, .iconst 4), (52, .if_icmp .ne 36), (55, .iload_n 2), (56, .sipush 1024), (59, .if_icmp .ge 105), (62, .iload_n 1), (63, .iconst 2), (64, .iload_n 2), (65, .imul), (66, .irem), (67, .ifCond .ne 97), (70, .aload_n 0), (71, .iload_n 1), (72, .iconst 2), (73, .iload_n 2), (74, .imul), (75, .invokevirtual 79), (78, .ifCond .eq 86), (81, .iload_n 2), (82, .iconst 2), (83, .imul), (84, .istore_n 2), (85, .goto (-30)), (88, .aload_n 0), (89, .iload_n 1), (90, .sipush 128), (93, .idiv), (94, .invokevirtual 97), (97, .ifCond .le 31), (100, .iload_n 1), (101, .aload_n 0), (102, .iload_n 1), (103, .sipush 128), (106, .idiv), (107, .invokevirtual 97), (110, .irem), (111, .ifCond .ne 15), (114, .aload_n 0), (115, .iload_n 1), (116, .sipush 128), (119, .idiv), (120, .invokevirtual 97), (123, .goto 4), (126, .iconst 0), (127, .ireturn), (128, .sipush 128), (131, .istore_n 2), (132, .iload_n 1), (133, .iload_n 2), (134, .iadd), (135, .sipush 1024), (138, .if_icmp .ge 26), (141, .aload_n 0), (142, .iload_n 1), (143, .iload_n 2), (144, .iadd), (145, .sipush 128), (148, .idiv), (149, .invokevirtual 97), (152, .ifCond .ne 12), (155, .iinc 2 128), (161, .goto (-29)), (164, .iload_n 2), (165, .ireturn)]
def zi_128 : List (Nat × Instr) := [(0, .iload_n 1), (1, .istore_n 3), (2, .iload_n 3), (3, .iload_n 1), (4, .iload_n 2), (5, .iadd), (6, .if_icmp .ge 20), (9, .aload_n 0), (10, .getfield 23), (13, .iload_n 3), (14, .iaload), (15, .ifCond .lt 5), (18, .iconst 0), (19, .ireturn), (20, .iinc 3 1), (23, .goto (-21)), (26, .iconst 1), (27, .ireturn)]
def zi_129 : List (Nat × Instr) := [(0, .aload_n 0), (1, .sipush 128), (4, .iload_n 1), (5, .imul), (6, .sipush 128), (9, .invokevirtual 79), (12, .ifCond .eq 5), (15, .iconst 0), (16, .ireturn), (17, .sipush 128), (20, .iload_n 1), (21, .imul), (22, .istore_n 2), (23, .aload_n 0), (24, .getfield 23), (27, .iload_n 2), (28, .iaload), (29, .ifCond .lt 36), (32, .aload_n 0), (33, .getfield 30), (36, .aload_n 0), (37, .getfield 23), (40, .iload_n 2), (41, .iaload), (42, .iaload), (43, .sipush 128), (46, .if_icmp .le 7), (49, .iconst (-1)), (50, .goto 14), (53, .aload_n 0), (54, .getfield 30), (57, .aload_n 0), (58, .getfield 23), (61, .iload_n 2), (62, .iaload), (63, .iaload), (64, .ireturn), (65, .iinc 2 1), (68, .goto (-45))]
def zi_130 : List (Nat × Instr) := [(0, .iconst 0), (1, .istore_n 2), (2, .iload_n 2), (3, .bipush 8), (5, .if_icmp .ge 77), (8, .iload_n 1), (9, .sipush 128), (12, .if_icmp .gt 70), (15, .aload_n 0), (16, .iload_n 2), (17, .invokevirtual 97), (20, .iload_n 1), (21, .if_icmp .eq 6), (24, .goto 52), (27, .aload_n 0), (28, .getfield 36), (31, .iconst 0), (32, .dup2), (33, .iaload), (34, .iconst 1), (35, .iadd), (36, .iastore), (37, .iconst 0), (38, .istore_n 3), (39, .iload_n 3), (40, .sipush 128), (43, .if_icmp .ge 33), (46, .aload_n 0), (47, .getfield 23), (50, .sipush 128), (53, .iload_n 2), (54, .imul), (55, .iload_n 3), (56, .iadd), (57, .iaload), (58, .ifCond .ge 11), (61, .sipush 128), (64, .iload_n 2), (65, .imul), (66, .iload_n 3), (67, .iadd), (68, .ireturn), (69, .iload_n 3), (70, .iload_n 1), (71, .iadd), (72, .istore_n 3), (73, .goto (-34)), (76, .iinc 2 1), (79, .goto (-77)), (82, .iload_n 1), (83, .sipush 128), (86, .if_icmp .ge 7), (89, .iconst 1), (90, .goto 8), (93, .iload_n 1), (94, .sipush 128), (97, .idiv), (98, .istore_n 2), (99, .iconst 0), (100, .istore_n 3), (101, .iload_n 3), (102, .iload_n 2), (103, .iadd), (104, .bipush 8), (106, .if_icmp .gt 56), (109, .aload_n 0), (110, .sipush 128), (113, .iload_n 3), (114, .imul), (115, .sipush 128), (118, .iload_n 2), (119, .imul), (120, .invokevirtual 79), (123, .ifCond .ne 6), (126, .goto 30), (129, .aload_n 0), (130, .getfield 36), (133, .iconst 1), (134, .dup2), (135, .iaload), (136, .iload_n 1), (137, .sipush 128), (140, .if_icmp .ge 7), (143, .iconst 1), (144, .goto 4), (147, .iconst 0), (148, .iadd), (149, .iastore), (150, .sipush 128), (153, .iload_n 3), (154, .imul), (155, .ireturn), (156, .iinc 3 1), (159, .goto (-58)), (162, .iconst (-1)), (163, .ireturn)]
def zi_131 : List (Nat × Instr) := [(0, .iload_n 1), (1, .istore 4), (3, .iload 4), (5, .iload_n 1), (6, .iload_n 2), (7, .iadd), (8, .if_icmp .ge 17), (11, .aload_n 0), (12, .getfield 23), (15, .iload 4), (17, .iload_n 3), (18, .iastore), (19, .iinc 4 1), (22, .goto (-19)), (25, .return_)]
def zi_132 : List (Nat × Instr) := [(0, .aload_n 0), (1, .getfield 39), (4, .arraylength), (5, .iconst 3), (6, .iadd), (7, .newarray .int), (9, .astore 4), (11, .aload_n 0), (12, .getfield 39), (15, .iconst 0), (16, .aload 4), (18, .iconst 0), (19, .aload_n 0), (20, .getfield 39), (23, .arraylength), (24, .invokestatic 91), (27, .aload 4), (29, .aload_n 0), (30, .getfield 39), (33, .arraylength), (34, .iload_n 1), (35, .iastore), (36, .aload 4), (38, .aload_n 0), (39, .getfield 39), (42, .arraylength), (43, .iconst 1), (44, .iadd), (45, .iload_n 2), (46, .iastore), (47, .aload 4), (49, .aload_n 0), (50, .getfield 39), (53, .arraylength), (54, .iconst 2), (55, .iadd), (56, .iload_n 3), (57, .iastore), (58, .aload_n 0), (59, .aload 4), (61, .putfield 39), (64, .aload_n 0), (65, .aload_n 0), (66, .getfield 117), (69, .aload_n 0), (70, .invokevirtual 120), (73, .invokestatic 86), (76, .putfield 117), (79, .return_)]
def zi_133 : List (Nat × Instr) := [(0, .iconst 0), (1, .istore_n 1), (2, .aload_n 0), (3, .getfield 23), (6, .astore_n 2), (7, .aload_n 2), (8, .arraylength), (9, .istore_n 3), (10, .iconst 0), (11, .istore 4), (13, .iload 4), (15, .iload_n 3), (16, .if_icmp .ge 28), (19, .aload_n 2), (20, .iload 4), (22, .iaload), (23, .istore 5), (25, .iload_n 1), (26, .iload 5), (28, .ifCond .lt 7), (31, .iconst 1), (32, .goto 4), (35, .iconst 0), (36, .iadd), (37, .istore_n 1), (38, .iinc 4 1), (41, .goto (-28)), (44, .iload_n 1), (45, .ireturn)]
def zi_134 : List (Nat × Instr) := [(0, .iload_n 1), (1, .invokestatic 80), (4, .aload_n 0), (5, .invokevirtual 83), (8, .invokevirtual 87), (11, .bipush 80), (13, .if_icmp .lt 13), (16, .new 91), (19, .dup), (20, .ldc 93), (22, .invokespecial 95), (25, .athrow), (26, .aload_n 0), (27, .invokevirtual 96), (30, .aload_n 0), (31, .invokevirtual 83), (34, .aload_n 0), (35, .getfield 12), (38, .iconst 0), (39, .iconst 0), (40, .iload_n 1), (41, .invokevirtual 99), (44, .invokevirtual 103), (47, .invokevirtual 87), (50, .iconst 1), (51, .isub), (52, .ireturn)]
def zi_135 : List (Nat × Instr) := [(0, .aload_n 0), (1, .getfield 12), (4, .invokevirtual 141), (7, .sipush 150), (10, .if_icmp .lt 13), (13, .new 91), (16, .dup), (17, .ldc 232), (19, .invokespecial 95), (22, .athrow), (23, .return_)]
def zi_136 : List (Nat × Instr) := [(0, .aload_n 0), (1, .getfield 21), (4, .sipush 150), (7, .if_icmp .ge 43), (10, .aload_n 0), (11, .getfield 9), (14, .aload_n 0), (15, .getfield 21), (18, .iload_n 1), (19, .iastore), (20, .aload_n 0), (21, .getfield 15), (24, .aload_n 0), (25, .getfield 21), (28, .iload_n 2), (29, .iastore), (30, .aload_n 0), (31, .getfield 18), (34, .aload_n 0), (35, .getfield 21), (38, .iload_n 3), (39, .iastore), (40, .aload_n 0), (41, .dup), (42, .getfield 21), (45, .iconst 1), (46, .iadd), (47, .putfield 21), (50, .aload_n 0), (51, .areturn)]
def zi_137 : List (Nat × Instr) := [(0, .aload_n 0), (1, .getfield 124), (4, .ifCond .ne 7), (7, .iconst (-1)), (8, .goto 11), (11, .aload_n 0), (12, .aload_n 0), (13, .getfield 124), (16, .invokevirtual 68), (19, .istore_n 2), (20, .iconst 0), (21, .istore_n 3), (22, .iload_n 3), (23, .aload_n 0), (24, .getfield 124), (27, .if_icmp .ge 26), (30, .aload_n 0), (31, .iload_n 2), (32, .invokevirtual 149), (35, .ifCond .ge 18), (38, .iload_n 2), (39, .iconst 1), (40, .iadd), (41, .aload_n 0), (42, .getfield 124), (45, .irem), (46, .istore_n 2), (47, .iinc 3 1), (50, .goto (-28)), (53, .iload_n 2), (54, .ifCond .lt 15), (57, .aload_n 0), (58, .iload_n 2), (59, .invokevirtual 149), (62, .ifCond .lt 7), (65, .iconst 1), (66, .goto 4), (69, .iconst 0), (70, .istore_n 3), (71, .aload_n 0), (72, .bipush 12), (74, .invokevirtual 68), (77, .istore 4), (79, .iload 4), (81, .bipush 6), (83, .if_icmp .lt 7), (86, .iload_n 3), (87, .ifCond .ne 44), (90, .aload_n 0), (91, .getfield 124), (94, .bipush 40), (96, .if_icmp .ge 17), (99, .aload_n 0), (100, .iconst 1), (101, .aload_n 0), (102, .iload_n 1), (103, .invokevirtual 68), (106, .iadd), (107, .invokevirtual 173), (110, .goto 20), (113, .iload_n 3), (114, .ifCond .eq 11), (117, .aload_n 0), (118, .iload_n 2), (119, .invokevirtual 175), (122, .ifCond .eq 7), (125, .iconst 1), (126, .goto 4), (129, .iconst 0), (130, .ireturn), (131, .iload 4), (133, .bipush 8), (135, .if_icmp .ge 9), (138, .aload_n 0), (139, .iload_n 2), (140, .invokevirtual 175), (143, .ireturn), (144, .iload 4), (146, .bipush 10), (148, .if_icmp .ge 16), (151, .aload_n 0), (152, .iload_n 2), (153, .iconst 1), (154, .aload_n 0), (155, .iload_n 1), (156, .invokevirtual 68), (159, .iadd), (160, .invokevirtual 177), (163, .ireturn), (164, .iload 4), (166, .bipush 10), (168, .if_icmp .ne 23), (171, .aload_n 0), (172, .getfield 130), (175, .iconst 3), (176, .if_icmp .ge 10), (179, .aload_n 0), (180, .invokevirtual 179), (183, .goto 7), (186, .aload_n 0), (187, .invokevirtual 182), (190, .ireturn), (191, .aload_n 0), (192, .getfield 130), (195, .ifCond .le 10), (198, .aload_n 0), (199, .invokevirtual 182), (202, .goto 23), (205, .aload_n 0), (206, .getfield 65), (209, .iconst 3), (210, .if_icmp .gt 10), (213, .aload_n 0), (214, .invokevirtual 184), (217, .ifCond .eq 7), (220, .iconst 1), (221, .goto 4), (224, .iconst 0), (225, .ireturn)]
def zi_138 : List (Nat × Instr) := [(0, .iconst 0), (1, .istore_n 2), (2, .iload_n 2), (3, .sipush 1024), (6, .if_icmp .ge 21), (9, .aload_n 0), (10, .getfield 23), (13, .iload_n 2), (14, .iaload), (15, .iload_n 1), (16, .if_icmp .ne 5), (19, .iload_n 2), (20, .ireturn), (21, .iinc 2 1), (24, .goto (-22)), (27, .iconst (-1)), (28, .ireturn)]
def zi_139 : List (Nat × Instr) := [(0, .aload_n 0), (1, .iload_n 1), (2, .invokevirtual 149), (5, .istore_n 2), (6, .iload_n 2), (7, .ifCond .lt 14), (10, .aload_n 0), (11, .iload_n 2), (12, .aload_n 0), (13, .getfield 30), (16, .iload_n 1), (17, .iaload), (18, .invokevirtual 150), (21, .aload_n 0), (22, .iconst 1), (23, .iload_n 1), (24, .iconst 0), (25, .invokevirtual 136), (28, .aload_n 0), (29, .getfield 42), (32, .ifCond .eq 31), (35, .aload_n 0), (36, .getfield 10), (39, .iload_n 1), (40, .invokevirtual 154), (43, .aload_n 0), (44, .getfield 30), (47, .iload_n 1), (48, .iaload), (49, .if_icmp .ne 18), (52, .aload_n 0), (53, .getfield 10), (56, .iload_n 1), (57, .invokevirtual 142), (60, .ifCond .ne 7), (63, .iconst 1), (64, .goto 4), (67, .iconst 0), (68, .ireturn)]
def zi_140 : List (Nat × Instr) := [(0, .aload_n 0), (1, .getfield 65), (4, .iconst 4), (5, .if_icmp .ge 66), (8, .aload_n 0), (9, .getfield 36), (12, .iconst 2), (13, .dup2), (14, .iaload), (15, .iload_n 1), (16, .ifCond .le 18), (19, .aload_n 0), (20, .getfield 23), (23, .iload_n 1), (24, .iconst 1), (25, .isub), (26, .iaload), (27, .ifCond .ge 7), (30, .iconst 1), (31, .goto 4), (34, .iconst 0), (35, .iadd), (36, .iastore), (37, .aload_n 0), (38, .getfield 36), (41, .iconst 2), (42, .dup2), (43, .iaload), (44, .iload_n 1), (45, .iload_n 2), (46, .iadd), (47, .sipush 1024), (50, .if_icmp .ge 18), (53, .aload_n 0), (54, .getfield 23), (57, .iload_n 1), (58, .iload_n 2), (59, .iadd), (60, .iaload), (61, .ifCond .ge 7), (64, .iconst 1), (65, .goto 4), (68, .iconst 0), (69, .iadd), (70, .iastore), (71, .aload_n 0), (72, .iload_n 1), (73, .iload_n 2), (74, .iconst (-1)), (75, .invokevirtual 110), (78, .iload_n 1), (79, .istore_n 3), (80, .iload_n 2), (81, .istore 4), (83, .aload_n 0), (84, .getfield 65), (87, .iconst 4), (88, .if_icmp .ne 73), (91, .iload 4), (93, .sipush 1024), (96, .if_icmp .ge 65), (99, .iload_n 3), (100, .iload 4), (102, .idiv), (103, .iconst 2), (104, .irem), (105, .ifCond .ne 10), (108, .iload_n 3), (109, .iload 4), (111, .iadd), (112, .goto 7), (115, .iload_n 3), (116, .iload 4), (118, .isub), (119, .istore 5), (121, .aload_n 0), (122, .iload 5), (124, .iload 4), (126, .invokevirtual 79), (129, .ifCond .ne 6), (132, .goto 29), (135, .aload_n 0), (136, .getfield 36), (139, .iconst 2), (140, .dup2), (141, .iaload), (142, .iconst 1), (143, .iadd), (144, .iastore), (145, .iload_n 3), (146, .iload 5), (148, .invokestatic 114), (151, .istore_n 3), (152, .iload 4), (154, .iconst 2), (155, .imul), (156, .istore 4), (158, .goto (-75)), (161, .aload_n 0), (162, .getfield 65), (165, .iconst 5), (166, .if_icmp .ne 32), (169, .iload_n 2), (170, .sipush 128), (173, .if_icmp .ge 25), (176, .aload_n 0), (177, .iload_n 1), (178, .sipush 128), (181, .idiv), (182, .invokevirtual 97), (185, .ifCond .ne 13), (188, .aload_n 0), (189, .getfield 36), (192, .iconst 2), (193, .dup2), (194, .iaload), (195, .iconst 1), (196, .iadd), (197, .iastore), (198, .return_)]
def zi_141 : List (Nat × Instr) := [(0, .aload_n 0), (1, .iload_n 1), (2, .invokevirtual 107), (5, .aload_n 0), (6, .iload_n 1), (7, .invokevirtual 110), (10, .aload_n 0), (11, .invokevirtual 96), (14, .aload_n 0), (15, .invokevirtual 83), (18, .invokevirtual 113), (21, .iload_n 1), (22, .invokevirtual 117), (25, .istore_n 2), (26, .aload_n 0), (27, .invokevirtual 83), (30, .aload_n 0), (31, .getfield 12), (34, .iconst 1), (35, .iload_n 1), (36, .iconst 0), (37, .invokevirtual 99), (40, .invokevirtual 103), (43, .pop), (44, .iload_n 2), (45, .ireturn)]
def zi_142 : List (Nat × Instr) := [(0, .aload_n 0), (1, .invokevirtual 83), (4, .invokevirtual 113), (7, .iload_n 1), (8, .invokevirtual 144), (11, .ifCond .ne 13), (14, .new 91), (17, .dup), (18, .ldc 230), (20, .invokespecial 95), (23, .athrow), (24, .return_)]
def zi_143 : List (Nat × Instr) := [(0, .aload_n 0), (1, .iload_n 1), (2, .invokevirtual 149), (5, .istore_n 3), (6, .aload_n 0), (7, .iload_n 2), (8, .invokevirtual 127), (11, .istore 4), (13, .aload_n 0), (14, .getfield 30), (17, .iload_n 1), (18, .iaload), (19, .istore 5), (21, .iload_n 3), (22, .ifCond .lt 10), (25, .iload 4), (27, .iload 5), (29, .if_icmp .ne 7), (32, .iconst 1), (33, .goto 4), (36, .iconst 0), (37, .istore 6), (39, .iload 6), (41, .ifCond .ne 71), (44, .aload_n 0), (45, .getfield 65), (48, .iconst 4), (49, .if_icmp .ge 63), (52, .iload 4), (54, .iload 5), (56, .if_icmp .ge 56), (59, .iconst 1), (60, .istore 6), (62, .aload_n 0), (63, .getfield 36), (66, .iconst 2), (67, .dup2), (68, .iaload), (69, .iload_n 3), (70, .iload 5), (72, .iadd), (73, .sipush 1024), (76, .if_icmp .ge 19), (79, .aload_n 0), (80, .getfield 23), (83, .iload_n 3), (84, .iload 5), (86, .iadd), (87, .iaload), (88, .ifCond .ge 7), (91, .iconst 1), (92, .goto 4), (95, .iconst 0), (96, .iadd), (97, .iastore), (98, .aload_n 0), (99, .iload_n 3), (100, .iload 4), (102, .iadd), (103, .iload 5), (105, .iload 4), (107, .isub), (108, .iconst (-1)), (109, .invokevirtual 110), (112, .iload 6), (114, .ifCond .ne 90), (117, .aload_n 0), (118, .getfield 65), (121, .iconst 4), (122, .if_icmp .ge 82), (125, .iload_n 3), (126, .iload 4), (128, .iadd), (129, .sipush 1024), (132, .if_icmp .gt 72), (135, .aload_n 0), (136, .iload_n 3), (137, .iload 5), (139, .iadd), (140, .iload 4), (142, .iload 5), (144, .isub), (145, .invokevirtual 79), (148, .ifCond .eq 56), (151, .iconst 1), (152, .istore 6), (154, .aload_n 0), (155, .iload_n 3), (156, .iload 5), (158, .iadd), (159, .iload 4), (161, .iload 5), (163, .isub), (164, .iload_n 1), (165, .invokevirtual 110), (168, .aload_n 0), (169, .getfield 36), (172, .iconst 1), (173, .dup2), (174, .iaload), (175, .iload_n 3), (176, .iload 4), (178, .iadd), (179, .sipush 1024), (182, .if_icmp .ge 19), (185, .aload_n 0), (186, .getfield 23), (189, .iload_n 3), (190, .iload 4), (192, .iadd), (193, .iaload), (194, .ifCond .ge 7), (197, .iconst 1), (198, .goto 4), (201, .iconst 0), (202, .iadd), (203, .iastore), (204, .iload 6), (206, .ifCond .eq 7), (209, .iload_n 3), (210, .goto 9), (213, .aload_n 0), (214, .iload 4), (216, .invokevirtual 133), (219, .istore 7), (221, .iload 7), (223, .ifCond .ge 18), (226, .iload 6), (228, .ifCond .ne 13), (231, .aload_n 0), (232, .getfield 36), (235, .iconst 4), (236, .dup2), (237, .iaload), (238, .iconst 1), (239, .iadd), (240, .iastore), (241, .iload 7), (243, .ifCond .lt 62), (246, .iload 6), (248, .ifCond .ne 57), (251, .aload_n 0), (252, .getfield 36), (255, .iconst 3), (256, .dup2), (257, .iaload), (258, .iload_n 2), (259, .aload_n 0), (260, .getfield 27), (263, .iload_n 1), (264, .iaload), (265, .invokestatic 114), (268, .iadd), (269, .iastore), (270, .aload_n 0), (271, .getfield 30), (274, .bipush 80), (276, .iload 4), (278, .iastore), (279, .aload_n 0), (280, .iload 7), (282, .iload 4), (284, .bipush 80), (286, .invokevirtual 110), (289, .aload_n 0), (290, .iload_n 3), (291, .iload 5), (293, .invokevirtual 150), (296, .aload_n 0), (297, .iload 7), (299, .iload 4), (301, .iload_n 1), (302, .invokevirtual 110), (305, .iload 7), (307, .ifCond .lt 18), (310, .aload_n 0), (311, .getfield 27), (314, .iload_n 1), (315, .iload_n 2), (316, .iastore), (317, .aload_n 0), (318, .getfield 30), (321, .iload_n 1), (322, .iload 4), (324, .iastore), (325, .aload_n 0), (326, .iconst 2), (327, .iload_n 1), (328, .iload_n 2), (329, .invokevirtual 136), (332, .aload_n 0), (333, .getfield 42), (336, .ifCond .eq 60), (339, .aload_n 0), (340, .getfield 10), (343, .iload_n 1), (344, .iload_n 2), (345, .invokevirtual 157), (348, .iload 7), (350, .ifCond .ge 7), (353, .iload_n 3), (354, .goto 5), (357, .iload 7), (359, .if_icmp .ne 41), (362, .aload_n 0), (363, .getfield 10), (366, .iload_n 1), (367, .invokevirtual 160), (370, .aload_n 0), (371, .getfield 27), (374, .iload_n 1), (375, .iaload), (376, .if_icmp .ne 24), (379, .aload_n 0), (380, .getfield 10), (383, .iload_n 1), (384, .invokevirtual 162), (387, .aload_n 0), (388, .getfield 30), (391, .iload_n 1), (392, .iaload), (393, .if_icmp .ne 7), (396, .iconst 1), (397, .goto 4), (400, .iconst 0), (401, .ireturn)]
def zi_144 : List (Nat × Instr) := [(0, .aload_n 0), (1, .iload_n 1), (2, .invokevirtual 107), (5, .iload_n 2), (6, .invokestatic 80), (9, .aload_n 0), (10, .iload_n 1), (11, .invokevirtual 110), (14, .aload_n 0), (15, .invokevirtual 96), (18, .aload_n 0), (19, .invokevirtual 83), (22, .aload_n 0), (23, .getfield 12), (26, .iconst 2), (27, .iload_n 1), (28, .iload_n 2), (29, .invokevirtual 99), (32, .invokevirtual 103), (35, .invokevirtual 113), (38, .iload_n 1), (39, .invokevirtual 123), (42, .ireturn)]
def zi_145 : List (Nat × Instr) := [(0, .aload_n 0), (1, .dup), (2, .getfield 130), (5, .iconst 1), (6, .iadd), (7, .putfield 130), (10, .aload_n 0), (11, .iconst 4), (12, .iconst 0), (13, .iconst 0), (14, .invokevirtual 136), (17, .aload_n 0), (18, .getfield 42), (21, .ifCond .eq 17), (24, .aload_n 0), (25, .getfield 10), (28, .invokevirtual 167), (31, .aload_n 0), (32, .getfield 130), (35, .if_icmp .ne 7), (38, .iconst 1), (39, .goto 4), (42, .iconst 0), (43, .ireturn)]
def zi_146 : List (Nat × Instr) := [(0, .aload_n 0), (1, .invokevirtual 83), (4, .invokevirtual 131), (7, .bipush 8), (9, .if_icmp .lt 13), (12, .new 91), (15, .dup), (16, .ldc 134), (18, .invokespecial 95), (21, .athrow), (22, .aload_n 0), (23, .invokevirtual 96), (26, .aload_n 0), (27, .invokevirtual 83), (30, .aload_n 0), (31, .getfield 12), (34, .iconst 4), (35, .iconst 0), (36, .iconst 0), (37, .invokevirtual 99), (40, .invokevirtual 103), (43, .invokevirtual 131), (46, .ireturn)]
def zi_147 : List (Nat × Instr) := [(0, .iconst 0), (1, .istore_n 1), (2, .aload_n 0), (3, .getfield 124), (6, .iconst 1), (7, .isub), (8, .istore_n 2), (9, .iload_n 2), (10, .ifCond .lt 59), (13, .aload_n 0), (14, .getfield 33), (17, .iload_n 2), (18, .iaload), (19, .aload_n 0), (20, .getfield 130), (23, .if_icmp .eq 6), (26, .goto 37), (29, .aload_n 0), (30, .getfield 33), (33, .iload_n 2), (34, .iconst 0), (35, .iastore), (36, .aload_n 0), (37, .iload_n 2), (38, .invokevirtual 149), (41, .istore_n 3), (42, .iload_n 3), (43, .ifCond .ge 6), (46, .goto 17), (49, .aload_n 0), (50, .iload_n 3), (51, .aload_n 0), (52, .getfield 30), (55, .iload_n 2), (56, .iaload), (57, .invokevirtual 150), (60, .iinc 1 1), (63, .iinc 2 (-1)), (66, .goto (-57)), (69, .aload_n 0), (70, .dup), (71, .getfield 130), (74, .iconst 1), (75, .isub), (76, .putfield 130), (79, .aload_n 0), (80, .iconst 5), (81, .iconst 0), (82, .iconst 0), (83, .invokevirtual 136), (86, .aload_n 0), (87, .getfield 42), (90, .ifCond .eq 14), (93, .aload_n 0), (94, .getfield 10), (97, .invokevirtual 170), (100, .iload_n 1), (101, .if_icmp .ne 7), (104, .iconst 1), (105, .goto 4), (108, .iconst 0), (109, .ireturn)]
def zi_148 : List (Nat × Instr) := [(0, .aload_n 0), (1, .invokevirtual 83), (4, .invokevirtual 131), (7, .ifCond .gt 13), (10, .new 91), (13, .dup), (14, .ldc 136), (16, .invokespecial 95), (19, .athrow), (20, .aload_n 0), (21, .invokevirtual 96), (24, .aload_n 0), (25, .invokevirtual 83), (28, .invokevirtual 113), (31, .invokevirtual 138), (34, .istore_n 1), (35, .iload_n 1), (36, .aload_n 0), (37, .invokevirtual 83), (40, .aload_n 0), (41, .getfield 12), (44, .iconst 5), (45, .iconst 0), (46, .iconst 0), (47, .invokevirtual 99), (50, .invokevirtual 103), (53, .invokevirtual 113), (56, .invokevirtual 138), (59, .isub), (60, .ireturn)]
def zi_149 : List (Nat × Instr) := [(0, .iconst 0), (1, .istore_n 1), (2, .iconst 0), (3, .istore_n 2), (4, .iconst 0), (5, .istore_n 3), (6, .iload_n 3), (7, .sipush 1024), (10, .if_icmp .ge 81), (13, .aload_n 0), (14, .getfield 65), (17, .iconst 4), (18, .if_icmp .ge 73), (21, .aload_n 0), (22, .getfield 23), (25, .iload_n 3), (26, .iaload), (27, .istore 4), (29, .iload 4), (31, .ifCond .ge 6), (34, .goto 51), (37, .aload_n 0), (38, .getfield 30), (41, .iload 4), (43, .iaload), (44, .istore 5), (46, .iload_n 2), (47, .iload_n 3), (48, .if_icmp .ge 25), (51, .iload_n 1), (52, .iload 5), (54, .iadd), (55, .istore_n 1), (56, .aload_n 0), (57, .iload_n 3), (58, .iload 5), (60, .iconst (-1)), (61, .invokevirtual 110), (64, .aload_n 0), (65, .iload_n 2), (66, .iload 5), (68, .iload 4), (70, .invokevirtual 110), (73, .iload_n 3), (74, .iload 5), (76, .iconst 1), (77, .isub), (78, .iadd), (79, .istore_n 3), (80, .iload_n 2), (81, .iload 5), (83, .iadd), (84, .istore_n 2), (85, .iinc 3 1), (88, .goto (-82)), (91, .aload_n 0), (92, .getfield 65), (95, .iconst 4), (96, .if_icmp .ge 19), (99, .aload_n 0), (100, .iload_n 2), (101, .sipush 1024), (104, .if_icmp .ne 7), (107, .iconst 0), (108, .goto 4), (111, .iload_n 2), (112, .putfield 107), (115, .aload_n 0), (116, .getfield 36), (119, .iconst 3), (120, .dup2), (121, .iaload), (122, .iload_n 1), (123, .iadd), (124, .iastore), (125, .aload_n 0), (126, .iconst 3), (127, .iconst 0), (128, .iconst 0), (129, .invokevirtual 136), (132, .aload_n 0), (133, .getfield 42), (136, .ifCond .eq 14), (139, .aload_n 0), (140, .getfield 10), (143, .invokevirtual 164), (146, .iload_n 1), (147, .if_icmp .ne 7), (150, .iconst 1), (151, .goto 4), (154, .iconst 0), (155, .ireturn)]
def zi_150 : List (Nat × Instr) := [(0, .aload_n 0), (1, .getfield 48), (4, .iconst 4), (5, .if_icmp .eq 11), (8, .aload_n 0), (9, .getfield 48), (12, .iconst 5), (13, .if_icmp .ne 13), (16, .new 91), (19, .dup), (20, .ldc 126), (22, .invokespecial 95), (25, .athrow), (26, .aload_n 0), (27, .invokevirtual 96), (30, .aload_n 0), (31, .invokevirtual 83), (34, .iconst 3), (35, .invokevirtual 128), (38, .istore_n 1), (39, .aload_n 0), (40, .invokevirtual 83), (43, .aload_n 0), (44, .getfield 12), (47, .iconst 3), (48, .iconst 0), (49, .iconst 0), (50, .invokevirtual 99), (53, .invokevirtual 103), (56, .iconst 3), (57, .invokevirtual 128), (60, .iload_n 1), (61, .isub), (62, .ireturn)]
def zi_law : List (Nat × Instr) := [(0, .iconst 0), (1, .istore_n 1), (2, .iload_n 1), (3, .iconst 3), (4, .if_icmp .ge 884), (7, .new 9), (10, .dup), (11, .aload_n 0), (12, .bipush 31), (14, .iload_n 1), (15, .imul), (16, .bipush 7), (18, .iadd), (19, .invokespecial 11), (22, .astore_n 2), (23, .aload_n 2), (24, .getfield 14), (27, .astore_n 3), (28, .aload_n 2), (29, .aload_n 2), (30, .bipush 6), (32, .invokevirtual 18), (35, .invokevirtual 22), (38, .ifCond .ne 5), (41, .iconst 0), (42, .ireturn), (43, .iconst 5), (44, .newarray .int), (46, .astore 4), (48, .iconst 0), (49, .istore 5), (51, .iload 5), (53, .bipush 14), (55, .if_icmp .ge 827), (58, .aload_n 2), (59, .iload 5), (61, .iconst 3), (62, .irem), (63, .ifCond .ne 9), (66, .sipush 300), (69, .goto 5), (72, .bipush 100), (74, .invokevirtual 26), (77, .ifCond .ne 5), (80, .iconst 0), (81, .ireturn), (82, .sipush 1024), (85, .newarray .int), (87, .astore 6), (89, .iconst 0), (90, .istore 7), (92, .iconst 0), (93, .istore 8), (95, .iconst 0), (96, .istore 9), (98, .iconst 0), (99, .istore 10), (101, .iload 10), (103, .aload_n 3), (104, .invokevirtual 29), (107, .if_icmp .ge 154), (110, .aload_n 3), (111, .iload 10), (113, .invokevirtual 35), (116, .ifCond .ne 6), (119, .goto 136), (122, .iinc 9 1), (125, .iload 7), (127, .aload_n 3), (128, .iload 10), (130, .invokevirtual 38), (133, .iadd), (134, .istore 7), (136, .iload 8), (138, .aload_n 3), (139, .iload 10), (141, .invokevirtual 38), (144, .aload_n 3), (145, .iload 10), (147, .invokevirtual 41), (150, .isub), (151, .iadd), (152, .istore 8), (154, .aload_n 3), (155, .iload 10), (157, .invokevirtual 38), (160, .aload_n 2), (161, .aload_n 3), (162, .iload 10), (164, .invokevirtual 41), (167, .invokevirtual 44), (170, .if_icmp .ne 42), (173, .aload_n 3), (174, .aload_n 3), (175, .iload 10), (177, .invokevirtual 47), (180, .invokevirtual 50), (183, .iload 10), (185, .if_icmp .ne 27), (188, .aload_n 3), (189, .aload_n 3), (190, .iload 10), (192, .invokevirtual 47), (195, .aload_n 3), (196, .iload 10), (198, .invokevirtual 38), (201, .iadd), (202, .iconst 1), (203, .isub), (204, .invokevirtual 50), (207, .iload 10), (209, .if_icmp .eq 5), (212, .iconst 0), (213, .ireturn), (214, .aload_n 3), (215, .iload 10), (217, .invokevirtual 47), (220, .istore 11), (222, .iload 11), (224, .aload_n 3), (225, .iload 10), (227, .invokevirtual 47), (230, .aload_n 3), (231, .iload 10), (233, .invokevirtual 38), (236, .iadd), (237, .if_icmp .ge 18), (240, .aload 6), (242, .iload 11), (244, .dup2), (245, .iaload), (246, .iconst 1), (247, .iadd), (248, .iastore), (249, .iinc 11 1), (252, .goto (-30)), (255, .iinc 10 1), (258, .goto (-157)), (261, .iconst 0), (262, .istore 10), (264, .iconst 0), (265, .istore 11), (267, .iconst 0), (268, .istore 12), (270, .iload 12), (272, .aload_n 3), (273, .invokevirtual 53), (276, .if_icmp .ge 102), (279, .aload_n 3), (280, .iload 12), (282, .invokevirtual 56), (285, .istore 13), (287, .aload_n 3), (288, .iload 12), (290, .invokevirtual 59), (293, .istore 14), (295, .iload 13), (297, .iload 10), (299, .if_icmp .lt 29), (302, .iload 14), (304, .iconst 1), (305, .if_icmp .lt 23), (308, .aload_n 2), (309, .getfield 62), (312, .iconst 4), (313, .if_icmp .ge 17), (316, .iload 12), (318, .ifCond .le 12), (321, .iload 13), (323, .iload 10), (325, .if_icmp .ne 5), (328, .iconst 0), (329, .ireturn), (330, .iload 13), (332, .iload 14), (334, .iadd), (335, .istore 10), (337, .iload 11), (339, .iload 14), (341, .invokestatic 66), (344, .istore 11), (346, .iload 13), (348, .istore 15), (350, .iload 15), (352, .iload 10), (354, .if_icmp .ge 18), (357, .aload 6), (359, .iload 15), (361, .dup2), (362, .iaload), (363, .iconst 1), (364, .iadd), (365, .iastore), (366, .iinc 15 1), (369, .goto (-19)), (372, .iinc 12 1), (375, .goto (-105)), (378, .aload 6), (380, .astore 12), (382, .aload 12), (384, .arraylength), (385, .istore 13), (387, .iconst 0), (388, .istore 14), (390, .iload 14), (392, .iload 13), (394, .if_icmp .ge 24), (397, .aload 12), (399, .iload 14), (401, .iaload), (402, .istore 15), (404, .iload 15), (406, .iconst 1), (407, .if_icmp .eq 5), (410, .iconst 0), (411, .ireturn), (412, .iinc 14 1), (415, .goto (-25)), (418, .aload_n 3), (419, .invokevirtual 72), (422, .iload 7), (424, .if_icmp .ne 39), (427, .aload_n 3), (428, .invokevirtual 75), (431, .iload 8), (433, .if_icmp .ne 30), (436, .aload_n 3), (437, .invokevirtual 78), (440, .iload 9), (442, .if_icmp .ne 21), (445, .aload_n 3), (446, .invokevirtual 81), (449, .iload 11), (451, .if_icmp .ne 12), (454, .aload_n 3), (455, .invokevirtual 84), (458, .iload 7), (460, .if_icmp .ge 5), (463, .iconst 0), (464, .ireturn), (465, .iconst 0), (466, .istore 12), (468, .iload 12), (470, .iconst 5), (471, .if_icmp .ge 36), (474, .aload_n 3), (475, .iload 12), (477, .invokevirtual 87), (480, .aload 4), (482, .iload 12), (484, .iaload), (485, .if_icmp .ge 5), (488, .iconst 0), (489, .ireturn), (490, .aload 4), (492, .iload 12), (494, .aload_n 3), (495, .iload 12), (497, .invokevirtual 87), (500, .iastore), (501, .iinc 12 1), (504, .goto (-36)), (507, .iload 5), (509, .iconst 4), (510, .irem), (511, .iconst 3), (512, .if_icmp .eq 6), (515, .goto 361), (518, .aload_n 3), (519, .invokevirtual 90), (522, .lstore 12), (524, .aload_n 3), (525, .invokevirtual 94), (528, .istore 14), (530, .iload 14), (532, .ifCond .le 12), (535, .aload_n 3), (536, .iload 14), (538, .invokevirtual 97), (541, .ifCond .lt 45), (544, .iload 14), (546, .sipush 300), (549, .if_icmp .ge 14), (552, .aload_n 3), (553, .iload 14), (555, .iconst 1), (556, .iadd), (557, .invokevirtual 97), (560, .ifCond .ge 26), (563, .aload_n 2), (564, .iconst 1), (565, .iload 14), (567, .invokestatic 66), (570, .invokevirtual 44), (573, .iload 11), (575, .aload_n 2), (576, .iconst 1), (577, .invokevirtual 44), (580, .invokestatic 66), (583, .if_icmp .le 5), (586, .iconst 0), (587, .ireturn), (588, .iconst 0), (589, .istore 15), (591, .iload 15), (593, .iconst 5), (594, .if_icmp .ge 29), (597, .aload_n 3), (598, .aload_n 2), (599, .getfield 62), (602, .iload 15), (604, .invokevirtual 100), (607, .aload 4), (609, .iload 15), (611, .iaload), (612, .if_icmp .eq 5), (615, .iconst 0), (616, .ireturn), (617, .iinc 15 1), (620, .goto (-29)), (623, .aload_n 3), (624, .aload_n 2), (625, .getfield 62), (628, .iconst 5), (629, .invokevirtual 100), (632, .aload_n 3), (633, .invokevirtual 84), (636, .if_icmp .ne 35), (639, .aload_n 3), (640, .aload_n 2), (641, .getfield 62), (644, .bipush 6), (646, .invokevirtual 100), (649, .aload_n 3), (650, .invokevirtual 53), (653, .if_icmp .ne 18), (656, .aload_n 3), (657, .aload_n 2), (658, .getfield 62), (661, .bipush 7), (663, .invokevirtual 100), (666, .iload 11), (668, .if_icmp .eq 5), (671, .iconst 0), (672, .ireturn), (673, .aload_n 3), (674, .invokevirtual 103), (677, .istore 15), (679, .iconst 0), (680, .istore 16), (682, .iload 16), (684, .bipush 6), (686, .if_icmp .ge 79), (689, .aload_n 3), (690, .iload 16), (692, .iconst 4), (693, .invokevirtual 100), (696, .aload_n 3), (697, .iload 15), (699, .iconst 4), (700, .invokevirtual 100), (703, .isub), (704, .istore 17), (706, .iload 17), (708, .ifCond .lt 49), (711, .iload 17), (713, .ifCond .ne 46), (716, .aload_n 3), (717, .iload 16), (719, .iconst 5), (720, .invokevirtual 100), (723, .aload_n 3), (724, .iload 15), (726, .iconst 5), (727, .invokevirtual 100), (730, .if_icmp .lt 27), (733, .aload_n 3), (734, .iload 16), (736, .iconst 5), (737, .invokevirtual 100), (740, .aload_n 3), (741, .iload 15), (743, .iconst 5), (744, .invokevirtual 100), (747, .if_icmp .ne 12), (750, .iload 16), (752, .iload 15), (754, .if_icmp .ge 5), (757, .iconst 0), (758, .ireturn), (759, .iinc 16 1), (762, .goto (-80)), (765, .aload_n 3), (766, .invokevirtual 90), (769, .lload 12), (771, .lcmp), (772, .ifCond .eq 5), (775, .iconst 0), (776, .ireturn), (777, .iconst 1), (778, .aload_n 2), (779, .sipush 200), (782, .invokevirtual 18), (785, .iadd), (786, .istore 16), (788, .aload_n 3), (789, .iload 16), (791, .invokevirtual 97), (794, .istore 17), (796, .aload_n 3), (797, .invokevirtual 29), (800, .istore 18), (802, .iload 18), (804, .bipush 40), (806, .if_icmp .ge 44), (809, .aload_n 2), (810, .iload 16), (812, .invokevirtual 106), (815, .ifCond .eq 33), (818, .aload_n 3), (819, .iload 18), (821, .invokevirtual 47), (824, .iload 17), (826, .if_icmp .ne 22), (829, .aload_n 3), (830, .iload 18), (832, .invokevirtual 35), (835, .iload 17), (837, .ifCond .lt 7), (840, .iconst 1), (841, .goto 4), (844, .iconst 0), (845, .if_icmp .eq 5), (848, .iconst 0), (849, .ireturn), (850, .iconst 0), (851, .istore 19), (853, .iload 19), (855, .iconst 5), (856, .if_icmp .ge 20), (859, .aload 4), (861, .iload 19), (863, .aload_n 3), (864, .iload 19), (866, .invokevirtual 87), (869, .iastore), (870, .iinc 19 1), (873, .goto (-20)), (876, .iinc 5 1), (879, .goto (-828)), (882, .iinc 1 1), (885, .goto (-883)), (888, .iconst 1), (889, .ireturn)]
def zIs : List (List (Nat × Instr)) := [zi_0, zi_1, zi_2, zi_3, zi_4, zi_5, zi_6, zi_7, zi_8, zi_9, zi_10, zi_11, zi_12, zi_13, zi_14, zi_15, zi_16, zi_17, zi_18, zi_19, zi_20, zi_21, zi_22, zi_23, zi_24, zi_25, zi_26, zi_27, zi_28, zi_29, zi_30, zi_31, zi_32, zi_33, zi_34, zi_35, zi_36, zi_37, zi_38, zi_39, zi_40, zi_41, zi_42, zi_43, zi_44, zi_45, zi_46, zi_47, zi_48, zi_49, zi_50, zi_51, zi_52, zi_53, zi_54, zi_55, zi_56, zi_57, zi_58, zi_59, zi_60, zi_61, zi_62, zi_63, zi_64, zi_65, zi_66, zi_67, zi_68, zi_69, zi_70, zi_71, zi_72, zi_73, zi_74, zi_75, zi_76, zi_77, zi_78, zi_79, zi_80, zi_81, zi_82, zi_83, zi_84, zi_85, zi_86, zi_87, zi_88, zi_89, zi_90, zi_91, zi_92, zi_93, zi_94, zi_95, zi_96, zi_97, zi_98, zi_99, zi_100, zi_101, zi_102, zi_103, zi_104, zi_105, zi_106, zi_107, zi_108, zi_109, zi_110, zi_111, zi_112, zi_113, zi_114, zi_115, zi_116, zi_117, zi_118, zi_119, zi_120, zi_121, zi_122, zi_123, zi_124, zi_125, zi_126, zi_127, zi_128, zi_129, zi_130, zi_131, zi_132, zi_133, zi_134, zi_135, zi_136, zi_137, zi_138, zi_139, zi_140, zi_141, zi_142, zi_143, zi_144, zi_145, zi_146, zi_147, zi_148, zi_149, zi_150, zi_law]
/-- the law is the last method -/
def zLaw : Nat := 151
def zLawMt : zMt := (⟨"HeapwrightLabLaw", "law", "([I)Z"⟩, code, 20, some .boolean, none, 10, 0)
def zMa : List zMt := zM ++ [zLawMt]
/-- fields: (place in the pool, class, slot, final, may be put by its own constructor, named class, words) -/
def zF : List (List (Nat × Nat × Nat × Bool × Bool × String × Nat × Nat)) := [
  [(12, 6, 0, true, true, "HeapwrightLab", 5104, 0), (21, 6, 1, true, true, "HeapwrightLab", 5105, 0), (25, 6, 2, true, true, "HeapwrightLab", 5106, 0), (28, 6, 3, true, true, "HeapwrightLab", 5107, 0), (31, 6, 4, true, true, "HeapwrightLab", 5108, 0), (37, 6, 5, true, true, "HeapwrightLab", 5109, 0), (44, 6, 6, true, true, "HeapwrightLab", 5110, 0), (48, 6, 7, false, false, "HeapwrightLab", 5111, 0)],
  [(12, 1, 0, true, true, "HeapwrightLab$Memory", 4234, 0), (12, 2, 0, true, true, "HeapwrightLab$Memory", 4234, 0), (12, 4, 0, true, true, "HeapwrightLab$Memory", 4234, 0), (21, 1, 1, true, true, "HeapwrightLab$Memory", 4239, 0), (21, 2, 1, true, true, "HeapwrightLab$Memory", 4239, 0), (21, 4, 1, true, true, "HeapwrightLab$Memory", 4239, 0), (39, 1, 2, true, true, "HeapwrightLab$Memory", 5006, 0), (39, 2, 2, true, true, "HeapwrightLab$Memory", 5006, 0), (39, 4, 2, true, true, "HeapwrightLab$Memory", 5006, 0), (25, 1, 3, false, false, "HeapwrightLab$Memory", 5009, 0), (25, 2, 3, false, false, "HeapwrightLab$Memory", 5009, 0), (25, 4, 3, false, false, "HeapwrightLab$Memory", 5009, 0), (29, 1, 4, false, false, "HeapwrightLab$Memory", 5012, 0), (29, 2, 4, false, false, "HeapwrightLab$Memory", 5012, 0), (29, 4, 4, false, false, "HeapwrightLab$Memory", 5012, 0), (53, 1, 5, false, false, "HeapwrightLab$Memory", 5021, 0), (53, 2, 5, false, false, "HeapwrightLab$Memory", 5021, 0), (53, 4, 5, false, false, "HeapwrightLab$Memory", 5021, 0), (166, 1, 6, false, false, "HeapwrightLab$Memory", 5028, 0), (166, 2, 6, false, false, "HeapwrightLab$Memory", 5028, 0), (166, 4, 6, false, false, "HeapwrightLab$Memory", 5028, 0), (32, 1, 7, true, true, "HeapwrightLab$Memory", 5029, 0), (32, 2, 7, true, true, "HeapwrightLab$Memory", 5029, 0), (32, 4, 7, true, true, "HeapwrightLab$Memory", 5029, 0), (36, 1, 8, true, true, "HeapwrightLab$Memory", 5030, 0), (36, 2, 8, true, true, "HeapwrightLab$Memory", 5030, 0), (36, 4, 8, true, true, "HeapwrightLab$Memory", 5030, 0), (56, 1, 9, false, false, "HeapwrightLab$Memory", 5031, 0), (56, 2, 9, false, false, "HeapwrightLab$Memory", 5031, 0), (56, 4, 9, false, false, "HeapwrightLab$Memory", 5031, 0), (59, 1, 10, false, false, "HeapwrightLab$Memory", 5032, 0), (59, 2, 10, false, false, "HeapwrightLab$Memory", 5032, 0), (59, 4, 10, false, false, "HeapwrightLab$Memory", 5032, 0), (62, 1, 11, false, false, "HeapwrightLab$Memory", 5033, 0), (62, 2, 11, false, false, "HeapwrightLab$Memory", 5033, 0), (62, 4, 11, false, false, "HeapwrightLab$Memory", 5033, 0), (65, 1, 12, false, false, "HeapwrightLab$Memory", 5034, 0), (65, 2, 12, false, false, "HeapwrightLab$Memory", 5034, 0), (65, 4, 12, false, false, "HeapwrightLab$Memory", 5034, 0)],
  [(9, 0, 0, true, true, "HeapwrightLab$Blocks", 4199, 0), (15, 0, 1, true, true, "HeapwrightLab$Blocks", 4200, 0), (18, 0, 2, true, true, "HeapwrightLab$Blocks", 4201, 0), (21, 0, 3, true, true, "HeapwrightLab$Blocks", 4202, 0), (30, 0, 4, false, false, "HeapwrightLab$Blocks", 4203, 0), (34, 0, 5, false, false, "HeapwrightLab$Blocks", 4204, 0)],
  [(9, 3, 0, true, true, "HeapwrightLab$Holes", 4224, 0), (15, 3, 1, true, true, "HeapwrightLab$Holes", 4225, 0), (18, 3, 2, false, false, "HeapwrightLab$Holes", 4226, 0)],
  [(15, 1, 1, true, false, "HeapwrightLab$Buddies", 5000, 5001), (9, 1, 4, false, false, "HeapwrightLab$Buddies", 5015, 5016), (25, 1, 6, false, false, "HeapwrightLab$Buddies", 5022, 5023)],
  [(69, 2, 0, true, false, "HeapwrightLab$Fits", 4237, 4238), (22, 2, 1, true, false, "HeapwrightLab$Fits", 5002, 5003), (35, 2, 2, true, false, "HeapwrightLab$Fits", 5007, 5008), (15, 2, 3, false, false, "HeapwrightLab$Fits", 5010, 5011), (9, 2, 4, false, false, "HeapwrightLab$Fits", 5013, 5014), (41, 2, 5, false, false, "HeapwrightLab$Fits", 5019, 5020), (32, 2, 6, false, false, "HeapwrightLab$Fits", 5024, 5025)],
  [(63, 4, 0, true, false, "HeapwrightLab$Slabs", 4235, 4236), (23, 4, 1, true, false, "HeapwrightLab$Slabs", 5004, 5005), (15, 4, 4, false, false, "HeapwrightLab$Slabs", 5017, 5018), (39, 4, 6, false, false, "HeapwrightLab$Slabs", 5026, 5027), (9, 4, 13, true, true, "HeapwrightLab$Slabs", 5087, 0)],
  [(9, 5, 0, true, true, "HeapwrightLab$Trace", 4172, 0), (15, 5, 1, true, true, "HeapwrightLab$Trace", 4173, 0), (18, 5, 2, true, true, "HeapwrightLab$Trace", 4174, 0), (21, 5, 3, false, false, "HeapwrightLab$Trace", 4175, 0)],
  [],
  [(10, 7, 0, false, false, "HeapwrightLabLaw$Pool", 5133, 0), (46, 7, 1, true, true, "HeapwrightLabLaw$Pool", 5135, 0), (49, 7, 2, false, false, "HeapwrightLabLaw$Pool", 5136, 0), (65, 7, 3, false, false, "HeapwrightLabLaw$Pool", 5137, 0), (16, 7, 4, false, false, "HeapwrightLabLaw$Pool", 5139, 0), (20, 7, 5, false, false, "HeapwrightLabLaw$Pool", 5140, 0), (23, 7, 6, false, false, "HeapwrightLabLaw$Pool", 5141, 0), (124, 7, 7, false, false, "HeapwrightLabLaw$Pool", 5142, 0), (27, 7, 8, true, true, "HeapwrightLabLaw$Pool", 5143, 0), (30, 7, 9, true, true, "HeapwrightLabLaw$Pool", 5144, 0), (33, 7, 10, true, true, "HeapwrightLabLaw$Pool", 5145, 0), (130, 7, 11, false, false, "HeapwrightLabLaw$Pool", 5146, 0), (107, 7, 12, false, false, "HeapwrightLabLaw$Pool", 5147, 0), (36, 7, 13, false, false, "HeapwrightLabLaw$Pool", 5148, 0), (117, 7, 14, false, false, "HeapwrightLabLaw$Pool", 5149, 0), (39, 7, 15, false, false, "HeapwrightLabLaw$Pool", 5150, 0), (42, 7, 16, false, false, "HeapwrightLabLaw$Pool", 5151, 0)],
  [(14, 7, 0, false, false, "HeapwrightLabLaw$Pool", 5134, 0), (62, 7, 3, false, false, "HeapwrightLabLaw$Pool", 5138, 0)]]
/-- how a method link is called: (place, kind, arguments); kinds 0 virtual, 2 static, 3 static of a nest mate, 4 init, 5 init of a nest mate, 6 Object.<init>, 7 arraycopy -/
def zN : List (List (Nat × Nat × Nat)) := [
  [(83, 0, 0), (70, 0, 1), (87, 0, 0), (107, 0, 1), (113, 0, 0), (144, 0, 1), (123, 0, 1), (147, 0, 1), (117, 0, 1), (155, 0, 1), (138, 0, 0), (158, 0, 0), (162, 0, 0), (165, 0, 1), (168, 0, 1), (169, 0, 1), (178, 0, 0), (181, 0, 0), (184, 0, 0), (128, 0, 1), (80, 2, 1), (189, 0, 1), (192, 0, 0), (52, 2, 1), (103, 0, 1), (197, 2, 2), (141, 0, 0), (131, 0, 0), (208, 0, 0), (211, 0, 0), (214, 0, 0), (217, 0, 0), (175, 0, 0), (220, 2, 2), (172, 0, 1), (3, 6, 0), (11, 5, 0), (18, 4, 1), (36, 4, 0), (43, 4, 0), (67, 0, 0), (74, 0, 2), (96, 0, 0), (99, 0, 3), (110, 0, 1)],
  [(118, 0, 0), (121, 0, 0), (124, 0, 1), (127, 0, 1), (130, 0, 1), (133, 0, 1), (80, 0, 0), (86, 0, 1), (89, 0, 1), (90, 0, 1), (162, 0, 3), (169, 0, 2), (46, 0, 1), (49, 0, 2), (144, 0, 4), (77, 0, 0), (148, 0, 0), (151, 0, 0), (152, 0, 0), (153, 0, 1), (136, 0, 1), (156, 0, 2), (159, 0, 1), (172, 0, 1), (94, 0, 1), (97, 0, 1), (175, 0, 1), (138, 0, 1), (141, 0, 1), (179, 0, 2), (42, 0, 1), (100, 0, 2), (182, 0, 2), (186, 0, 2), (137, 0, 1), (189, 9, 2), (192, 0, 2), (104, 0, 0), (107, 0, 0), (110, 0, 0), (113, 8, 2), (3, 6, 0), (11, 5, 0), (20, 4, 0), (68, 2, 2), (74, 0, 0)],
  [(37, 0, 1), (45, 0, 1), (48, 0, 1), (41, 0, 1), (51, 0, 1), (3, 6, 0), (24, 2, 2)],
  [(22, 8, 2), (3, 6, 0)],
  [(19, 0, 0), (28, 0, 1), (32, 2, 2), (36, 0, 2), (3, 4, 1)],
  [(18, 3, 2), (26, 0, 0), (38, 0, 2), (66, 0, 1), (44, 0, 1), (48, 8, 2), (53, 0, 1), (56, 0, 1), (59, 0, 2), (63, 0, 1), (73, 0, 1), (78, 0, 1), (81, 0, 2), (84, 0, 0), (88, 0, 2), (91, 0, 2), (94, 0, 2), (97, 0, 0), (98, 0, 1), (101, 0, 1), (102, 0, 2), (105, 0, 1), (3, 4, 1)],
  [(19, 3, 2), (27, 0, 1), (33, 0, 1), (36, 0, 2), (42, 8, 2), (47, 0, 1), (57, 2, 2), (67, 0, 0), (73, 0, 1), (76, 0, 1), (79, 0, 1), (80, 0, 1), (50, 0, 1), (53, 0, 2), (3, 4, 1)],
  [(25, 0, 1), (3, 6, 0)],
  [],
  [(1, 6, 0), (9, 4, 0), (52, 0, 0), (55, 3, 2), (61, 3, 2), (68, 0, 1), (72, 0, 3), (127, 0, 1), (133, 0, 1), (100, 0, 0), (83, 0, 1), (79, 0, 2), (97, 0, 1), (86, 8, 2), (91, 7, 5), (104, 0, 1), (110, 0, 3), (136, 0, 3), (120, 0, 0), (139, 0, 1), (142, 0, 1), (146, 0, 1), (149, 0, 1), (173, 0, 1), (175, 0, 1), (150, 0, 2), (114, 9, 2), (154, 0, 1), (177, 0, 2), (157, 0, 2), (160, 0, 1), (162, 0, 1), (179, 0, 0), (167, 0, 0), (182, 0, 0), (170, 0, 0), (184, 0, 0), (164, 0, 0)],
  [(29, 0, 0), (35, 0, 1), (47, 0, 1), (41, 0, 1), (38, 0, 1), (50, 0, 1), (78, 0, 0), (53, 0, 0), (56, 0, 1), (59, 0, 1), (72, 0, 0), (75, 0, 0), (81, 0, 0), (87, 0, 1), (84, 0, 0), (97, 0, 1), (94, 0, 0), (100, 0, 2), (103, 0, 0), (90, 0, 0), (11, 4, 2), (18, 0, 1), (22, 0, 1), (44, 0, 1), (106, 0, 1), (26, 0, 1), (66, 8, 2)]]
/-- what a link comes to: (place, class of the receiver, kind, method, arguments, named method, owner or host, words) -/
def zC : List (List (Nat × Nat × Nat × Nat × Nat × MethodName × String × Nat × Nat × Nat × Nat × Nat × Nat × Nat)) := [
  [(83, 6, 0, 1, 0, ⟨"HeapwrightLab", "present", "()LHeapwrightLab$Memory;"⟩, "", 2023, 2025, 1000, 2002, 0, 0, 0), (70, 6, 0, 2, 1, ⟨"HeapwrightLab", "memoryOf", "(I)LHeapwrightLab$Memory;"⟩, "", 2028, 2030, 1001, 2002, 0, 0, 0), (87, 1, 1, 3, 0, ⟨"HeapwrightLab$Memory", "namesGiven", "()I"⟩, "HeapwrightLab$Memory", 2032, 2034, 2035, 2033, 2004, 2033, 4), (87, 2, 1, 3, 0, ⟨"HeapwrightLab$Memory", "namesGiven", "()I"⟩, "HeapwrightLab$Memory", 2032, 2034, 2036, 2033, 2004, 2033, 4), (87, 4, 1, 3, 0, ⟨"HeapwrightLab$Memory", "namesGiven", "()I"⟩, "HeapwrightLab$Memory", 2032, 2034, 2037, 2033, 2004, 2033, 4), (107, 6, 0, 5, 1, ⟨"HeapwrightLab", "requireName", "(I)V"⟩, "", 2043, 2045, 1002, 2002, 0, 0, 0), (113, 1, 1, 6, 0, ⟨"HeapwrightLab$Memory", "standing", "()LHeapwrightLab$Blocks;"⟩, "HeapwrightLab$Memory", 2117, 2119, 2120, 2118, 2004, 2118, 7), (113, 2, 1, 6, 0, ⟨"HeapwrightLab$Memory", "standing", "()LHeapwrightLab$Blocks;"⟩, "HeapwrightLab$Memory", 2117, 2119, 2121, 2118, 2004, 2118, 7), (113, 4, 1, 6, 0, ⟨"HeapwrightLab$Memory", "standing", "()LHeapwrightLab$Blocks;"⟩, "HeapwrightLab$Memory", 2117, 2119, 2122, 2118, 2004, 2118, 7), (144, 0, 0, 7, 1, ⟨"HeapwrightLab$Blocks", "has", "(I)Z"⟩, "", 2124, 2125, 2126, 2006, 0, 0, 0), (123, 0, 0, 9, 1, ⟨"HeapwrightLab$Blocks", "placeOf", "(I)I"⟩, "", 2132, 2133, 2134, 2006, 0, 0, 0), (147, 0, 0, 11, 1, ⟨"HeapwrightLab$Blocks", "sizeOf", "(I)I"⟩, "", 2141, 2142, 2143, 2006, 0, 0, 0), (117, 0, 0, 13, 1, ⟨"HeapwrightLab$Blocks", "roomOf", "(I)I"⟩, "", 2149, 2150, 2151, 2006, 0, 0, 0), (155, 0, 0, 15, 1, ⟨"HeapwrightLab$Blocks", "nameOver", "(I)I"⟩, "", 2158, 2159, 2160, 2006, 0, 0, 0), (138, 0, 0, 18, 0, ⟨"HeapwrightLab$Blocks", "howMany", "()I"⟩, "", 2171, 2172, 2173, 2006, 0, 0, 0), (158, 1, 1, 20, 0, ⟨"HeapwrightLab$Memory", "gaps", "()LHeapwrightLab$Holes;"⟩, "HeapwrightLab$Memory", 2179, 2181, 2182, 2180, 2004, 2180, 21), (158, 2, 1, 20, 0, ⟨"HeapwrightLab$Memory", "gaps", "()LHeapwrightLab$Holes;"⟩, "HeapwrightLab$Memory", 2179, 2181, 2183, 2180, 2004, 2180, 21), (158, 4, 1, 20, 0, ⟨"HeapwrightLab$Memory", "gaps", "()LHeapwrightLab$Holes;"⟩, "HeapwrightLab$Memory", 2179, 2181, 2184, 2180, 2004, 2180, 21), (162, 3, 0, 21, 0, ⟨"HeapwrightLab$Holes", "howMany", "()I"⟩, "", 2186, 2187, 2188, 2007, 0, 0, 0), (165, 6, 0, 23, 1, ⟨"HeapwrightLab", "requireHole", "(I)V"⟩, "", 2194, 2196, 1004, 2002, 0, 0, 0), (168, 3, 0, 24, 1, ⟨"HeapwrightLab$Holes", "placeOf", "(I)I"⟩, "", 2199, 2200, 2201, 2007, 0, 0, 0), (169, 3, 0, 26, 1, ⟨"HeapwrightLab$Holes", "sizeOf", "(I)I"⟩, "", 2207, 2208, 2209, 2007, 0, 0, 0), (178, 0, 0, 28, 0, ⟨"HeapwrightLab$Blocks", "allRooms", "()I"⟩, "", 2215, 2216, 2217, 2006, 0, 0, 0), (181, 0, 0, 30, 0, ⟨"HeapwrightLab$Blocks", "allSizes", "()I"⟩, "", 2223, 2224, 2225, 2006, 0, 0, 0), (184, 3, 0, 32, 0, ⟨"HeapwrightLab$Holes", "largestSize", "()I"⟩, "", 2232, 2233, 2234, 2007, 0, 0, 0), (128, 1, 1, 34, 1, ⟨"HeapwrightLab$Memory", "countOf", "(I)I"⟩, "HeapwrightLab$Memory", 3019, 3021, 3022, 3020, 2004, 3020, 35), (128, 2, 1, 34, 1, ⟨"HeapwrightLab$Memory", "countOf", "(I)I"⟩, "HeapwrightLab$Memory", 3019, 3021, 3023, 3020, 2004, 3020, 35), (128, 4, 1, 34, 1, ⟨"HeapwrightLab$Memory", "countOf", "(I)I"⟩, "HeapwrightLab$Memory", 3019, 3021, 3024, 3020, 2004, 3020, 35), (80, 0, 2, 37, 1, ⟨"HeapwrightLab", "requireSize", "(I)V"⟩, "", 3036, 3037, 2002, 0, 0, 0, 0), (189, 1, 1, 38, 1, ⟨"HeapwrightLab$Memory", "placeFor", "(I)I"⟩, "HeapwrightLab$Memory", 3040, 3042, 3043, 3041, 2004, 3041, 39), (189, 2, 1, 38, 1, ⟨"HeapwrightLab$Memory", "placeFor", "(I)I"⟩, "HeapwrightLab$Memory", 3040, 3042, 3044, 3041, 2004, 3041, 39), (189, 4, 1, 38, 1, ⟨"HeapwrightLab$Memory", "placeFor", "(I)I"⟩, "HeapwrightLab$Memory", 3040, 3042, 3045, 3041, 2004, 3041, 39), (192, 1, 1, 54, 0, ⟨"HeapwrightLab$Memory", "greatestSize", "()I"⟩, "HeapwrightLab$Memory", 3117, 3119, 3120, 3118, 2004, 3118, 55), (192, 2, 1, 54, 0, ⟨"HeapwrightLab$Memory", "greatestSize", "()I"⟩, "HeapwrightLab$Memory", 3117, 3119, 3121, 3118, 2004, 3118, 55), (192, 4, 1, 54, 0, ⟨"HeapwrightLab$Memory", "greatestSize", "()I"⟩, "HeapwrightLab$Memory", 3117, 3119, 3122, 3118, 2004, 3118, 55), (52, 0, 2, 56, 1, ⟨"HeapwrightLab", "isWay", "(I)Z"⟩, "", 3129, 3130, 2002, 0, 0, 0, 0), (103, 1, 1, 57, 1, ⟨"HeapwrightLab$Memory", "follow", "(LHeapwrightLab$Trace;)LHeapwrightLab$Memory;"⟩, "HeapwrightLab$Memory", 3134, 3136, 3137, 3135, 2004, 3135, 58), (103, 2, 1, 57, 1, ⟨"HeapwrightLab$Memory", "follow", "(LHeapwrightLab$Trace;)LHeapwrightLab$Memory;"⟩, "HeapwrightLab$Memory", 3134, 3136, 3138, 3135, 2004, 3135, 58), (103, 4, 1, 57, 1, ⟨"HeapwrightLab$Memory", "follow", "(LHeapwrightLab$Trace;)LHeapwrightLab$Memory;"⟩, "HeapwrightLab$Memory", 3134, 3136, 3139, 3135, 2004, 3135, 58), (197, 0, 2, 99, 2, ⟨"HeapwrightLab", "isBetter", "(LHeapwrightLab$Memory;LHeapwrightLab$Memory;)Z"⟩, "", 4118, 4119, 2002, 0, 0, 0, 0), (141, 5, 0, 58, 0, ⟨"HeapwrightLab$Trace", "length", "()I"⟩, "", 4127, 3142, 3143, 2003, 0, 0, 0), (131, 1, 1, 101, 0, ⟨"HeapwrightLab$Memory", "arenasOpen", "()I"⟩, "HeapwrightLab$Memory", 4128, 4130, 4131, 4129, 2004, 4129, 102), (131, 2, 1, 101, 0, ⟨"HeapwrightLab$Memory", "arenasOpen", "()I"⟩, "HeapwrightLab$Memory", 4128, 4130, 4132, 4129, 2004, 4129, 102), (131, 4, 1, 101, 0, ⟨"HeapwrightLab$Memory", "arenasOpen", "()I"⟩, "HeapwrightLab$Memory", 4128, 4130, 4133, 4129, 2004, 4129, 102), (208, 6, 0, 27, 0, ⟨"HeapwrightLab", "used", "()I"⟩, "", 4135, 2212, 2213, 2002, 0, 0, 0), (211, 6, 0, 29, 0, ⟨"HeapwrightLab", "wasted", "()I"⟩, "", 4136, 2220, 2221, 2002, 0, 0, 0), (214, 6, 0, 31, 0, ⟨"HeapwrightLab", "largest", "()I"⟩, "", 4137, 2229, 2230, 2002, 0, 0, 0), (217, 6, 0, 35, 0, ⟨"HeapwrightLab", "peak", "()I"⟩, "", 4138, 3029, 3030, 2002, 0, 0, 0), (175, 1, 1, 102, 0, ⟨"HeapwrightLab$Memory", "handPlace", "()I"⟩, "HeapwrightLab$Memory", 4139, 4141, 4142, 4140, 2004, 4140, 103), (175, 2, 1, 102, 0, ⟨"HeapwrightLab$Memory", "handPlace", "()I"⟩, "HeapwrightLab$Memory", 4139, 4141, 4143, 4140, 2004, 4140, 103), (175, 4, 1, 102, 0, ⟨"HeapwrightLab$Memory", "handPlace", "()I"⟩, "HeapwrightLab$Memory", 4139, 4141, 4144, 4140, 2004, 4140, 103), (220, 0, 2, 103, 2, ⟨"HeapwrightLab", "withEverything", "(JLHeapwrightLab$Memory;)J"⟩, "", 4146, 4147, 2002, 0, 0, 0, 0), (172, 1, 1, 104, 1, ⟨"HeapwrightLab$Memory", "classOf", "(I)I"⟩, "HeapwrightLab$Memory", 4149, 4151, 4152, 4150, 2004, 4150, 105), (172, 2, 1, 104, 1, ⟨"HeapwrightLab$Memory", "classOf", "(I)I"⟩, "HeapwrightLab$Memory", 4149, 4151, 4153, 4150, 2004, 4150, 105), (172, 4, 1, 80, 1, ⟨"HeapwrightLab$Memory", "classOf", "(I)I"⟩, "HeapwrightLab$Memory", 4149, 4151, 4154, 4005, 2009, 4150, 105), (3, 0, 6, 0, 0, ⟨"java/lang/Object", "<init>", "()V"⟩, "", 4166, 2073, 0, 0, 0, 0, 0), (11, 0, 5, 107, 0, ⟨"HeapwrightLab$Trace", "<init>", "()V"⟩, "HeapwrightLab", 4168, 4169, 2003, 0, 0, 0, 0), (18, 0, 4, 108, 1, ⟨"HeapwrightLab$Fits", "<init>", "(I)V"⟩, "", 4187, 4188, 2005, 0, 0, 0, 0), (36, 0, 4, 112, 0, ⟨"HeapwrightLab$Buddies", "<init>", "()V"⟩, "", 5064, 5065, 2008, 0, 0, 0, 0), (43, 0, 4, 113, 0, ⟨"HeapwrightLab$Slabs", "<init>", "()V"⟩, "", 5083, 5084, 2009, 0, 0, 0, 0), (67, 5, 0, 120, 0, ⟨"HeapwrightLab$Trace", "forget", "()V"⟩, "", 5210, 5211, 5212, 2003, 0, 0, 0), (74, 1, 1, 121, 2, ⟨"HeapwrightLab$Memory", "beginAnew", "(II)V"⟩, "HeapwrightLab$Memory", 5214, 5216, 5217, 5215, 2004, 5215, 122), (74, 2, 1, 121, 2, ⟨"HeapwrightLab$Memory", "beginAnew", "(II)V"⟩, "HeapwrightLab$Memory", 5214, 5216, 5218, 5215, 2004, 5215, 122), (74, 4, 1, 121, 2, ⟨"HeapwrightLab$Memory", "beginAnew", "(II)V"⟩, "HeapwrightLab$Memory", 5214, 5216, 5219, 5215, 2004, 5215, 122), (96, 6, 0, 135, 0, ⟨"HeapwrightLab", "requireFreeDeed", "()V"⟩, "", 6056, 6058, 1012, 2002, 0, 0, 0), (99, 5, 0, 136, 3, ⟨"HeapwrightLab$Trace", "add", "(III)LHeapwrightLab$Trace;"⟩, "", 6061, 6062, 6063, 2003, 0, 0, 0), (110, 6, 0, 142, 1, ⟨"HeapwrightLab", "requireThere", "(I)V"⟩, "", 6089, 6091, 1013, 2002, 0, 0, 0)],
  [(118, 3, 0, 21, 0, ⟨"HeapwrightLab$Holes", "howMany", "()I"⟩, "", 3026, 2187, 2188, 2007, 0, 0, 0), (121, 3, 0, 32, 0, ⟨"HeapwrightLab$Holes", "largestSize", "()I"⟩, "", 3027, 2233, 2234, 2007, 0, 0, 0), (124, 1, 1, 39, 1, ⟨"HeapwrightLab$Memory", "roomFor", "(I)I"⟩, "HeapwrightLab$Memory", 3047, 3049, 3050, 3051, 2008, 3048, 0), (124, 2, 1, 40, 1, ⟨"HeapwrightLab$Memory", "roomFor", "(I)I"⟩, "HeapwrightLab$Memory", 3047, 3049, 3053, 3054, 2005, 3048, 0), (124, 4, 1, 42, 1, ⟨"HeapwrightLab$Memory", "roomFor", "(I)I"⟩, "HeapwrightLab$Memory", 3047, 3049, 3059, 3060, 2009, 3048, 0), (127, 1, 1, 43, 1, ⟨"HeapwrightLab$Memory", "search", "(I)I"⟩, "HeapwrightLab$Memory", 3063, 3065, 3066, 3067, 2008, 3064, 0), (127, 2, 1, 45, 1, ⟨"HeapwrightLab$Memory", "search", "(I)I"⟩, "HeapwrightLab$Memory", 3063, 3065, 3074, 3075, 2005, 3064, 0), (127, 4, 1, 49, 1, ⟨"HeapwrightLab$Memory", "search", "(I)I"⟩, "HeapwrightLab$Memory", 3063, 3065, 3094, 3095, 2009, 3064, 0), (130, 3, 0, 24, 1, ⟨"HeapwrightLab$Holes", "placeOf", "(I)I"⟩, "", 3112, 2200, 2201, 2007, 0, 0, 0), (133, 1, 1, 38, 1, ⟨"HeapwrightLab$Memory", "placeFor", "(I)I"⟩, "HeapwrightLab$Memory", 3124, 3042, 3043, 3041, 2004, 3041, 39), (133, 2, 1, 38, 1, ⟨"HeapwrightLab$Memory", "placeFor", "(I)I"⟩, "HeapwrightLab$Memory", 3124, 3042, 3044, 3041, 2004, 3041, 39), (133, 4, 1, 38, 1, ⟨"HeapwrightLab$Memory", "placeFor", "(I)I"⟩, "HeapwrightLab$Memory", 3124, 3042, 3045, 3041, 2004, 3041, 39), (80, 5, 0, 58, 0, ⟨"HeapwrightLab$Trace", "length", "()I"⟩, "", 3141, 3142, 3143, 2003, 0, 0, 0), (86, 5, 0, 59, 1, ⟨"HeapwrightLab$Trace", "kindOf", "(I)I"⟩, "", 3145, 3146, 3147, 2003, 0, 0, 0), (89, 5, 0, 61, 1, ⟨"HeapwrightLab$Trace", "sizeOf", "(I)I"⟩, "", 3154, 3155, 3156, 2003, 0, 0, 0), (90, 1, 1, 62, 1, ⟨"HeapwrightLab$Memory", "welcome", "(I)V"⟩, "HeapwrightLab$Memory", 3158, 6133, 0, 3160, 2004, 3160, 63), (90, 2, 1, 62, 1, ⟨"HeapwrightLab$Memory", "welcome", "(I)V"⟩, "HeapwrightLab$Memory", 3158, 6133, 1, 3160, 2004, 3160, 63), (90, 4, 1, 62, 1, ⟨"HeapwrightLab$Memory", "welcome", "(I)V"⟩, "HeapwrightLab$Memory", 3158, 6133, 2, 3160, 2004, 3160, 63), (162, 1, 1, 63, 3, ⟨"HeapwrightLab$Memory", "settle", "(III)Z"⟩, "HeapwrightLab$Memory", 3162, 6134, 3, 3164, 2004, 3164, 64), (162, 2, 1, 63, 3, ⟨"HeapwrightLab$Memory", "settle", "(III)Z"⟩, "HeapwrightLab$Memory", 3162, 6134, 4, 3164, 2004, 3164, 64), (162, 4, 1, 63, 3, ⟨"HeapwrightLab$Memory", "settle", "(III)Z"⟩, "HeapwrightLab$Memory", 3162, 6134, 5, 3164, 2004, 3164, 64), (169, 1, 1, 64, 2, ⟨"HeapwrightLab$Memory", "count", "(II)V"⟩, "HeapwrightLab$Memory", 3166, 3168, 3169, 3167, 2004, 3167, 65), (169, 2, 1, 64, 2, ⟨"HeapwrightLab$Memory", "count", "(II)V"⟩, "HeapwrightLab$Memory", 3166, 3168, 3170, 3167, 2004, 3167, 65), (169, 4, 1, 64, 2, ⟨"HeapwrightLab$Memory", "count", "(II)V"⟩, "HeapwrightLab$Memory", 3166, 3168, 3171, 3167, 2004, 3167, 65), (46, 3, 0, 26, 1, ⟨"HeapwrightLab$Holes", "sizeOf", "(I)I"⟩, "", 3173, 2208, 2209, 2007, 0, 0, 0), (49, 1, 1, 65, 2, ⟨"HeapwrightLab$Memory", "splits", "(II)I"⟩, "HeapwrightLab$Memory", 3174, 3176, 3177, 3178, 2008, 3175, 0), (49, 2, 1, 66, 2, ⟨"HeapwrightLab$Memory", "splits", "(II)I"⟩, "HeapwrightLab$Memory", 3174, 3176, 3180, 3181, 2005, 3175, 0), (49, 4, 1, 67, 2, ⟨"HeapwrightLab$Memory", "splits", "(II)I"⟩, "HeapwrightLab$Memory", 3174, 3176, 3183, 3184, 2009, 3175, 0), (144, 0, 0, 68, 4, ⟨"HeapwrightLab$Blocks", "put", "(IIII)V"⟩, "", 3186, 3187, 3188, 2006, 0, 0, 0), (77, 1, 1, 69, 0, ⟨"HeapwrightLab$Memory", "layOut", "()V"⟩, "HeapwrightLab$Memory", 3190, 3192, 3193, 3191, 2004, 3191, 70), (77, 2, 1, 69, 0, ⟨"HeapwrightLab$Memory", "layOut", "()V"⟩, "HeapwrightLab$Memory", 3190, 3192, 3194, 3191, 2004, 3191, 70), (77, 4, 1, 69, 0, ⟨"HeapwrightLab$Memory", "layOut", "()V"⟩, "HeapwrightLab$Memory", 3190, 3192, 3195, 3191, 2004, 3191, 70), (148, 1, 1, 73, 0, ⟨"HeapwrightLab$Memory", "sortPages", "()V"⟩, "HeapwrightLab$Memory", 3197, 3199, 3200, 3198, 2004, 3198, 74), (148, 2, 1, 73, 0, ⟨"HeapwrightLab$Memory", "sortPages", "()V"⟩, "HeapwrightLab$Memory", 3197, 3199, 3201, 3198, 2004, 3198, 74), (148, 4, 1, 70, 0, ⟨"HeapwrightLab$Memory", "sortPages", "()V"⟩, "HeapwrightLab$Memory", 3197, 3199, 3202, 3203, 2009, 3198, 74), (151, 3, 0, 74, 0, ⟨"HeapwrightLab$Holes", "removeAll", "()V"⟩, "", 3217, 3218, 3219, 2007, 0, 0, 0), (152, 0, 0, 18, 0, ⟨"HeapwrightLab$Blocks", "howMany", "()I"⟩, "", 3221, 2172, 2173, 2006, 0, 0, 0), (153, 0, 0, 72, 1, ⟨"HeapwrightLab$Blocks", "inOrder", "(I)I"⟩, "", 3222, 3210, 3211, 2006, 0, 0, 0), (136, 0, 0, 9, 1, ⟨"HeapwrightLab$Blocks", "placeOf", "(I)I"⟩, "", 3223, 2133, 2134, 2006, 0, 0, 0), (156, 1, 1, 75, 2, ⟨"HeapwrightLab$Memory", "addGap", "(II)V"⟩, "HeapwrightLab$Memory", 3224, 3226, 3227, 3228, 2008, 3225, 0), (156, 2, 1, 78, 2, ⟨"HeapwrightLab$Memory", "addGap", "(II)V"⟩, "HeapwrightLab$Memory", 3224, 3226, 3237, 3238, 2005, 3225, 0), (156, 4, 1, 79, 2, ⟨"HeapwrightLab$Memory", "addGap", "(II)V"⟩, "HeapwrightLab$Memory", 3224, 3226, 4001, 4002, 2009, 3225, 0), (159, 0, 0, 16, 1, ⟨"HeapwrightLab$Blocks", "endOf", "(I)I"⟩, "", 4009, 2164, 2165, 2006, 0, 0, 0), (172, 1, 1, 81, 1, ⟨"HeapwrightLab$Memory", "handBehind", "(I)V"⟩, "HeapwrightLab$Memory", 4010, 4012, 4013, 4011, 2004, 4011, 82), (172, 2, 1, 81, 1, ⟨"HeapwrightLab$Memory", "handBehind", "(I)V"⟩, "HeapwrightLab$Memory", 4010, 4012, 4014, 4011, 2004, 4011, 82), (172, 4, 1, 81, 1, ⟨"HeapwrightLab$Memory", "handBehind", "(I)V"⟩, "HeapwrightLab$Memory", 4010, 4012, 4015, 4011, 2004, 4011, 82), (94, 5, 0, 82, 1, ⟨"HeapwrightLab$Trace", "nameOf", "(I)I"⟩, "", 4017, 4018, 4019, 2003, 0, 0, 0), (97, 1, 1, 83, 1, ⟨"HeapwrightLab$Memory", "release", "(I)V"⟩, "HeapwrightLab$Memory", 4021, 6135, 6, 4023, 2004, 4023, 84), (97, 2, 1, 83, 1, ⟨"HeapwrightLab$Memory", "release", "(I)V"⟩, "HeapwrightLab$Memory", 4021, 6135, 7, 4023, 2004, 4023, 84), (97, 4, 1, 83, 1, ⟨"HeapwrightLab$Memory", "release", "(I)V"⟩, "HeapwrightLab$Memory", 4021, 6135, 8, 4023, 2004, 4023, 84), (175, 0, 0, 7, 1, ⟨"HeapwrightLab$Blocks", "has", "(I)Z"⟩, "", 4025, 2125, 2126, 2006, 0, 0, 0), (138, 0, 0, 13, 1, ⟨"HeapwrightLab$Blocks", "roomOf", "(I)I"⟩, "", 4026, 2150, 2151, 2006, 0, 0, 0), (141, 0, 0, 84, 1, ⟨"HeapwrightLab$Blocks", "remove", "(I)V"⟩, "", 4027, 4028, 4029, 2006, 0, 0, 0), (179, 1, 1, 87, 2, ⟨"HeapwrightLab$Memory", "joins", "(II)I"⟩, "HeapwrightLab$Memory", 4036, 4038, 4039, 4037, 2004, 4037, 88), (179, 2, 1, 86, 2, ⟨"HeapwrightLab$Memory", "joins", "(II)I"⟩, "HeapwrightLab$Memory", 4036, 4038, 4040, 4041, 2005, 4037, 88), (179, 4, 1, 87, 2, ⟨"HeapwrightLab$Memory", "joins", "(II)I"⟩, "HeapwrightLab$Memory", 4036, 4038, 4044, 4037, 2004, 4037, 88), (42, 3, 0, 47, 1, ⟨"HeapwrightLab$Holes", "firstReaching", "(I)I"⟩, "", 4046, 3085, 3086, 2007, 0, 0, 0), (100, 1, 1, 88, 2, ⟨"HeapwrightLab$Memory", "resettle", "(II)V"⟩, "HeapwrightLab$Memory", 4047, 6136, 9, 4049, 2004, 4049, 89), (100, 2, 1, 88, 2, ⟨"HeapwrightLab$Memory", "resettle", "(II)V"⟩, "HeapwrightLab$Memory", 4047, 6136, 10, 4049, 2004, 4049, 89), (100, 4, 1, 88, 2, ⟨"HeapwrightLab$Memory", "resettle", "(II)V"⟩, "HeapwrightLab$Memory", 4047, 6136, 11, 4049, 2004, 4049, 89), (182, 1, 1, 91, 2, ⟨"HeapwrightLab$Memory", "stretches", "(II)Z"⟩, "HeapwrightLab$Memory", 4051, 4053, 4054, 4052, 2004, 4052, 92), (182, 2, 1, 89, 2, ⟨"HeapwrightLab$Memory", "stretches", "(II)Z"⟩, "HeapwrightLab$Memory", 4051, 4053, 4055, 4056, 2005, 4052, 92), (182, 4, 1, 91, 2, ⟨"HeapwrightLab$Memory", "stretches", "(II)Z"⟩, "HeapwrightLab$Memory", 4051, 4053, 4074, 4052, 2004, 4052, 92), (186, 0, 0, 92, 2, ⟨"HeapwrightLab$Blocks", "setSize", "(II)V"⟩, "", 4076, 4077, 4078, 2006, 0, 0, 0), (137, 0, 0, 11, 1, ⟨"HeapwrightLab$Blocks", "sizeOf", "(I)I"⟩, "", 4080, 2142, 2143, 2006, 0, 0, 0), (189, 0, 9, 0, 2, ⟨"java/lang/Math", "min", "(II)I"⟩, "", 4081, 4082, 2015, 4083, 0, 0, 0), (192, 0, 0, 93, 2, ⟨"HeapwrightLab$Blocks", "rename", "(II)V"⟩, "", 4084, 4085, 4086, 2006, 0, 0, 0), (104, 1, 1, 96, 0, ⟨"HeapwrightLab$Memory", "pack", "()V"⟩, "HeapwrightLab$Memory", 4088, 4090, 4091, 4089, 2004, 4089, 97), (104, 2, 1, 94, 0, ⟨"HeapwrightLab$Memory", "pack", "()V"⟩, "HeapwrightLab$Memory", 4088, 4090, 4092, 4093, 2005, 4089, 97), (104, 4, 1, 96, 0, ⟨"HeapwrightLab$Memory", "pack", "()V"⟩, "HeapwrightLab$Memory", 4088, 4090, 4106, 4089, 2004, 4089, 97), (107, 1, 1, 97, 0, ⟨"HeapwrightLab$Memory", "leaveArena", "()V"⟩, "HeapwrightLab$Memory", 4108, 6139, 12, 4110, 2004, 4110, 98), (107, 2, 1, 97, 0, ⟨"HeapwrightLab$Memory", "leaveArena", "()V"⟩, "HeapwrightLab$Memory", 4108, 6139, 13, 4110, 2004, 4110, 98), (107, 4, 1, 97, 0, ⟨"HeapwrightLab$Memory", "leaveArena", "()V"⟩, "HeapwrightLab$Memory", 4108, 6139, 14, 4110, 2004, 4110, 98), (110, 0, 0, 28, 0, ⟨"HeapwrightLab$Blocks", "allRooms", "()I"⟩, "", 4112, 2216, 2217, 2006, 0, 0, 0), (113, 0, 8, 0, 2, ⟨"java/lang/Math", "max", "(II)I"⟩, "", 4113, 2237, 2015, 2238, 0, 0, 0), (3, 0, 6, 0, 0, ⟨"java/lang/Object", "<init>", "()V"⟩, "", 4193, 2073, 0, 0, 0, 0, 0), (11, 0, 5, 110, 0, ⟨"HeapwrightLab$Blocks", "<init>", "()V"⟩, "HeapwrightLab", 4195, 4196, 2006, 0, 0, 0, 0), (20, 0, 4, 111, 0, ⟨"HeapwrightLab$Holes", "<init>", "()V"⟩, "", 4220, 4221, 2007, 0, 0, 0, 0), (68, 0, 2, 71, 2, ⟨"java/util/Arrays", "fill", "([II)V"⟩, "", 5221, 3206, 2014, 0, 0, 0, 0), (74, 0, 0, 122, 0, ⟨"HeapwrightLab$Blocks", "removeAll", "()V"⟩, "", 5222, 5223, 5224, 2006, 0, 0, 0)],
  [(37, 0, 0, 7, 1, ⟨"HeapwrightLab$Blocks", "has", "(I)Z"⟩, "", 2136, 2125, 2126, 2006, 0, 0, 0), (45, 0, 0, 9, 1, ⟨"HeapwrightLab$Blocks", "placeOf", "(I)I"⟩, "", 2162, 2133, 2134, 2006, 0, 0, 0), (48, 0, 0, 16, 1, ⟨"HeapwrightLab$Blocks", "endOf", "(I)I"⟩, "", 2163, 2164, 2165, 2006, 0, 0, 0), (41, 0, 0, 11, 1, ⟨"HeapwrightLab$Blocks", "sizeOf", "(I)I"⟩, "", 2227, 2142, 2143, 2006, 0, 0, 0), (51, 0, 0, 85, 1, ⟨"HeapwrightLab$Blocks", "indexOf", "(I)I"⟩, "", 4031, 4033, 1008, 2006, 0, 0, 0), (3, 0, 6, 0, 0, ⟨"java/lang/Object", "<init>", "()V"⟩, "", 4198, 2073, 0, 0, 0, 0, 0), (24, 0, 2, 71, 2, ⟨"java/util/Arrays", "fill", "([II)V"⟩, "", 5226, 3206, 2014, 0, 0, 0, 0)],
  [(22, 0, 8, 0, 2, ⟨"java/lang/Math", "max", "(II)I"⟩, "", 2236, 2237, 2015, 2238, 0, 0, 0), (3, 0, 6, 0, 0, ⟨"java/lang/Object", "<init>", "()V"⟩, "", 4223, 2073, 0, 0, 0, 0, 0)],
  [(19, 3, 0, 21, 0, ⟨"HeapwrightLab$Holes", "howMany", "()I"⟩, "", 3069, 2187, 2188, 2007, 0, 0, 0), (28, 3, 0, 44, 1, ⟨"HeapwrightLab$Holes", "tightestWith", "(I)I"⟩, "", 3070, 3071, 3072, 2007, 0, 0, 0), (32, 0, 2, 76, 2, ⟨"HeapwrightLab$Buddies", "largestPart", "(II)I"⟩, "", 3230, 3231, 2008, 0, 0, 0, 0), (36, 3, 0, 77, 2, ⟨"HeapwrightLab$Holes", "add", "(II)V"⟩, "", 3233, 3234, 3235, 2007, 0, 0, 0), (3, 0, 4, 109, 1, ⟨"HeapwrightLab$Memory", "<init>", "(I)V"⟩, "", 5067, 4191, 2004, 0, 0, 0, 0)],
  [(18, 0, 3, 41, 2, ⟨"HeapwrightLab", "madeUp", "(II)I"⟩, "HeapwrightLab", 3056, 3057, 2002, 0, 0, 0, 0), (26, 3, 0, 21, 0, ⟨"HeapwrightLab$Holes", "howMany", "()I"⟩, "", 3077, 2187, 2188, 2007, 0, 0, 0), (38, 2, 0, 46, 2, ⟨"HeapwrightLab$Fits", "searchRound", "(II)I"⟩, "", 3078, 3080, 1005, 2005, 0, 0, 0), (66, 3, 0, 26, 1, ⟨"HeapwrightLab$Holes", "sizeOf", "(I)I"⟩, "", 3083, 2208, 2209, 2007, 0, 0, 0), (44, 3, 0, 47, 1, ⟨"HeapwrightLab$Holes", "firstReaching", "(I)I"⟩, "", 3084, 3085, 3086, 2007, 0, 0, 0), (48, 0, 8, 0, 2, ⟨"java/lang/Math", "max", "(II)I"⟩, "", 3088, 2237, 2015, 2238, 0, 0, 0), (53, 3, 0, 44, 1, ⟨"HeapwrightLab$Holes", "tightestWith", "(I)I"⟩, "", 3089, 3071, 3072, 2007, 0, 0, 0), (56, 3, 0, 48, 1, ⟨"HeapwrightLab$Holes", "widestWith", "(I)I"⟩, "", 3090, 3091, 3092, 2007, 0, 0, 0), (59, 3, 0, 77, 2, ⟨"HeapwrightLab$Holes", "add", "(II)V"⟩, "", 4000, 3234, 3235, 2007, 0, 0, 0), (63, 3, 0, 24, 1, ⟨"HeapwrightLab$Holes", "placeOf", "(I)I"⟩, "", 4043, 2200, 2201, 2007, 0, 0, 0), (73, 0, 0, 16, 1, ⟨"HeapwrightLab$Blocks", "endOf", "(I)I"⟩, "", 4058, 2164, 2165, 2006, 0, 0, 0), (78, 0, 0, 13, 1, ⟨"HeapwrightLab$Blocks", "roomOf", "(I)I"⟩, "", 4059, 2150, 2151, 2006, 0, 0, 0), (81, 0, 0, 90, 2, ⟨"HeapwrightLab$Blocks", "setRoom", "(II)V"⟩, "", 4060, 4061, 4062, 2006, 0, 0, 0), (84, 2, 1, 69, 0, ⟨"HeapwrightLab$Fits", "layOut", "()V"⟩, "HeapwrightLab$Memory", 4064, 4065, 4067, 3191, 2004, 3191, 70), (88, 2, 0, 86, 2, ⟨"HeapwrightLab$Fits", "joins", "(II)I"⟩, "", 4068, 4041, 6137, 2005, 0, 0, 0), (91, 2, 1, 64, 2, ⟨"HeapwrightLab$Fits", "count", "(II)V"⟩, "HeapwrightLab$Memory", 4069, 4070, 4072, 3167, 2004, 3167, 65), (94, 2, 0, 66, 2, ⟨"HeapwrightLab$Fits", "splits", "(II)I"⟩, "", 4073, 3181, 6138, 2005, 0, 0, 0), (97, 0, 0, 18, 0, ⟨"HeapwrightLab$Blocks", "howMany", "()I"⟩, "", 4095, 2172, 2173, 2006, 0, 0, 0), (98, 0, 0, 72, 1, ⟨"HeapwrightLab$Blocks", "inOrder", "(I)I"⟩, "", 4096, 3210, 3211, 2006, 0, 0, 0), (101, 0, 0, 9, 1, ⟨"HeapwrightLab$Blocks", "placeOf", "(I)I"⟩, "", 4097, 2133, 2134, 2006, 0, 0, 0), (102, 0, 0, 95, 2, ⟨"HeapwrightLab$Blocks", "setPlace", "(II)V"⟩, "", 4098, 4099, 4100, 2006, 0, 0, 0), (105, 2, 1, 81, 1, ⟨"HeapwrightLab$Fits", "handBehind", "(I)V"⟩, "HeapwrightLab$Memory", 4102, 4103, 4105, 4011, 2004, 4011, 82), (3, 0, 4, 109, 1, ⟨"HeapwrightLab$Memory", "<init>", "(I)V"⟩, "", 4190, 4191, 2004, 0, 0, 0, 0)],
  [(19, 0, 3, 41, 2, ⟨"HeapwrightLab", "madeUp", "(II)I"⟩, "HeapwrightLab", 3062, 3057, 2002, 0, 0, 0, 0), (27, 3, 0, 50, 1, ⟨"HeapwrightLab$Holes", "firstOfSize", "(I)I"⟩, "", 3097, 3098, 3099, 2007, 0, 0, 0), (33, 3, 0, 24, 1, ⟨"HeapwrightLab$Holes", "placeOf", "(I)I"⟩, "", 3101, 2200, 2201, 2007, 0, 0, 0), (36, 4, 0, 51, 2, ⟨"HeapwrightLab$Slabs", "pagesOf", "(II)I"⟩, "", 3102, 3104, 1006, 2009, 0, 0, 0), (42, 0, 8, 0, 2, ⟨"java/lang/Math", "max", "(II)I"⟩, "", 3107, 2237, 2015, 2238, 0, 0, 0), (47, 3, 0, 52, 1, ⟨"HeapwrightLab$Holes", "firstWith", "(I)I"⟩, "", 3108, 3109, 3110, 2007, 0, 0, 0), (57, 0, 2, 71, 2, ⟨"java/util/Arrays", "fill", "([II)V"⟩, "", 3205, 3206, 2014, 0, 0, 0, 0), (67, 0, 0, 18, 0, ⟨"HeapwrightLab$Blocks", "howMany", "()I"⟩, "", 3208, 2172, 2173, 2006, 0, 0, 0), (73, 0, 0, 72, 1, ⟨"HeapwrightLab$Blocks", "inOrder", "(I)I"⟩, "", 3209, 3210, 3211, 2006, 0, 0, 0), (76, 0, 0, 13, 1, ⟨"HeapwrightLab$Blocks", "roomOf", "(I)I"⟩, "", 3213, 2150, 2151, 2006, 0, 0, 0), (79, 0, 0, 9, 1, ⟨"HeapwrightLab$Blocks", "placeOf", "(I)I"⟩, "", 3214, 2133, 2134, 2006, 0, 0, 0), (80, 0, 0, 16, 1, ⟨"HeapwrightLab$Blocks", "endOf", "(I)I"⟩, "", 3215, 2164, 2165, 2006, 0, 0, 0), (50, 4, 0, 80, 1, ⟨"HeapwrightLab$Slabs", "classOf", "(I)I"⟩, "", 4004, 4005, 4006, 2009, 0, 0, 0), (53, 3, 0, 77, 2, ⟨"HeapwrightLab$Holes", "add", "(II)V"⟩, "", 4008, 3234, 3235, 2007, 0, 0, 0), (3, 0, 4, 109, 1, ⟨"HeapwrightLab$Memory", "<init>", "(I)V"⟩, "", 5086, 4191, 2004, 0, 0, 0, 0)],
  [(25, 5, 0, 60, 1, ⟨"HeapwrightLab$Trace", "isDeed", "(I)Z"⟩, "", 3149, 3151, 1007, 2003, 0, 0, 0), (3, 0, 6, 0, 0, ⟨"java/lang/Object", "<init>", "()V"⟩, "", 4171, 2073, 0, 0, 0, 0, 0)],
  [],
  [(1, 0, 6, 0, 0, ⟨"java/lang/Object", "<init>", "()V"⟩, "", 4161, 2073, 0, 0, 0, 0, 0), (9, 0, 4, 106, 0, ⟨"HeapwrightLab", "<init>", "()V"⟩, "", 4163, 4164, 2002, 0, 0, 0, 0), (52, 7, 0, 114, 0, ⟨"HeapwrightLabLaw$Pool", "clear", "()V"⟩, "", 5129, 5130, 5131, 2001, 0, 0, 0), (55, 0, 3, 116, 2, ⟨"HeapwrightLabLaw", "cell", "([II)I"⟩, "HeapwrightLabLaw", 5191, 5192, 2000, 0, 0, 0, 0), (61, 0, 3, 117, 2, ⟨"HeapwrightLabLaw", "below", "(II)I"⟩, "HeapwrightLabLaw", 5195, 5196, 2000, 0, 0, 0, 0), (68, 7, 0, 115, 1, ⟨"HeapwrightLabLaw$Pool", "draw", "(I)I"⟩, "", 5203, 5188, 5189, 2001, 0, 0, 0), (72, 6, 0, 119, 3, ⟨"HeapwrightLab", "reset", "(III)I"⟩, "", 5204, 5205, 5206, 2002, 0, 0, 0), (127, 7, 0, 123, 1, ⟨"HeapwrightLabLaw$Pool", "roomOf", "(I)I"⟩, "", 5235, 5228, 5229, 2001, 0, 0, 0), (133, 7, 0, 125, 1, ⟨"HeapwrightLabLaw$Pool", "take", "(I)I"⟩, "", 5236, 5237, 5238, 2001, 0, 0, 0), (100, 7, 0, 126, 0, ⟨"HeapwrightLabLaw$Pool", "holes", "()[I"⟩, "", 6000, 6001, 6002, 2001, 0, 0, 0), (83, 7, 0, 127, 1, ⟨"HeapwrightLabLaw$Pool", "holeAt", "(I)I"⟩, "", 6004, 6006, 1009, 2001, 0, 0, 0), (79, 7, 0, 128, 2, ⟨"HeapwrightLabLaw$Pool", "isFree", "(II)Z"⟩, "", 6008, 6009, 6010, 2001, 0, 0, 0), (97, 7, 0, 129, 1, ⟨"HeapwrightLabLaw$Pool", "pageClass", "(I)I"⟩, "", 6012, 6013, 6014, 2001, 0, 0, 0), (86, 0, 8, 0, 2, ⟨"java/lang/Math", "max", "(II)I"⟩, "", 6016, 2237, 2015, 2238, 0, 0, 0), (91, 0, 7, 0, 5, ⟨"java/lang/System", "arraycopy", "(Ljava/lang/Object;ILjava/lang/Object;II)V"⟩, "", 6017, 6019, 6018, 2016, 0, 0, 0), (104, 7, 0, 130, 1, ⟨"HeapwrightLabLaw$Pool", "takeSlot", "(I)I"⟩, "", 6020, 6022, 1010, 2001, 0, 0, 0), (110, 7, 0, 131, 3, ⟨"HeapwrightLabLaw$Pool", "fill", "(III)V"⟩, "", 6024, 6025, 6026, 2001, 0, 0, 0), (136, 7, 0, 132, 3, ⟨"HeapwrightLabLaw$Pool", "did", "(III)V"⟩, "", 6028, 6030, 1011, 2001, 0, 0, 0), (120, 7, 0, 133, 0, ⟨"HeapwrightLabLaw$Pool", "used", "()I"⟩, "", 6032, 6033, 6034, 2001, 0, 0, 0), (139, 6, 0, 134, 1, ⟨"HeapwrightLab", "ask", "(I)I"⟩, "", 6036, 6037, 6038, 2002, 0, 0, 0), (142, 6, 0, 4, 1, ⟨"HeapwrightLab", "isThere", "(I)Z"⟩, "", 6065, 2040, 2041, 2002, 0, 0, 0), (146, 6, 0, 8, 1, ⟨"HeapwrightLab", "place", "(I)I"⟩, "", 6066, 2129, 2130, 2002, 0, 0, 0), (149, 7, 0, 138, 1, ⟨"HeapwrightLabLaw$Pool", "place", "(I)I"⟩, "", 6071, 6072, 6073, 2001, 0, 0, 0), (173, 7, 0, 124, 1, ⟨"HeapwrightLabLaw$Pool", "ask", "(I)Z"⟩, "", 6075, 5232, 5233, 2001, 0, 0, 0), (175, 7, 0, 139, 1, ⟨"HeapwrightLabLaw$Pool", "giveBack", "(I)Z"⟩, "", 6076, 6077, 6078, 2001, 0, 0, 0), (150, 7, 0, 140, 2, ⟨"HeapwrightLabLaw$Pool", "give", "(II)V"⟩, "", 6080, 6081, 6082, 2001, 0, 0, 0), (114, 0, 9, 0, 2, ⟨"java/lang/Math", "min", "(II)I"⟩, "", 6084, 4082, 2015, 4083, 0, 0, 0), (154, 6, 0, 141, 1, ⟨"HeapwrightLab", "giveBack", "(I)I"⟩, "", 6085, 6086, 6087, 2002, 0, 0, 0), (177, 7, 0, 143, 2, ⟨"HeapwrightLabLaw$Pool", "resize", "(II)Z"⟩, "", 6094, 6095, 6096, 2001, 0, 0, 0), (157, 6, 0, 144, 2, ⟨"HeapwrightLab", "resize", "(II)I"⟩, "", 6098, 6099, 6100, 2002, 0, 0, 0), (160, 6, 0, 10, 1, ⟨"HeapwrightLab", "size", "(I)I"⟩, "", 6102, 2138, 2139, 2002, 0, 0, 0), (162, 6, 0, 12, 1, ⟨"HeapwrightLab", "room", "(I)I"⟩, "", 6103, 2146, 2147, 2002, 0, 0, 0), (179, 7, 0, 145, 0, ⟨"HeapwrightLabLaw$Pool", "open", "()Z"⟩, "", 6104, 6105, 6106, 2001, 0, 0, 0), (167, 6, 0, 146, 0, ⟨"HeapwrightLab", "open", "()I"⟩, "", 6108, 6109, 6110, 2002, 0, 0, 0), (182, 7, 0, 147, 0, ⟨"HeapwrightLabLaw$Pool", "close", "()Z"⟩, "", 6113, 6114, 6115, 2001, 0, 0, 0), (170, 6, 0, 148, 0, ⟨"HeapwrightLab", "close", "()I"⟩, "", 6117, 6118, 6119, 2002, 0, 0, 0), (184, 7, 0, 149, 0, ⟨"HeapwrightLabLaw$Pool", "together", "()Z"⟩, "", 6122, 6123, 6124, 2001, 0, 0, 0), (164, 6, 0, 150, 0, ⟨"HeapwrightLab", "together", "()I"⟩, "", 6126, 6127, 6128, 2002, 0, 0, 0)],
  [(29, 6, 0, 0, 0, ⟨"HeapwrightLab", "names", "()I"⟩, "", 2019, 2020, 2021, 2002, 0, 0, 0), (35, 6, 0, 4, 1, ⟨"HeapwrightLab", "isThere", "(I)Z"⟩, "", 2039, 2040, 2041, 2002, 0, 0, 0), (47, 6, 0, 8, 1, ⟨"HeapwrightLab", "place", "(I)I"⟩, "", 2128, 2129, 2130, 2002, 0, 0, 0), (41, 6, 0, 10, 1, ⟨"HeapwrightLab", "size", "(I)I"⟩, "", 2137, 2138, 2139, 2002, 0, 0, 0), (38, 6, 0, 12, 1, ⟨"HeapwrightLab", "room", "(I)I"⟩, "", 2145, 2146, 2147, 2002, 0, 0, 0), (50, 6, 0, 14, 1, ⟨"HeapwrightLab", "at", "(I)I"⟩, "", 2153, 2154, 2155, 2002, 0, 0, 0), (78, 6, 0, 17, 0, ⟨"HeapwrightLab", "blocks", "()I"⟩, "", 2167, 2168, 2169, 2002, 0, 0, 0), (53, 6, 0, 19, 0, ⟨"HeapwrightLab", "holes", "()I"⟩, "", 2175, 2176, 2177, 2002, 0, 0, 0), (56, 6, 0, 22, 1, ⟨"HeapwrightLab", "holePlace", "(I)I"⟩, "", 2190, 2191, 2192, 2002, 0, 0, 0), (59, 6, 0, 25, 1, ⟨"HeapwrightLab", "holeSize", "(I)I"⟩, "", 2203, 2204, 2205, 2002, 0, 0, 0), (72, 6, 0, 27, 0, ⟨"HeapwrightLab", "used", "()I"⟩, "", 2211, 2212, 2213, 2002, 0, 0, 0), (75, 6, 0, 29, 0, ⟨"HeapwrightLab", "wasted", "()I"⟩, "", 2219, 2220, 2221, 2002, 0, 0, 0), (81, 6, 0, 31, 0, ⟨"HeapwrightLab", "largest", "()I"⟩, "", 2228, 2229, 2230, 2002, 0, 0, 0), (87, 6, 0, 33, 1, ⟨"HeapwrightLab", "counted", "(I)I"⟩, "", 2239, 3000, 3001, 2002, 0, 0, 0), (84, 6, 0, 35, 0, ⟨"HeapwrightLab", "peak", "()I"⟩, "", 3028, 3029, 3030, 2002, 0, 0, 0), (97, 6, 0, 36, 1, ⟨"HeapwrightLab", "wouldBe", "(I)I"⟩, "", 3032, 3033, 3034, 2002, 0, 0, 0), (94, 6, 0, 53, 0, ⟨"HeapwrightLab", "greatest", "()I"⟩, "", 3113, 3114, 3115, 2002, 0, 0, 0), (100, 6, 0, 55, 2, ⟨"HeapwrightLab", "again", "(II)I"⟩, "", 3125, 3126, 3127, 2002, 0, 0, 0), (103, 6, 0, 98, 0, ⟨"HeapwrightLab", "bestWay", "()I"⟩, "", 4114, 4115, 4116, 2002, 0, 0, 0), (90, 6, 0, 100, 0, ⟨"HeapwrightLab", "digest", "()J"⟩, "", 4121, 4122, 4123, 2002, 0, 0, 0), (11, 0, 4, 105, 2, ⟨"HeapwrightLabLaw$Pool", "<init>", "([II)V"⟩, "", 4158, 4159, 2001, 0, 0, 0, 0), (18, 7, 0, 115, 1, ⟨"HeapwrightLabLaw$Pool", "draw", "(I)I"⟩, "", 5187, 5188, 5189, 2001, 0, 0, 0), (22, 7, 0, 118, 1, ⟨"HeapwrightLabLaw$Pool", "reset", "(I)Z"⟩, "", 5199, 5200, 5201, 2001, 0, 0, 0), (44, 7, 0, 123, 1, ⟨"HeapwrightLabLaw$Pool", "roomOf", "(I)I"⟩, "", 5227, 5228, 5229, 2001, 0, 0, 0), (106, 7, 0, 124, 1, ⟨"HeapwrightLabLaw$Pool", "ask", "(I)Z"⟩, "", 5231, 5232, 5233, 2001, 0, 0, 0), (26, 7, 0, 137, 1, ⟨"HeapwrightLabLaw$Pool", "act", "(I)Z"⟩, "", 6067, 6068, 6069, 2001, 0, 0, 0), (66, 0, 8, 0, 2, ⟨"java/lang/Math", "max", "(II)I"⟩, "", 6131, 2237, 2015, 2238, 0, 0, 0)]]
def zNw : List (List (Nat × Nat × Nat × Nat × Nat)) := [
  [(9, 5, 4167, 3152, 2003), (16, 2, 4186, 3081, 2005), (34, 1, 5062, 5063, 2008), (41, 4, 5082, 3105, 2009)],
  [(9, 0, 4194, 4034, 2006), (18, 3, 4218, 4219, 2007)],
  [],
  [],
  [],
  [],
  [],
  [],
  [],
  [(7, 6, 4162, 2026, 2002)],
  [(9, 7, 4156, 4157, 2001)]]
def zLg : List (List (Nat × Int64 × Nat)) := [[(204, 2657, 4125), (206, 31, 4126)], [], [], [], [], [], [], [], [], [], []]
def zIn : List (List (Nat × Int32 × Nat)) := [[], [], [], [], [], [], [], [], [], [], [(8, 790386105, 5194), (7, 2147483647, 5198)]]
def zLy : List (List Nat) := [[4205, 4207, 4209, 4211, 4213, 4215], [5068, 5069, 5070, 5071, 5072, 5073, 5074, 5075, 5076, 5077, 5078, 5079, 5080], [5035, 5037, 5039, 5041, 5043, 5045, 5047, 5049, 5051, 5053, 5055, 5057, 5059], [4227, 4229, 4231], [5090, 5091, 5092, 5093, 5094, 5095, 5096, 5097, 5098, 5099, 5100, 5101, 5102, 5088], [4176, 4178, 4180, 4182], [5112, 5114, 5116, 5118, 5120, 5122, 5124, 5126], [5152, 5154, 5156, 5158, 5160, 5162, 5164, 5166, 5168, 5170, 5172, 5174, 5176, 5178, 5180, 5182, 5184]]
def zAI : Nat := 4185
def zAL : Nat := 0
def zObj : Nat := 2074
/-- strings: (class, place, text, word) -/
def zSt : List (String × Nat × String × Nat) := [("HeapwrightLab", 226, "no such name", 2090), ("HeapwrightLab", 152, "no such unit", 2157), ("HeapwrightLab", 228, "no such hole", 2198), ("HeapwrightLab", 187, "0 to 4 are counted", 3012), ("HeapwrightLab", 224, "a size is 1 to 300", 3039), ("HeapwrightLab", 58, "a way is 0 to 5", 3132), ("HeapwrightLab", 195, "0 to 7 can be told", 3133), ("HeapwrightLab", 63, "a step is 1, 2, 4 or 8", 5208), ("HeapwrightLab", 65, "a head is 0 to 8", 5209), ("HeapwrightLab", 93, "all names were given", 6049), ("HeapwrightLab", 232, "the trace is full", 6060), ("HeapwrightLab", 230, "the block is not there", 6093), ("HeapwrightLab", 134, "8 arenas are open", 6112), ("HeapwrightLab", 136, "no arena is open", 6121), ("HeapwrightLab", 126, "this way never moves blocks together", 6130)]
/-- throws: (method, place, class, text, links of the class, the text, the constructor, words) -/
def zTh : List (Nat × Nat × String × String × Nat × Nat × Nat × Nat × Nat × Nat) := []
/-- handlers, the first row of each table alone: (method, from, to, handler, link, class, words) -/
def zHd : List (Nat × Nat × Nat × Nat × Nat × String × Nat × Nat) := []
end
section
/-! ===== lists, tables ===== -/
abbrev zE : Type := List Value ⊕ List Value ⊕ (Nat × List Value)
abbrev zW : Type := Bool × List zE
abbrev zSy : Type := List (Int × Int × Option Int32)
abbrev zR : Type := (Option Value ⊕ String) × zW × Nat × Nat
def zfd {α : Type} : List (Nat × α) → Nat → Option α
  | [], _ => none
  | q :: r, k => bif Nat.beq q.1 k then some q.2 else zfd r k
def zfd2 {α : Type} : List (Nat × Nat × α) → Nat → Nat → Option α
  | [], _, _ => none
  | q :: r, a, b => bif (Nat.beq q.1 a && Nat.beq q.2.1 b) then some q.2.2 else zfd2 r a b
def zat {α : Type} : List α → Nat → Option α
  | [], _ => none
  | a :: _, 0 => some a
  | _ :: r, k + 1 => zat r k
def zatL {α : Type} (l : List (List α)) (k : Nat) : List α := match zat l k with
  | some x => x
  | none => []
def zfrc {α : Type} (n : Nat) (f : Nat → α) : α := match n with
  | 0 => f 0
  | k + 1 => f (k + 1)
def zfi {α : Type} (x : Int32) (f : Int32 → α) : α := zfrc x.toBitVec.toNat fun k => f (Int32.ofBitVec (BitVec.ofNat 32 k))
def zfl {α : Type} (x : Int64) (f : Int64 → α) : α := zfrc x.toBitVec.toNat fun k => f (Int64.ofBitVec (BitVec.ofNat 64 k))
def zset {α β : Type} : List α → Nat → α → (List α → Option β) → Option β
  | [], _, _, _ => none
  | _ :: r, 0, v, f => f (v :: r)
  | a :: r, k + 1, v, f => zset r k v fun q => f (a :: q)
def zapp {α β : Type} : List α → α → (List α → Option β) → Option β
  | [], v, f => f [v]
  | a :: r, v, f => zapp r v fun q => f (a :: q)
def zrep {α β : Type} : Nat → α → (List α → Option β) → Option β
  | 0, _, f => f []
  | n + 1, v, f => zrep n v fun q => f (v :: q)
def zlen : Instr → Nat
  | .iload _ => 2 | .lload _ => 2 | .dload _ => 2 | .aload _ => 2 | .istore _ => 2 | .lstore _ => 2 | .dstore _ => 2 | .astore _ => 2
  | .bipush _ => 2 | .newarray _ => 2 | .ldc _ => 2
  | .sipush _ => 3 | .goto _ => 3 | .if_icmp _ _ => 3 | .ifCond _ _ => 3 | .getfield _ => 3 | .putfield _ => 3 | .invokevirtual _ => 3 | .invokespecial _ => 3 | .invokestatic _ => 3 | .new _ => 3 | .ldc2_w _ => 3
  | .iinc _ n => bif (decide (-128 ≤ n) && decide (n ≤ 127)) then 3 else 6
  | _ => 1
-- methods
def zmt (i : Nat) : zMt := match zat zMa i with
  | some x => x
  | none => zLawMt
def zil (i : Nat) : List (Nat × Instr) := zatL zIs i
def zoc (i : Nat) : Nat := (zmt i).2.2.2.2.2.1
def zon (o : Nat) : String := match zat zO o with
  | some x => x
  | none => ""
def zrt (i : Nat) : Option FieldType := (zmt i).2.2.2.1
def zml (i : Nat) : Nat := (zmt i).2.2.1
def zini (i : Nat) : Bool := (zmt i).1.name == "<init>"
def zty (c j : Nat) : FieldType := match zat zct c with
  | some f => f j
  | none => .int
def zcn (c : Nat) : Nat := match zat zcl c with
  | some q => q.2.2
  | none => 0
def zdf (c : Nat) : List Value := (List.range (zcn c)).map fun j => defaultValue (zty c j)
theorem zfrc_eq {α : Type} (n : Nat) (f : Nat → α) : zfrc n f = f n := by cases n <;> rfl
theorem zfi_eq {α : Type} (x : Int32) (f : Int32 → α) : zfi x f = f x := by
  unfold zfi
  rw [zfrc_eq]
  simp
theorem zfl_eq {α : Type} (x : Int64) (f : Int64 → α) : zfl x f = f x := by
  unfold zfl
  rw [zfrc_eq]
  simp
theorem zat_eq {α : Type} (l : List α) (k : Nat) : zat l k = l[k]? := by
  induction l generalizing k with
  | nil => simp [zat]
  | cons a r ih => cases k <;> simp [zat, ih]
theorem zset_spec {α β : Type} {l : List α} {k : Nat} {v : α} {f : List α → Option β} {b : β} (h : zset l k v f = some b) : k < l.length ∧ f (l.set k v) = some b := by
  induction l generalizing k f with
  | nil => simp [zset] at h
  | cons a r ih =>
    cases k with
    | zero => exact ⟨by simp, h⟩
    | succ k =>
      obtain ⟨h1, h2⟩ := ih h
      exact ⟨by simpa using h1, h2⟩
theorem zapp_eq {α β : Type} (l : List α) (v : α) (f : List α → Option β) : zapp l v f = f (l ++ [v]) := by
  induction l generalizing f with
  | nil => rfl
  | cons a r ih => simp [zapp, ih]
theorem zrep_eq {α β : Type} (n : Nat) (v : α) (f : List α → Option β) : zrep n v f = f (List.replicate n v) := by
  induction n generalizing f with
  | zero => rfl
  | succ n ih => simp [zrep, ih, List.replicate_succ]
theorem zfd_mem {α : Type} {l : List (Nat × α)} {k : Nat} {x : α} (h : zfd l k = some x) : (k, x) ∈ l := by
  induction l with
  | nil => simp [zfd] at h
  | cons q r ih =>
    unfold zfd at h
    cases hb : Nat.beq q.1 k with
    | true =>
      rw [hb] at h
      have e := Nat.eq_of_beq_eq_true hb
      cases h
      rw [← e]
      exact List.mem_cons_self
    | false =>
      rw [hb] at h
      exact List.mem_cons_of_mem _ (ih h)
theorem zfd2_mem {α : Type} {l : List (Nat × Nat × α)} {a b : Nat} {x : α} (h : zfd2 l a b = some x) : (a, b, x) ∈ l := by
  induction l with
  | nil => simp [zfd2] at h
  | cons q r ih =>
    unfold zfd2 at h
    cases hb : (Nat.beq q.1 a && Nat.beq q.2.1 b) with
    | true =>
      rw [hb] at h
      rw [Bool.and_eq_true] at hb
      have e := Nat.eq_of_beq_eq_true hb.1
      have e2 := Nat.eq_of_beq_eq_true hb.2
      cases h
      rw [← e, ← e2]
      exact List.mem_cons_self
    | false =>
      rw [hb] at h
      exact List.mem_cons_of_mem _ (ih h)
/-- how a value of the small machine stands for one of the machine: the script's array, the cells from base on, numbers that are variables -/
abbrev zX : Type := Nat × Nat × (Nat → Int32)
def zc (X : zX) : Value → Value
  | .ref 0 => .ref X.1
  | .ref (k + 1) => .ref (X.2.1 + k)
  | .float u => .int (X.2.2 u.toNat)
  | v => v
theorem zatL_mem {α : Type} {tab : List (List α)} {o : Nat} {e : α} (h : e ∈ zatL tab o) : ∃ l, tab[o]? = some l ∧ e ∈ l := by
  unfold zatL at h
  rw [zat_eq] at h
  split at h
  · next x hx => exact ⟨x, hx, h⟩
  · cases h
def zisT : Instr → Bool
  | .tableswitch _ _ _ _ => true
  | _ => false
def zDc (cc : ByteArray) (pc : Nat) (ins : Instr) : Prop := ∃ len, decode cc pc = .ok (ins, len) ∧ (zisT ins = true ∨ len = zlen ins)
theorem zDc.plain {cc : ByteArray} {pc : Nat} {ins : Instr} (h : zDc cc pc ins) (ht : zisT ins = false) : decode cc pc = .ok (ins, zlen ins) := by
  obtain ⟨len, h1, h2 | h2⟩ := h
  · rw [ht] at h2; cases h2
  · rw [← h2]; exact h1
end
section
/-! ===== what the tables say, checked against the claim's words ===== -/
def zG : List Cond := zT.filter goodWord
theorem zT_eq : zT = zBk.flatten := by
  simp only [zT, zBk, lw_tbl, tables_1, List.flatten_cons, List.flatten_nil, List.append_nil, List.append_assoc]
/-- a word by its block and its place there -/
def zwd (i : Nat) : Option Cond := zat (zatL zBk (i / 1000)) (i % 1000)
theorem zwd_mem {i : Nat} {w : Cond} (h : zwd i = some w) : w ∈ zT := by
  unfold zwd at h
  rw [zat_eq] at h
  obtain ⟨l, hl, hw⟩ := zatL_mem (List.mem_of_getElem? h)
  rw [zT_eq]
  exact List.mem_flatten.mpr ⟨l, List.mem_of_getElem? hl, hw⟩
def zin (i : Nat) (w : Cond) : Bool := match zwd i with
  | some w' => decide (w' = w) && goodWord w
  | none => false
theorem zin_mem {i : Nat} {w : Cond} (h : zin i w = true) : w ∈ zG := by
  unfold zin at h
  split at h
  · next w' hw =>
    rw [Bool.and_eq_true, decide_eq_true_eq] at h
    obtain ⟨rfl, h2⟩ := h
    exact List.mem_filter.mpr ⟨zwd_mem hw, h2⟩
  · cases h
theorem zG_good {w : Cond} (h : w ∈ zG) : w ∈ zG ∧ ((w.onTables && w.keeps) = true ∨ ∃ ty, w = .arrayClass ty) := ⟨h, good_of_word (List.mem_filter.mp h).2⟩
/-- words that are kept, though they are no good ones -/
def zxw : Cond → Bool
  | .methodLinkNest _ _ _ _ => true
  | .declares _ => true
  | .castable _ _ => true
  | _ => false
def zXw : List Cond := zT.filter zxw
def zxn (i : Nat) (w : Cond) : Bool := match zwd i with
  | some w' => decide (w' = w) && zxw w
  | none => false
theorem zxn_mem {i : Nat} {w : Cond} (h : zxn i w = true) : w ∈ zXw := by
  unfold zxn at h
  split at h
  · next w' hw =>
    rw [Bool.and_eq_true, decide_eq_true_eq] at h
    obtain ⟨rfl, h2⟩ := h
    exact List.mem_filter.mpr ⟨zwd_mem hw, h2⟩
  · cases h
theorem zxw_tab {w : Cond} (h : zxw w = true) : w.onTables = true := by
  cases w <;> first | rfl | (simp [zxw] at h)
theorem zxw_warm {w : Cond} (h : zxw w = true) {s U : State} (hW : s.WarmedH U.vm) (hZ : va_Nw w s) : va_Nw w U := by
  cases w with
  | methodLinkNest a i x y => exact va_Nw.warmM hW hZ
  | declares x => exact va_Nw.warmD hW hZ
  | castable a b => exact va_Nw.warmC hW hZ
  | _ => simp [zxw] at h
theorem zall_tab {α : Type} (tab : List (List α)) (f : Nat → α → Bool) (h : (List.range tab.length).all (fun o => (zatL tab o).all (f o)) = true) {o : Nat} {e : α} (he : e ∈ zatL tab o) : f o e = true := by
  obtain ⟨l, hl, -⟩ := zatL_mem he
  have ho : o < tab.length := (List.getElem?_eq_some_iff.mp hl).1
  exact List.all_eq_true.mp (List.all_eq_true.mp h o (List.mem_range.mpr ho)) e he
-- classes
def znf : FieldType → Bool
  | .float => false
  | _ => true
theorem zc_def {X : zX} {t : FieldType} (h : znf t = true) : zc X (defaultValue t) = defaultValue t := by
  cases t <;> first | rfl | (simp [znf] at h)
def zclok (c : Nat) (q : vw_C) : Bool := (List.range q.2.2).all (fun k => zin ((zatL zLy c).getD k 0) (u_lay q.1 q.2.1 k) && (decide (parseFieldDescriptor (q.2.1 k).2.2.1 = some (zty c k)) && znf (zty c k)) && (List.range q.2.2).all (fun j => decide (k = j) || !decide ((q.2.1 k).2.1 = (q.2.1 j).2.1)))
set_option maxRecDepth 100000 in
theorem zcl_chk : (List.range zcl.length).all (fun c => match zat zcl c with | some q => zclok c q | none => true) = true := by decide +kernel
theorem zcl_ok {c : Nat} {q : vw_C} (h : zcl[c]? = some q) : zclok c q = true := by
  have h1 := List.all_eq_true.mp zcl_chk c (List.mem_range.mpr (List.getElem?_eq_some_iff.mp h).1)
  rw [zat_eq, h] at h1
  exact h1
theorem zcl_in {c : Nat} {q : vw_C} (h : zcl[c]? = some q) : ∀ w ∈ u_ws q.1 q.2.1 q.2.2, w ∈ zG := by
  intro w hw
  obtain ⟨k, hk, rfl⟩ := List.mem_map.mp hw
  have h1 := List.all_eq_true.mp (zcl_ok h) k hk
  rw [Bool.and_eq_true, Bool.and_eq_true] at h1
  exact zin_mem h1.1.1
theorem zcl_ty {c : Nat} {q : vw_C} (h : zcl[c]? = some q) : ∀ k, k < q.2.2 → parseFieldDescriptor (q.2.1 k).2.2.1 = some (zty c k) := by
  intro k hk
  have h1 := List.all_eq_true.mp (zcl_ok h) k (List.mem_range.mpr hk)
  rw [Bool.and_eq_true, Bool.and_eq_true, Bool.and_eq_true] at h1
  exact of_decide_eq_true h1.1.2.1
theorem zcl_nf {c : Nat} {q : vw_C} (h : zcl[c]? = some q) : ∀ k, k < q.2.2 → znf (zty c k) = true := by
  intro k hk
  have h1 := List.all_eq_true.mp (zcl_ok h) k (List.mem_range.mpr hk)
  rw [Bool.and_eq_true, Bool.and_eq_true, Bool.and_eq_true] at h1
  exact h1.1.2.2
theorem zcl_nm {c : Nat} {q : vw_C} (h : zcl[c]? = some q) : ∀ a, a < q.2.2 → ∀ b, b < q.2.2 → a ≠ b → (q.2.1 a).2.1 ≠ (q.2.1 b).2.1 := by
  intro a ha b hb hab
  have h1 := List.all_eq_true.mp (zcl_ok h) a (List.mem_range.mpr ha)
  rw [Bool.and_eq_true, Bool.and_eq_true] at h1
  have h2 := List.all_eq_true.mp h1.2 b (List.mem_range.mpr hb)
  simp only [Bool.or_eq_true, decide_eq_true_eq, Bool.not_eq_true', decide_eq_false_iff_not] at h2
  exact h2.resolve_left hab
-- fields
def zFok (o : Nat) (e : Nat × Nat × Nat × Bool × Bool × String × Nat × Nat) : Bool := match zat zcl e.2.1 with
  | some q => decide (e.2.2.1 < q.2.2) && zin e.2.2.2.2.2.2.1 (.fieldLink (zon o) e.1 e.2.2.2.2.2.1 (q.2.1 e.2.2.1).2.1 (q.2.1 e.2.2.1).2.2.1) && (decide ((q.2.1 e.2.2.1).1 = e.2.2.2.2.2.1) || zin e.2.2.2.2.2.2.2 (.sameField e.2.2.2.2.2.1 (q.2.1 e.2.2.1).1 (q.2.1 e.2.2.1).2.1 (q.2.1 e.2.2.1).2.2.1)) && decide ((q.2.1 e.2.2.1).2.2.2 = e.2.2.2.1) && (!e.2.2.2.2.1 || decide ((q.2.1 e.2.2.1).1 = zon o))
  | none => false
set_option maxRecDepth 100000 in
theorem zF_chk : (List.range zF.length).all (fun o => (zatL zF o).all (zFok o)) = true := by decide +kernel
theorem zF_ok {o idx ci : Nat} {e : Nat × Bool × Bool × String × Nat × Nat} (h : zfd2 (zatL zF o) idx ci = some e) : ∃ q : vw_C, zcl[ci]? = some q ∧ e.1 < q.2.2 ∧ Cond.fieldLink (zon o) idx e.2.2.2.1 (q.2.1 e.1).2.1 (q.2.1 e.1).2.2.1 ∈ zG ∧ ((q.2.1 e.1).1 = e.2.2.2.1 ∨ Cond.sameField e.2.2.2.1 (q.2.1 e.1).1 (q.2.1 e.1).2.1 (q.2.1 e.1).2.2.1 ∈ zG) ∧ (q.2.1 e.1).2.2.2 = e.2.1 ∧ (e.2.2.1 = true → (q.2.1 e.1).1 = zon o) := by
  have h1 := zall_tab zF zFok zF_chk (zfd2_mem h)
  unfold zFok at h1
  rw [zat_eq] at h1
  cases hq : zcl[ci]? with
  | none => rw [show (idx, ci, e).2.1 = ci from rfl, hq] at h1; cases h1
  | some q =>
    rw [show (idx, ci, e).2.1 = ci from rfl, hq] at h1
    simp only [Bool.and_eq_true, decide_eq_true_eq, Bool.or_eq_true, Bool.not_eq_true'] at h1
    obtain ⟨⟨⟨⟨a1, a2⟩, a3⟩, a4⟩, a5⟩ := h1
    refine ⟨q, rfl, a1, zin_mem a2, ?_, a4, fun z => ?_⟩
    · rcases a3 with a3 | a3
      · exact Or.inl a3
      · exact Or.inr (zin_mem a3)
    · rcases a5 with a5 | a5
      · rw [z] at a5; cases a5
      · exact a5
-- new things
def zNwok (o : Nat) (e : Nat × Nat × Nat × Nat × Nat) : Bool := match zat zcl e.2.1 with
  | some q => zin e.2.2.1 (.classLink (zon o) e.1 q.1) && zin e.2.2.2.1 (.instantiable q.1 q.2.2) && zin e.2.2.2.2 (.initialized q.1)
  | none => false
set_option maxRecDepth 100000 in
theorem zNw_chk : (List.range zNw.length).all (fun o => (zatL zNw o).all (zNwok o)) = true := by decide +kernel
theorem zNw_ok {o idx : Nat} {e : Nat × Nat × Nat × Nat} (h : zfd (zatL zNw o) idx = some e) : ∃ q : vw_C, zcl[e.1]? = some q ∧ Cond.classLink (zon o) idx q.1 ∈ zG ∧ Cond.instantiable q.1 q.2.2 ∈ zG ∧ Cond.initialized q.1 ∈ zG := by
  have h1 := zall_tab zNw zNwok zNw_chk (zfd_mem h)
  unfold zNwok at h1
  rw [zat_eq] at h1
  cases hq : zcl[e.1]? with
  | none => rw [show (idx, e).2.1 = e.1 from rfl, hq] at h1; cases h1
  | some q =>
    rw [show (idx, e).2.1 = e.1 from rfl, hq] at h1
    simp only [Bool.and_eq_true] at h1
    exact ⟨q, rfl, zin_mem h1.1.1, zin_mem h1.1.2, zin_mem h1.2⟩
-- constants
set_option maxRecDepth 100000 in
theorem zLg_chk : (List.range zLg.length).all (fun o => (zatL zLg o).all (fun e => zin e.2.2 (.constantLong (zon o) e.1 e.2.1))) = true := by decide +kernel
theorem zLg_ok {o idx : Nat} {e : Int64 × Nat} (h : zfd (zatL zLg o) idx = some e) : Cond.constantLong (zon o) idx e.1 ∈ zG := zin_mem (zall_tab zLg (fun o e => zin e.2.2 (.constantLong (zon o) e.1 e.2.1)) zLg_chk (zfd_mem h))
set_option maxRecDepth 100000 in
theorem zIn_chk : (List.range zIn.length).all (fun o => (zatL zIn o).all (fun e => zin e.2.2 (.constant (zon o) e.1 e.2.1))) = true := by decide +kernel
theorem zIn_ok {o idx : Nat} {e : Int32 × Nat} (h : zfd (zatL zIn o) idx = some e) : Cond.constant (zon o) idx e.1 ∈ zG := zin_mem (zall_tab zIn (fun o e => zin e.2.2 (.constant (zon o) e.1 e.2.1)) zIn_chk (zfd_mem h))
set_option maxRecDepth 100000 in
theorem zAI_ok : Cond.arrayClass .int ∈ zG := zin_mem (i := zAI) (by decide +kernel)
set_option maxRecDepth 100000 in
theorem zAL_chk : (Nat.beq zAL 0 || zin zAL (.arrayClass .long)) = true := by decide +kernel
theorem zAL_ok (h : Nat.beq zAL 0 = false) : Cond.arrayClass .long ∈ zG := by
  have h1 := zAL_chk
  rw [h, Bool.false_or] at h1
  exact zin_mem h1
-- the code of each method, its instructions
def zcw (i : Nat) : Cond := match (zmt i).2.2.2.2.1 with
  | none => .code (zmt i).1 (zmt i).2.1 (zmt i).2.2.1 (zmt i).2.2.2.1
  | some hh => .codeWith (zmt i).1 (zmt i).2.1 (zmt i).2.2.1 (zmt i).2.2.2.1 hh
set_option maxRecDepth 100000 in
theorem zcw_chk : (List.range zLaw).all (fun i => decide (zon (zoc i) = (zmt i).1.cls) && plainName (zmt i).1.cls && decide ((zmt i).1.cls ≠ "java/lang/invoke/MethodHandle") && decide ((zmt i).1.cls ≠ "java/lang/invoke/VarHandle")) = true := by decide +kernel
theorem zcw_good (i : Nat) : goodWord (zcw i) = true := by
  unfold zcw
  split <;> rfl
def zdB (cc : ByteArray) (e : Nat × Instr) : Bool := match decode cc e.1 with
  | .ok (i2, n) => decide (i2 = e.2) && (zisT e.2 || Nat.beq n (zlen e.2))
  | .error _ => false
theorem zdB_ok {cc : ByteArray} {e : Nat × Instr} (h : zdB cc e = true) : zDc cc e.1 e.2 := by
  unfold zdB at h
  split at h
  · next i2 n hd =>
    simp only [Bool.and_eq_true, decide_eq_true_eq, Bool.or_eq_true] at h
    obtain ⟨rfl, h2⟩ := h
    exact ⟨n, hd, h2.imp id Nat.eq_of_beq_eq_true⟩
  · cases h
end
section
/-! ===== frames and locals, method by method ===== -/
def zFL : List (Nat × Nat) := [(2, 81), (1, 61), (0, 40), (0, 40), (3, 102), (2, 81), (0, 40), (0, 40), (3, 102), (1, 61), (3, 102), (1, 61), (3, 102), (1, 61), (3, 105), (2, 82), (1, 61), (2, 81), (0, 40), (2, 81), (0, 40), (0, 40), (3, 102), (2, 81), (0, 40), (3, 102), (0, 40), (2, 81), (0, 40), (3, 104), (2, 82), (2, 81), (1, 40), (3, 83), (2, 62), (3, 83), (4, 128), (0, 40), (3, 107), (0, 40), (1, 61), (0, 40), (1, 61), (1, 63), (0, 40), (2, 86), (1, 61), (0, 40), (0, 40), (1, 64), (0, 40), (0, 40), (0, 40), (5, 150), (4, 128), (7, 201), (0, 40), (6, 179), (0, 40), (1, 61), (0, 40), (1, 61), (5, 155), (4, 130), (0, 40), (0, 40), (0, 40), (0, 40), (2, 82), (3, 107), (2, 82), (0, 40), (0, 40), (0, 40), (0, 40), (1, 62), (0, 40), (0, 40), (1, 62), (1, 62), (0, 40), (0, 40), (1, 61), (4, 130), (1, 62), (0, 40), (1, 62), (1, 64), (5, 155), (4, 130), (1, 61), (0, 40), (1, 61), (1, 62), (4, 130), (1, 61), (0, 40), (5, 153), (7, 201), (3, 83), (7, 201), (0, 40), (0, 40), (2, 82), (0, 40), (5, 122), (4, 102), (1, 40), (3, 81), (2, 60), (1, 40), (1, 40), (3, 81), (3, 81), (0, 40), (1, 61), (0, 40), (0, 40), (6, 177), (5, 152), (0, 40), (4, 130), (1, 63), (0, 40), (8, 222), (4, 131), (3, 107), (2, 85), (0, 40), (1, 63), (2, 85), (0, 40), (1, 65), (0, 40), (7, 201), (1, 60), (0, 40), (9, 250), (0, 40), (8, 223), (2, 85), (7, 201), (2, 81), (8, 223), (7, 201), (8, 221), (7, 201), (8, 222), (7, 201), (8, 222), (7, 201), (10, 274)]
def zFr (i : Nat) : Nat := match zat zFL i with
  | some q => q.1
  | none => 0
def zLo (i : Nat) : Nat := match zat zFL i with
  | some q => q.2
  | none => 0
def zFc (i idx : Nat) : Bool := (zatL zC (zoc i)).all fun e => !Nat.beq e.1 idx || (bif decide (6 ≤ e.2.2.1) then decide (1 ≤ zFr i) && decide (40 ≤ zLo i) else decide (zFr e.2.2.2.1 + 1 ≤ zFr i) && decide (zml e.2.2.2.1 + 19 + zLo e.2.2.2.1 ≤ zLo i))
def zFi (i : Nat) : Instr → Bool
  | .invokestatic idx => zFc i idx
  | .invokespecial idx => zFc i idx
  | .invokevirtual idx => zFc i idx
  | _ => true
set_option maxRecDepth 100000 in
theorem zFR_chk : (List.range (zLaw + 1)).all (fun i => (zil i).all fun q => zFi i q.2) = true := by decide +kernel
theorem zFR_ok {i idx c : Nat} {e : Nat × Nat × Nat × MethodName × String × Nat × Nat × Nat × Nat × Nat × Nat × Nat} (h : zFc i idx = true) (he : zfd2 (zatL zC (zoc i)) idx c = some e) :
    (6 ≤ e.1 → 1 ≤ zFr i ∧ 40 ≤ zLo i) ∧ (¬ 6 ≤ e.1 → zFr e.2.1 + 1 ≤ zFr i ∧ zml e.2.1 + 19 + zLo e.2.1 ≤ zLo i) := by
  have h1 := List.all_eq_true.mp h _ (zfd2_mem he)
  have hb : Nat.beq idx idx = true := Nat.beq_refl idx
  dsimp only at h1
  rw [hb] at h1
  simp only [Bool.not_true, Bool.false_or] at h1
  by_cases g : 6 ≤ e.1
  · rw [decide_eq_true g] at h1
    simp only [cond_true, Bool.and_eq_true, decide_eq_true_eq] at h1
    exact ⟨fun _ => h1, fun g9 => absurd g g9⟩
  · rw [decide_eq_false g] at h1
    simp only [cond_false, Bool.and_eq_true, decide_eq_true_eq] at h1
    exact ⟨fun g9 => absurd g9 g, fun _ => h1⟩
end
section
def zdA (i : Nat) : Bool := (zil i).all (zdB (zmt i).2.1)
theorem zrng {P : Nat → Bool} {a n i : Nat} (h : (List.range n).all (fun j => P (a + j)) = true) (h1 : a ≤ i) (h2 : i < a + n) : P i = true := by
  have h3 := List.all_eq_true.mp h (i - a) (List.mem_range.mpr (by omega))
  rwa [show a + (i - a) = i by omega] at h3
set_option maxRecDepth 100000 in
theorem zi_chk_0 : (List.range 20).all (fun j => zdA (0 + j)) = true := by decide +kernel
set_option maxRecDepth 100000 in
theorem zi_chk_20 : (List.range 20).all (fun j => zdA (20 + j)) = true := by decide +kernel
set_option maxRecDepth 100000 in
theorem zi_chk_40 : (List.range 20).all (fun j => zdA (40 + j)) = true := by decide +kernel
set_option maxRecDepth 100000 in
theorem zi_chk_60 : (List.range 20).all (fun j => zdA (60 + j)) = true := by decide +kernel
set_option maxRecDepth 100000 in
theorem zi_chk_80 : (List.range 20).all (fun j => zdA (80 + j)) = true := by decide +kernel
set_option maxRecDepth 100000 in
theorem zi_chk_100 : (List.range 20).all (fun j => zdA (100 + j)) = true := by decide +kernel
set_option maxRecDepth 100000 in
theorem zi_chk_120 : (List.range 20).all (fun j => zdA (120 + j)) = true := by decide +kernel
set_option maxRecDepth 100000 in
theorem zi_chk_140 : (List.range 11).all (fun j => zdA (140 + j)) = true := by decide +kernel
set_option maxRecDepth 100000 in
theorem zi_law_chk_0 : ((zi_law.drop 0).take 60).all (zdB code) = true := by decide +kernel
set_option maxRecDepth 100000 in
theorem zi_law_chk_60 : ((zi_law.drop 60).take 60).all (zdB code) = true := by decide +kernel
set_option maxRecDepth 100000 in
theorem zi_law_chk_120 : ((zi_law.drop 120).take 60).all (zdB code) = true := by decide +kernel
set_option maxRecDepth 100000 in
theorem zi_law_chk_180 : ((zi_law.drop 180).take 60).all (zdB code) = true := by decide +kernel
set_option maxRecDepth 100000 in
theorem zi_law_chk_240 : ((zi_law.drop 240).take 60).all (zdB code) = true := by decide +kernel
set_option maxRecDepth 100000 in
theorem zi_law_chk_300 : ((zi_law.drop 300).take 60).all (zdB code) = true := by decide +kernel
set_option maxRecDepth 100000 in
theorem zi_law_chk_360 : ((zi_law.drop 360).take 60).all (zdB code) = true := by decide +kernel
set_option maxRecDepth 100000 in
theorem zi_law_chk_420 : ((zi_law.drop 420).take 60).all (zdB code) = true := by decide +kernel
end
section
theorem zdrop_all {α : Type} {l : List α} {f : α → Bool} {a : Nat} (h1 : ((l.drop a).take 60).all f = true) (h2 : (l.drop (a + 60)).all f = true) : (l.drop a).all f = true := by
  have e : l.drop a = (l.drop a).take 60 ++ l.drop (a + 60) := by
    rw [← List.drop_drop, List.take_append_drop]
  rw [e, List.all_append, h1, h2]
  rfl
set_option maxRecDepth 100000 in
theorem zi_law_end : (zi_law.drop 480).all (zdB code) = true := by
  have e : zi_law.drop 480 = [] := List.drop_eq_nil_of_le (Nat.le_of_ble_eq_true rfl)
  rw [e]
  rfl
theorem zi_law_d_420 : (zi_law.drop 420).all (zdB code) = true := zdrop_all (a := 420) zi_law_chk_420 zi_law_end
theorem zi_law_d_360 : (zi_law.drop 360).all (zdB code) = true := zdrop_all (a := 360) zi_law_chk_360 zi_law_d_420
theorem zi_law_d_300 : (zi_law.drop 300).all (zdB code) = true := zdrop_all (a := 300) zi_law_chk_300 zi_law_d_360
theorem zi_law_d_240 : (zi_law.drop 240).all (zdB code) = true := zdrop_all (a := 240) zi_law_chk_240 zi_law_d_300
theorem zi_law_d_180 : (zi_law.drop 180).all (zdB code) = true := zdrop_all (a := 180) zi_law_chk_180 zi_law_d_240
theorem zi_law_d_120 : (zi_law.drop 120).all (zdB code) = true := zdrop_all (a := 120) zi_law_chk_120 zi_law_d_180
theorem zi_law_d_60 : (zi_law.drop 60).all (zdB code) = true := zdrop_all (a := 60) zi_law_chk_60 zi_law_d_120
theorem zi_law_d_0 : (zi_law.drop 0).all (zdB code) = true := zdrop_all (a := 0) zi_law_chk_0 zi_law_d_60
theorem zi_law_chk : zi_law.all (zdB code) = true := by
  have h := zi_law_d_0
  rwa [List.drop_zero] at h
theorem zil_law : zil 151 = zi_law := rfl
theorem zmt_law : zmt 151 = zLawMt := rfl
theorem zdA_law : zdA 151 = true := by
  unfold zdA
  rw [zil_law, zmt_law]
  exact zi_law_chk
theorem zdA_all (i : Nat) (hi : i ≤ 151) : zdA i = true := by
  by_cases h0 : i < 20
  · exact zrng zi_chk_0 (by omega) (by omega)
  by_cases h20 : i < 40
  · exact zrng zi_chk_20 (by omega) (by omega)
  by_cases h40 : i < 60
  · exact zrng zi_chk_40 (by omega) (by omega)
  by_cases h60 : i < 80
  · exact zrng zi_chk_60 (by omega) (by omega)
  by_cases h80 : i < 100
  · exact zrng zi_chk_80 (by omega) (by omega)
  by_cases h100 : i < 120
  · exact zrng zi_chk_100 (by omega) (by omega)
  by_cases h120 : i < 140
  · exact zrng zi_chk_120 (by omega) (by omega)
  by_cases h140 : i < 151
  · exact zrng zi_chk_140 (by omega) (by omega)
  have e : i = 151 := by omega
  rw [e]
  exact zdA_law
theorem zi_ok {i pc : Nat} {ins : Instr} (h : zfd (zil i) pc = some ins) (hi : i ≤ 151) : zDc (zmt i).2.1 pc ins := by
  have h1 := zdA_all i hi
  unfold zdA at h1
  have h2 : zdB (zmt i).2.1 (pc, ins) = true := List.all_eq_true.mp h1 (pc, ins) (zfd_mem h)
  have h3 : zDc (zmt i).2.1 (pc, ins).1 (pc, ins).2 := zdB_ok (cc := (zmt i).2.1) (e := (pc, ins)) h2
  exact h3
theorem zcw_0 : zcw 0 ∈ zT := zwd_mem (i := 2022) rfl
theorem zcw_1 : zcw 1 ∈ zT := zwd_mem (i := 2027) rfl
theorem zcw_2 : zcw 2 ∈ zT := zwd_mem (i := 2031) rfl
theorem zcw_3 : zcw 3 ∈ zT := zwd_mem (i := 2038) rfl
theorem zcw_4 : zcw 4 ∈ zT := zwd_mem (i := 2042) rfl
theorem zcw_5 : zcw 5 ∈ zT := zwd_mem (i := 2046) rfl
theorem zcw_6 : zcw 6 ∈ zT := zwd_mem (i := 2123) rfl
theorem zcw_7 : zcw 7 ∈ zT := zwd_mem (i := 2127) rfl
theorem zcw_8 : zcw 8 ∈ zT := zwd_mem (i := 2131) rfl
theorem zcw_9 : zcw 9 ∈ zT := zwd_mem (i := 2135) rfl
theorem zcw_10 : zcw 10 ∈ zT := zwd_mem (i := 2140) rfl
theorem zcw_11 : zcw 11 ∈ zT := zwd_mem (i := 2144) rfl
theorem zcw_12 : zcw 12 ∈ zT := zwd_mem (i := 2148) rfl
theorem zcw_13 : zcw 13 ∈ zT := zwd_mem (i := 2152) rfl
theorem zcw_14 : zcw 14 ∈ zT := zwd_mem (i := 2156) rfl
theorem zcw_15 : zcw 15 ∈ zT := zwd_mem (i := 2161) rfl
theorem zcw_16 : zcw 16 ∈ zT := zwd_mem (i := 2166) rfl
theorem zcw_17 : zcw 17 ∈ zT := zwd_mem (i := 2170) rfl
theorem zcw_18 : zcw 18 ∈ zT := zwd_mem (i := 2174) rfl
theorem zcw_19 : zcw 19 ∈ zT := zwd_mem (i := 2178) rfl
theorem zcw_20 : zcw 20 ∈ zT := zwd_mem (i := 2185) rfl
theorem zcw_21 : zcw 21 ∈ zT := zwd_mem (i := 2189) rfl
theorem zcw_22 : zcw 22 ∈ zT := zwd_mem (i := 2193) rfl
theorem zcw_23 : zcw 23 ∈ zT := zwd_mem (i := 2197) rfl
theorem zcw_24 : zcw 24 ∈ zT := zwd_mem (i := 2202) rfl
theorem zcw_25 : zcw 25 ∈ zT := zwd_mem (i := 2206) rfl
theorem zcw_26 : zcw 26 ∈ zT := zwd_mem (i := 2210) rfl
theorem zcw_27 : zcw 27 ∈ zT := zwd_mem (i := 2214) rfl
theorem zcw_28 : zcw 28 ∈ zT := zwd_mem (i := 2218) rfl
theorem zcw_29 : zcw 29 ∈ zT := zwd_mem (i := 2222) rfl
theorem zcw_30 : zcw 30 ∈ zT := zwd_mem (i := 2226) rfl
theorem zcw_31 : zcw 31 ∈ zT := zwd_mem (i := 2231) rfl
theorem zcw_32 : zcw 32 ∈ zT := zwd_mem (i := 2235) rfl
theorem zcw_33 : zcw 33 ∈ zT := zwd_mem (i := 3002) rfl
theorem zcw_34 : zcw 34 ∈ zT := zwd_mem (i := 3025) rfl
theorem zcw_35 : zcw 35 ∈ zT := zwd_mem (i := 3031) rfl
theorem zcw_36 : zcw 36 ∈ zT := zwd_mem (i := 3035) rfl
theorem zcw_37 : zcw 37 ∈ zT := zwd_mem (i := 3038) rfl
theorem zcw_38 : zcw 38 ∈ zT := zwd_mem (i := 3046) rfl
theorem zcw_39 : zcw 39 ∈ zT := zwd_mem (i := 3052) rfl
theorem zcw_40 : zcw 40 ∈ zT := zwd_mem (i := 3055) rfl
theorem zcw_41 : zcw 41 ∈ zT := zwd_mem (i := 3058) rfl
theorem zcw_42 : zcw 42 ∈ zT := zwd_mem (i := 3061) rfl
theorem zcw_43 : zcw 43 ∈ zT := zwd_mem (i := 3068) rfl
theorem zcw_44 : zcw 44 ∈ zT := zwd_mem (i := 3073) rfl
theorem zcw_45 : zcw 45 ∈ zT := zwd_mem (i := 3076) rfl
theorem zcw_46 : zcw 46 ∈ zT := zwd_mem (i := 3082) rfl
theorem zcw_47 : zcw 47 ∈ zT := zwd_mem (i := 3087) rfl
theorem zcw_48 : zcw 48 ∈ zT := zwd_mem (i := 3093) rfl
theorem zcw_49 : zcw 49 ∈ zT := zwd_mem (i := 3096) rfl
theorem zcw_50 : zcw 50 ∈ zT := zwd_mem (i := 3100) rfl
theorem zcw_51 : zcw 51 ∈ zT := zwd_mem (i := 3106) rfl
theorem zcw_52 : zcw 52 ∈ zT := zwd_mem (i := 3111) rfl
theorem zcw_53 : zcw 53 ∈ zT := zwd_mem (i := 3116) rfl
theorem zcw_54 : zcw 54 ∈ zT := zwd_mem (i := 3123) rfl
theorem zcw_55 : zcw 55 ∈ zT := zwd_mem (i := 3128) rfl
theorem zcw_56 : zcw 56 ∈ zT := zwd_mem (i := 3131) rfl
theorem zcw_57 : zcw 57 ∈ zT := zwd_mem (i := 3140) rfl
theorem zcw_58 : zcw 58 ∈ zT := zwd_mem (i := 3144) rfl
theorem zcw_59 : zcw 59 ∈ zT := zwd_mem (i := 3148) rfl
theorem zcw_60 : zcw 60 ∈ zT := zwd_mem (i := 3153) rfl
theorem zcw_61 : zcw 61 ∈ zT := zwd_mem (i := 3157) rfl
theorem zcw_62 : zcw 62 ∈ zT := zwd_mem (i := 3161) rfl
theorem zcw_63 : zcw 63 ∈ zT := zwd_mem (i := 3165) rfl
theorem zcw_64 : zcw 64 ∈ zT := zwd_mem (i := 3172) rfl
theorem zcw_65 : zcw 65 ∈ zT := zwd_mem (i := 3179) rfl
theorem zcw_66 : zcw 66 ∈ zT := zwd_mem (i := 3182) rfl
theorem zcw_67 : zcw 67 ∈ zT := zwd_mem (i := 3185) rfl
theorem zcw_68 : zcw 68 ∈ zT := zwd_mem (i := 3189) rfl
theorem zcw_69 : zcw 69 ∈ zT := zwd_mem (i := 3196) rfl
theorem zcw_70 : zcw 70 ∈ zT := zwd_mem (i := 3204) rfl
theorem zcw_71 : zcw 71 ∈ zT := zwd_mem (i := 3207) rfl
theorem zcw_72 : zcw 72 ∈ zT := zwd_mem (i := 3212) rfl
theorem zcw_73 : zcw 73 ∈ zT := zwd_mem (i := 3216) rfl
theorem zcw_74 : zcw 74 ∈ zT := zwd_mem (i := 3220) rfl
theorem zcw_75 : zcw 75 ∈ zT := zwd_mem (i := 3229) rfl
theorem zcw_76 : zcw 76 ∈ zT := zwd_mem (i := 3232) rfl
theorem zcw_77 : zcw 77 ∈ zT := zwd_mem (i := 3236) rfl
theorem zcw_78 : zcw 78 ∈ zT := zwd_mem (i := 3239) rfl
theorem zcw_79 : zcw 79 ∈ zT := zwd_mem (i := 4003) rfl
theorem zcw_80 : zcw 80 ∈ zT := zwd_mem (i := 4007) rfl
theorem zcw_81 : zcw 81 ∈ zT := zwd_mem (i := 4016) rfl
theorem zcw_82 : zcw 82 ∈ zT := zwd_mem (i := 4020) rfl
theorem zcw_83 : zcw 83 ∈ zT := zwd_mem (i := 4024) rfl
theorem zcw_84 : zcw 84 ∈ zT := zwd_mem (i := 4030) rfl
theorem zcw_85 : zcw 85 ∈ zT := zwd_mem (i := 4035) rfl
theorem zcw_86 : zcw 86 ∈ zT := zwd_mem (i := 4042) rfl
theorem zcw_87 : zcw 87 ∈ zT := zwd_mem (i := 4045) rfl
theorem zcw_88 : zcw 88 ∈ zT := zwd_mem (i := 4050) rfl
theorem zcw_89 : zcw 89 ∈ zT := zwd_mem (i := 4057) rfl
theorem zcw_90 : zcw 90 ∈ zT := zwd_mem (i := 4063) rfl
theorem zcw_91 : zcw 91 ∈ zT := zwd_mem (i := 4075) rfl
theorem zcw_92 : zcw 92 ∈ zT := zwd_mem (i := 4079) rfl
theorem zcw_93 : zcw 93 ∈ zT := zwd_mem (i := 4087) rfl
theorem zcw_94 : zcw 94 ∈ zT := zwd_mem (i := 4094) rfl
theorem zcw_95 : zcw 95 ∈ zT := zwd_mem (i := 4101) rfl
theorem zcw_96 : zcw 96 ∈ zT := zwd_mem (i := 4107) rfl
theorem zcw_97 : zcw 97 ∈ zT := zwd_mem (i := 4111) rfl
theorem zcw_98 : zcw 98 ∈ zT := zwd_mem (i := 4117) rfl
theorem zcw_99 : zcw 99 ∈ zT := zwd_mem (i := 4120) rfl
theorem zcw_100 : zcw 100 ∈ zT := zwd_mem (i := 4124) rfl
theorem zcw_101 : zcw 101 ∈ zT := zwd_mem (i := 4134) rfl
theorem zcw_102 : zcw 102 ∈ zT := zwd_mem (i := 4145) rfl
theorem zcw_103 : zcw 103 ∈ zT := zwd_mem (i := 4148) rfl
theorem zcw_104 : zcw 104 ∈ zT := zwd_mem (i := 4155) rfl
theorem zcw_105 : zcw 105 ∈ zT := zwd_mem (i := 4160) rfl
theorem zcw_106 : zcw 106 ∈ zT := zwd_mem (i := 4165) rfl
theorem zcw_107 : zcw 107 ∈ zT := zwd_mem (i := 4170) rfl
theorem zcw_108 : zcw 108 ∈ zT := zwd_mem (i := 4189) rfl
theorem zcw_109 : zcw 109 ∈ zT := zwd_mem (i := 4192) rfl
theorem zcw_110 : zcw 110 ∈ zT := zwd_mem (i := 4197) rfl
theorem zcw_111 : zcw 111 ∈ zT := zwd_mem (i := 4222) rfl
theorem zcw_112 : zcw 112 ∈ zT := zwd_mem (i := 5066) rfl
theorem zcw_113 : zcw 113 ∈ zT := zwd_mem (i := 5085) rfl
theorem zcw_114 : zcw 114 ∈ zT := zwd_mem (i := 5132) rfl
theorem zcw_115 : zcw 115 ∈ zT := zwd_mem (i := 5190) rfl
theorem zcw_116 : zcw 116 ∈ zT := zwd_mem (i := 5193) rfl
theorem zcw_117 : zcw 117 ∈ zT := zwd_mem (i := 5197) rfl
theorem zcw_118 : zcw 118 ∈ zT := zwd_mem (i := 5202) rfl
theorem zcw_119 : zcw 119 ∈ zT := zwd_mem (i := 5207) rfl
theorem zcw_120 : zcw 120 ∈ zT := zwd_mem (i := 5213) rfl
theorem zcw_121 : zcw 121 ∈ zT := zwd_mem (i := 5220) rfl
theorem zcw_122 : zcw 122 ∈ zT := zwd_mem (i := 5225) rfl
theorem zcw_123 : zcw 123 ∈ zT := zwd_mem (i := 5230) rfl
theorem zcw_124 : zcw 124 ∈ zT := zwd_mem (i := 5234) rfl
theorem zcw_125 : zcw 125 ∈ zT := zwd_mem (i := 5239) rfl
theorem zcw_126 : zcw 126 ∈ zT := zwd_mem (i := 6003) rfl
theorem zcw_127 : zcw 127 ∈ zT := zwd_mem (i := 6007) rfl
theorem zcw_128 : zcw 128 ∈ zT := zwd_mem (i := 6011) rfl
theorem zcw_129 : zcw 129 ∈ zT := zwd_mem (i := 6015) rfl
theorem zcw_130 : zcw 130 ∈ zT := zwd_mem (i := 6023) rfl
theorem zcw_131 : zcw 131 ∈ zT := zwd_mem (i := 6027) rfl
theorem zcw_132 : zcw 132 ∈ zT := zwd_mem (i := 6031) rfl
theorem zcw_133 : zcw 133 ∈ zT := zwd_mem (i := 6035) rfl
theorem zcw_134 : zcw 134 ∈ zT := zwd_mem (i := 6039) rfl
theorem zcw_135 : zcw 135 ∈ zT := zwd_mem (i := 6059) rfl
theorem zcw_136 : zcw 136 ∈ zT := zwd_mem (i := 6064) rfl
theorem zcw_137 : zcw 137 ∈ zT := zwd_mem (i := 6070) rfl
theorem zcw_138 : zcw 138 ∈ zT := zwd_mem (i := 6074) rfl
theorem zcw_139 : zcw 139 ∈ zT := zwd_mem (i := 6079) rfl
theorem zcw_140 : zcw 140 ∈ zT := zwd_mem (i := 6083) rfl
theorem zcw_141 : zcw 141 ∈ zT := zwd_mem (i := 6088) rfl
theorem zcw_142 : zcw 142 ∈ zT := zwd_mem (i := 6092) rfl
theorem zcw_143 : zcw 143 ∈ zT := zwd_mem (i := 6097) rfl
theorem zcw_144 : zcw 144 ∈ zT := zwd_mem (i := 6101) rfl
theorem zcw_145 : zcw 145 ∈ zT := zwd_mem (i := 6107) rfl
theorem zcw_146 : zcw 146 ∈ zT := zwd_mem (i := 6111) rfl
theorem zcw_147 : zcw 147 ∈ zT := zwd_mem (i := 6116) rfl
theorem zcw_148 : zcw 148 ∈ zT := zwd_mem (i := 6120) rfl
theorem zcw_149 : zcw 149 ∈ zT := zwd_mem (i := 6125) rfl
theorem zcw_150 : zcw 150 ∈ zT := zwd_mem (i := 6129) rfl
set_option maxRecDepth 100000 in
theorem zcw_to_40 : ∀ i, i < 40 → zcw i ∈ zT := lt_s (lt_s (lt_s (lt_s (lt_s (lt_s (lt_s (lt_s (lt_s (lt_s (lt_s (lt_s (lt_s (lt_s (lt_s (lt_s (lt_s (lt_s (lt_s (lt_s (lt_s (lt_s (lt_s (lt_s (lt_s (lt_s (lt_s (lt_s (lt_s (lt_s (lt_s (lt_s (lt_s (lt_s (lt_s (lt_s (lt_s (lt_s (lt_s (lt_s (lt_0) zcw_0) zcw_1) zcw_2) zcw_3) zcw_4) zcw_5) zcw_6) zcw_7) zcw_8) zcw_9) zcw_10) zcw_11) zcw_12) zcw_13) zcw_14) zcw_15) zcw_16) zcw_17) zcw_18) zcw_19) zcw_20) zcw_21) zcw_22) zcw_23) zcw_24) zcw_25) zcw_26) zcw_27) zcw_28) zcw_29) zcw_30) zcw_31) zcw_32) zcw_33) zcw_34) zcw_35) zcw_36) zcw_37) zcw_38) zcw_39
set_option maxRecDepth 100000 in
theorem zcw_to_80 : ∀ i, i < 80 → zcw i ∈ zT := lt_s (lt_s (lt_s (lt_s (lt_s (lt_s (lt_s (lt_s (lt_s (lt_s (lt_s (lt_s (lt_s (lt_s (lt_s (lt_s (lt_s (lt_s (lt_s (lt_s (lt_s (lt_s (lt_s (lt_s (lt_s (lt_s (lt_s (lt_s (lt_s (lt_s (lt_s (lt_s (lt_s (lt_s (lt_s (lt_s (lt_s (lt_s (lt_s (lt_s (zcw_to_40) zcw_40) zcw_41) zcw_42) zcw_43) zcw_44) zcw_45) zcw_46) zcw_47) zcw_48) zcw_49) zcw_50) zcw_51) zcw_52) zcw_53) zcw_54) zcw_55) zcw_56) zcw_57) zcw_58) zcw_59) zcw_60) zcw_61) zcw_62) zcw_63) zcw_64) zcw_65) zcw_66) zcw_67) zcw_68) zcw_69) zcw_70) zcw_71) zcw_72) zcw_73) zcw_74) zcw_75) zcw_76) zcw_77) zcw_78) zcw_79
set_option maxRecDepth 100000 in
theorem zcw_to_120 : ∀ i, i < 120 → zcw i ∈ zT := lt_s (lt_s (lt_s (lt_s (lt_s (lt_s (lt_s (lt_s (lt_s (lt_s (lt_s (lt_s (lt_s (lt_s (lt_s (lt_s (lt_s (lt_s (lt_s (lt_s (lt_s (lt_s (lt_s (lt_s (lt_s (lt_s (lt_s (lt_s (lt_s (lt_s (lt_s (lt_s (lt_s (lt_s (lt_s (lt_s (lt_s (lt_s (lt_s (lt_s (zcw_to_80) zcw_80) zcw_81) zcw_82) zcw_83) zcw_84) zcw_85) zcw_86) zcw_87) zcw_88) zcw_89) zcw_90) zcw_91) zcw_92) zcw_93) zcw_94) zcw_95) zcw_96) zcw_97) zcw_98) zcw_99) zcw_100) zcw_101) zcw_102) zcw_103) zcw_104) zcw_105) zcw_106) zcw_107) zcw_108) zcw_109) zcw_110) zcw_111) zcw_112) zcw_113) zcw_114) zcw_115) zcw_116) zcw_117) zcw_118) zcw_119
set_option maxRecDepth 100000 in
theorem zcw_to_151 : ∀ i, i < 151 → zcw i ∈ zT := lt_s (lt_s (lt_s (lt_s (lt_s (lt_s (lt_s (lt_s (lt_s (lt_s (lt_s (lt_s (lt_s (lt_s (lt_s (lt_s (lt_s (lt_s (lt_s (lt_s (lt_s (lt_s (lt_s (lt_s (lt_s (lt_s (lt_s (lt_s (lt_s (lt_s (lt_s (zcw_to_120) zcw_120) zcw_121) zcw_122) zcw_123) zcw_124) zcw_125) zcw_126) zcw_127) zcw_128) zcw_129) zcw_130) zcw_131) zcw_132) zcw_133) zcw_134) zcw_135) zcw_136) zcw_137) zcw_138) zcw_139) zcw_140) zcw_141) zcw_142) zcw_143) zcw_144) zcw_145) zcw_146) zcw_147) zcw_148) zcw_149) zcw_150
theorem zcw_ok {i : Nat} (h : i < zLaw) : zcw i ∈ zG ∧ zon (zoc i) = (zmt i).1.cls ∧ plainName (zmt i).1.cls = true ∧ (zmt i).1.cls ≠ "java/lang/invoke/MethodHandle" ∧ (zmt i).1.cls ≠ "java/lang/invoke/VarHandle" := by
  have h1 := List.all_eq_true.mp zcw_chk i (List.mem_range.mpr h)
  simp only [Bool.and_eq_true, decide_eq_true_eq] at h1
  exact ⟨List.mem_filter.mpr ⟨zcw_to_151 i h, zcw_good i⟩, h1.1.1.1, h1.1.1.2, h1.1.2, h1.2⟩
end
section
/-! ===== a small machine over lists: what a method does, as a function; soundness over the kit's rows stands behind it ===== -/
def zcat2 : Value → Bool
  | .long _ => true
  | .double _ => true
  | _ => false
def zisI : Value → Bool
  | .int _ => true
  | .float _ => true
  | _ => false
def zisA : Value → Bool
  | .ref _ => true
  | .null => true
  | _ => false
def zisL : Value → Bool
  | .long _ => true
  | _ => false
def zisD : Value → Bool
  | .double _ => true
  | _ => false
abbrev zmk : Value := .retAddr 0
def zbad (lv : List Value) : Nat → Bool
  | 0 => false
  | j + 1 => match zat lv j with
    | some v => zcat2 v
    | none => false
def zst1 {β : Type} (lv : List Value) (i : Nat) (v : Value) (f : List Value → Option β) : Option β := bif zbad lv i then none else zset lv i v f
def zst2 {β : Type} (lv : List Value) (i : Nat) (v : Value) (f : List Value → Option β) : Option β := bif zbad lv i then none else zset lv i v fun q => zset q (i + 1) zmk f
def ztg (pc : Nat) (off : Int) : Option Nat := match (pc : Int) + off with
  | .ofNat t => some t
  | .negSucc _ => none
abbrev zSz : Type := zSy × List (Nat × Value × Value × Value)
def ziv (sy : zSz) : Value → Int × Int
  | .int x => (x.toInt, x.toInt)
  | .float u => match zat sy.1 u.toNat with
    | some q => (q.1, q.2.1)
    | none => (-2147483648, 2147483647)
  | _ => (0, 0)
def zlt (a b : Int × Int) : Option Bool := bif decide (a.2 < b.1) then some true else bif decide (b.2 ≤ a.1) then some false else none
def zeq (a b : Int × Int) : Option Bool := bif (decide (a.2 < b.1) || decide (b.2 < a.1)) then some false else bif (decide (a.1 = a.2) && decide (b.1 = b.2)) then some true else none
def znt : Option Bool → Option Bool
  | some b => some (!b)
  | none => none
def zcmp (c : ClassFile.Cond) (a b : Int × Int) : Option Bool := match c with
  | .eq => zeq a b
  | .ne => znt (zeq a b)
  | .lt => zlt a b
  | .ge => znt (zlt a b)
  | .gt => zlt b a
  | .le => znt (zlt b a)
def zld (p : Value → Bool) (lv st : List Value) (i pc : Nat) : Option (Nat × List Value × List Value) := match zat lv i with
  | some v => bif p v then some (pc, lv, v :: st) else none
  | none => none
def zso (p : Value → Bool) (lv st : List Value) (i pc : Nat) : Option (Nat × List Value × List Value) := match st with
  | v :: r => bif p v then zst1 lv i v fun q => some (pc, q, r) else none
  | _ => none
def zso2 (p : Value → Bool) (lv st : List Value) (i pc : Nat) : Option (Nat × List Value × List Value) := match st with
  | v :: r => bif p v then zst2 lv i v fun q => some (pc, q, r) else none
  | _ => none
def zopf (op : Nat) (x y : Int32) : Option Int32 := match op with
  | 0 => some (x + y)
  | 1 => some (x - y)
  | 2 => some (x * y)
  | 3 => bif decide (y = 0) then none else some (x / y)
  | 4 => bif decide (y = 0) then none else some (x - x / y * y)
  | 5 => some (x <<< (y &&& 31))
  | 6 => some (x >>> (y &&& 31))
  | 7 => some (x &&& y)
  | _ => none
def zfact : List (Nat × Value × Value × Value) → Nat → Value → Value → Option Value
  | [], _, _, _ => none
  | f :: r, op, x, y => bif (Nat.beq f.1 op && decide (f.2.1 = x) && decide (f.2.2.1 = y)) then some f.2.2.2 else zfact r op x y
def zbin (op : Nat) (sy : zSz) (lv st : List Value) (pc : Nat) : Option (Nat × List Value × List Value) := match st with
  | .int y :: .int x :: r => match zopf op x y with
    | some v => zfi v fun z => some (pc, lv, .int z :: r)
    | none => none
  | y :: x :: r => match zfact sy.2 op x y with
    | some v => some (pc, lv, v :: r)
    | none => none
  | _ => none
def zbil (f : Int64 → Int64 → Int64) (lv st : List Value) (pc : Nat) : Option (Nat × List Value × List Value) := match st with
  | .long y :: .long x :: r => zfl (f x y) fun z => some (pc, lv, .long z :: r)
  | _ => none
def zbr (o : Option Bool) (t : Option Nat) (pc : Nat) (lv r : List Value) : Option (Nat × List Value × List Value) := match t with
  | some t => match o with
    | some true => some (t, lv, r)
    | some false => some (pc + 3, lv, r)
    | none => none
  | none => none
def zsw (pc : Nat) (dflt lo hi : Int) (offs : Array Int) (x : Int) : Option Nat := bif (decide (x < lo) || decide (hi < x)) then ztg pc dflt else match zat offs.toList (x - lo).toNat with
  | some o => ztg pc o
  | none => none
def znan (x : UInt64) : Bool := decide (x &&& 0x7fffffffffffffff ≤ 0x7ff0000000000000)
def zand (sy : zSz) (lv st : List Value) (pc : Nat) : Option (Nat × List Value × List Value) := match st with
  | .int y :: .float u :: r => bif decide (y = 63) then match zat sy.1 u.toNat with
    | some (_, _, some k) => some (pc, lv, .int k :: r)
    | _ => none
    else zbin 7 sy lv (.int y :: .float u :: r) pc
  | st => zbin 7 sy lv st pc
/-- what moves on the stack alone -/
def zps (sy : zSz) (ins : Instr) (pc : Nat) (lv st : List Value) : Option (Nat × List Value × List Value) :=
  match ins with
  | .iconst n => zfi (Int32.ofInt n) fun z => some (pc + 1, lv, .int z :: st)
  | .bipush n => zfi (Int8.ofInt n).toInt32 fun z => some (pc + 2, lv, .int z :: st)
  | .sipush n => zfi (Int16.ofInt n).toInt32 fun z => some (pc + 3, lv, .int z :: st)
  | .lconst n => zfl (Int64.ofNat (n : Nat)) fun z => some (pc + 1, lv, .long z :: st)
  | .iload i => zld zisI lv st i (pc + 2)
  | .iload_n k => zld zisI lv st k (pc + 1)
  | .lload i => zld zisL lv st i (pc + 2)
  | .lload_n k => zld zisL lv st k (pc + 1)
  | .dload i => zld zisD lv st i (pc + 2)
  | .aload i => zld zisA lv st i (pc + 2)
  | .aload_n k => zld zisA lv st k (pc + 1)
  | .istore i => zso zisI lv st i (pc + 2)
  | .istore_n k => zso zisI lv st k (pc + 1)
  | .astore i => zso zisA lv st i (pc + 2)
  | .astore_n k => zso zisA lv st k (pc + 1)
  | .lstore i => zso2 zisL lv st i (pc + 2)
  | .lstore_n k => zso2 zisL lv st k (pc + 1)
  | .dstore i => zso2 zisD lv st i (pc + 2)
  | .iinc i n => match zat lv i with
    | some (.int x) => zfi (x + Int32.ofInt n) fun z => zst1 lv i (.int z) fun q => some (pc + zlen (.iinc i n), q, st)
    | _ => none
  | .iadd => zbin 0 sy lv st (pc + 1)
  | .isub => zbin 1 sy lv st (pc + 1)
  | .imul => zbin 2 sy lv st (pc + 1)
  | .idiv => zbin 3 sy lv st (pc + 1)
  | .irem => zbin 4 sy lv st (pc + 1)
  | .ishl => zbin 5 sy lv st (pc + 1)
  | .ishr => zbin 6 sy lv st (pc + 1)
  | .iand => zand sy lv st (pc + 1)
  | .ineg => match st with
    | .int x :: r => zfi (-x) fun z => some (pc + 1, lv, .int z :: r)
    | _ => none
  | .ladd => zbil (fun x y => x + y) lv st (pc + 1)
  | .lsub => zbil (fun x y => x - y) lv st (pc + 1)
  | .lmul => zbil (fun x y => x * y) lv st (pc + 1)
  | .i2l => match st with
    | .int x :: r => zfl x.toInt64 fun z => some (pc + 1, lv, .long z :: r)
    | _ => none
  | .lcmp => match st with
    | .long y :: .long x :: r => some (pc + 1, lv, .int (bif decide (y < x) then 1 else bif decide (x = y) then 0 else -1) :: r)
    | _ => none
  | .i2d => match st with
    | .int x :: r => some (pc + 1, lv, .double (FP.i2d x) :: r)
    | _ => none
  | .ddiv => match st with
    | .double y :: .double x :: r => bif znan (FP.ddiv x y) then some (pc + 1, lv, .double (FP.ddiv x y) :: r) else none
    | _ => none
  | .dcmp op => match st with
    | .double y :: .double x :: r => zfi (Op.cmpValue (FP.dcmp x y) op) fun z => some (pc + 1, lv, .int z :: r)
    | _ => none
  | .dconst n => match n with
    | 0 => some (pc + 1, lv, .double FP.dconst0 :: st)
    | 1 => some (pc + 1, lv, .double FP.dconst1 :: st)
  | .dup => match st with
    | v :: r => bif zcat2 v then none else some (pc + 1, lv, v :: v :: r)
    | _ => none
  | .pop => match st with
    | v :: r => bif zcat2 v then none else some (pc + 1, lv, r)
    | _ => none
  | .dup_x1 => match st with
    | v :: u :: r => bif (zcat2 v || zcat2 u) then none else some (pc + 1, lv, v :: u :: v :: r)
    | _ => none
  | .dup2 => match st with
    | v :: u :: r => bif (zcat2 v || zcat2 u) then none else some (pc + 1, lv, v :: u :: v :: u :: r)
    | _ => none
  | .goto off => match ztg pc off with
    | some t => some (t, lv, st)
    | none => none
  | .ifCond cnd off => match st with
    | v :: r => bif zisI v then zbr (zcmp cnd (ziv sy v) (0, 0)) (ztg pc off) pc lv r else none
    | _ => none
  | .if_icmp cnd off => match st with
    | v :: u :: r => bif (zisI v && zisI u) then zbr (zcmp cnd (ziv sy u) (ziv sy v)) (ztg pc off) pc lv r else none
    | _ => none
  | .tableswitch dflt lo hi offs => match st with
    | .int x :: r => match zsw pc dflt lo hi offs x.toInt with
      | some t => some (t, lv, r)
      | none => none
    | _ => none
  | _ => none
def ztv (ty : FieldType) (v : Value) : Bool := match ty with
  | .int => zisI v
  | .boolean => match v with
    | .int x => decide (x = 0) || decide (x = 1)
    | _ => false
  | .object _ => zisA v
  | .array _ => zisA v
  | .long => zisL v
  | _ => false
def zix (l : List Value) (x : Int32) : Option Value := bif decide (x < 0) then none else zat l x.toNatClampNeg
/-- fields, arrays, new things, constants of the pool -/
def zmem (sc : List Value) (i : Nat) (ins : Instr) (pc : Nat) (st : List Value) (w : zW) : Option (Nat × List Value × zW × Nat × Nat) :=
  match ins with
  | .getfield idx => match st with
    | .ref (k + 1) :: r => match zat w.2 k with
      | some (.inr (.inr (c, fs))) => match zfd2 (zatL zF (zoc i)) idx c with
        | some q => match zat fs q.1 with
          | some v => some (pc + 3, v :: r, w, 0, 0)
          | none => none
        | none => none
      | _ => none
    | _ => none
  | .putfield idx => match st with
    | v :: .ref (k + 1) :: r => match zat w.2 k with
      | some (.inr (.inr (c, fs))) => match zfd2 (zatL zF (zoc i)) idx c with
        | some q => bif ((!q.2.1 || (q.2.2.1 && zini i)) && ztv (zty c q.1) v) then zset fs q.1 v fun fs' => zset w.2 k (.inr (.inr (c, fs'))) fun w' => some (pc + 3, r, (w.1, w'), 0, 0) else none
        | none => none
      | _ => none
    | _ => none
  | .iaload => match st with
    | .int x :: .ref a :: r => match a with
      | 0 => match zix sc x with
        | some v => bif zisI v then some (pc + 1, v :: r, w, 0, 0) else none
        | none => none
      | k + 1 => match zat w.2 k with
        | some (.inl l) => match zix l x with
          | some v => some (pc + 1, v :: r, w, 0, 0)
          | none => none
        | _ => none
    | _ => none
  | .iastore => match st with
    | v :: .int x :: .ref (k + 1) :: r => match zat w.2 k with
      | some (.inl l) => bif (zisI v && !decide (x < 0)) then zset l x.toNatClampNeg v fun l' => zset w.2 k (.inl l') fun w' => some (pc + 1, r, (w.1, w'), 0, 0) else none
      | _ => none
    | _ => none
  | .laload => match st with
    | .int x :: .ref (k + 1) :: r => match zat w.2 k with
      | some (.inr (.inl l)) => bif Nat.beq zAL 0 then none else match zix l x with
        | some v => some (pc + 1, v :: r, w, 0, 0)
        | none => none
      | _ => none
    | _ => none
  | .lastore => match st with
    | v :: .int x :: .ref (k + 1) :: r => match zat w.2 k with
      | some (.inr (.inl l)) => bif (!Nat.beq zAL 0 && zisL v && !decide (x < 0)) then zset l x.toNatClampNeg v fun l' => zset w.2 k (.inr (.inl l')) fun w' => some (pc + 1, r, (w.1, w'), 0, 0) else none
      | _ => none
    | _ => none
  | .arraylength => match st with
    | .ref a :: r => match a with
      | 0 => zfi (Int32.ofNat sc.length) fun z => some (pc + 1, .int z :: r, w, 0, 0)
      | k + 1 => match zat w.2 k with
        | some (.inl l) => zfi (Int32.ofNat l.length) fun z => some (pc + 1, .int z :: r, w, 0, 0)
        | some (.inr (.inl l)) => bif Nat.beq zAL 0 then none else zfi (Int32.ofNat l.length) fun z => some (pc + 1, .int z :: r, w, 0, 0)
        | _ => none
    | _ => none
  | .new idx => match zfd (zatL zNw (zoc i)) idx with
    | some q => bif w.1 then none else zfrc (w.2.length) fun n => zapp w.2 (.inr (.inr (q.1, zdf q.1))) fun w' => some (pc + 3, .ref (n + 1) :: st, (w.1, w'), 1, zcn q.1)
    | none => none
  | .newarray ty => match st with
    | .int x :: r => bif (w.1 || decide (x < 0) || decide (60000 < x)) then none else match ty with
      | .int => zfrc x.toNatClampNeg fun m => zrep m (.int 0) fun l => zfrc (w.2.length) fun n => zapp w.2 (.inl l) fun w' => some (pc + 2, .ref (n + 1) :: r, (w.1, w'), 1, m)
      | .long => bif Nat.beq zAL 0 then none else zfrc x.toNatClampNeg fun m => zrep m (.long 0) fun l => zfrc (w.2.length) fun n => zapp w.2 (.inr (.inl l)) fun w' => some (pc + 2, .ref (n + 1) :: r, (w.1, w'), 1, m)
      | _ => none
    | _ => none
  | .ldc2_w idx => match zfd (zatL zLg (zoc i)) idx with
    | some q => zfl q.1 fun z => some (pc + 3, .long z :: st, w, 0, 0)
    | none => none
  | .ldc idx => match zfd (zatL zIn (zoc i)) idx with
    | some q => zfi q.1 fun z => some (pc + 2, .int z :: st, w, 0, 0)
    | none => none
  | _ => none
def zpop : Nat → List Value → List Value → Option (List Value × List Value)
  | 0, st, acc => some (acc, st)
  | n + 1, v :: st, acc => zpop n st (v :: acc)
  | _ + 1, [], _ => none
def zkS (k : Nat) : Bool := Nat.beq k 2 || Nat.beq k 3 || Nat.beq k 7 || Nat.beq k 8 || Nat.beq k 9
def zkI (k : Nat) : Bool := Nat.beq k 4 || Nat.beq k 5 || Nat.beq k 6
def zkV (k : Nat) : Bool := Nat.beq k 0 || Nat.beq k 1
/-- a call: its kind, the method, the arguments, the rest of the stack -/
def zinv (i : Nat) (ins : Instr) (st : List Value) (w : zW) : Option (Nat × Nat × List Value × List Value) :=
  match ins with
  | .invokestatic idx => match zfd (zatL zN (zoc i)) idx with
    | some q => match zpop q.2 st [] with
      | some (as, rest) => match zfd2 (zatL zC (zoc i)) idx 0 with
        | some e => bif zkS e.1 then some (e.1, e.2.1, as, rest) else none
        | none => none
      | none => none
    | none => none
  | .invokespecial idx => match zfd (zatL zN (zoc i)) idx with
    | some q => match zpop q.2 st [] with
      | some (as, .ref (k + 1) :: rest) => match zfd2 (zatL zC (zoc i)) idx 0 with
        | some e => bif zkI e.1 then some (e.1, e.2.1, .ref (k + 1) :: as, rest) else none
        | none => none
      | _ => none
    | none => none
  | .invokevirtual idx => match zfd (zatL zN (zoc i)) idx with
    | some q => match zpop q.2 st [] with
      | some (as, .ref (k + 1) :: rest) => match zat w.2 k with
        | some (.inr (.inr (c, _))) => match zfd2 (zatL zC (zoc i)) idx c with
          | some e => bif zkV e.1 then some (e.1, e.2.1, .ref (k + 1) :: as, rest) else none
          | none => none
        | _ => none
      | _ => none
    | none => none
  | _ => none
def zret (ins : Instr) (rt : Option FieldType) (st : List Value) : Option (Option Value) :=
  match ins with
  | .ireturn => match st with
    | [v] => match rt with
      | some .int => bif zisI v then some (some v) else none
      | some .boolean => bif ztv .boolean v then some (some v) else none
      | _ => none
    | _ => none
  | .lreturn => match st with
    | [v] => match rt with
      | some .long => bif zisL v then some (some v) else none
      | _ => none
    | _ => none
  | .dreturn => match st with
    | [v] => match rt with
      | some .double => bif zisD v then some (some v) else none
      | _ => none
    | _ => none
  | .areturn => match st with
    | [v] => match rt with
      | some (.object _) => bif zisA v then some (some v) else none
      | some (.array _) => bif zisA v then some (some v) else none
      | _ => none
    | _ => none
  | .return_ => match st with
    | [] => match rt with
      | none => some none
      | _ => none
    | _ => none
  | _ => none
def zcpy (la lb : List Value) (sp dp n : Nat) : List Value := bif Nat.beq n 0 then lb else (List.range lb.length).map fun k => bif (decide (dp ≤ k) && decide (k < dp + n)) then la.getD (sp + (k - dp)) .null else lb.getD k .null
/-- System.arraycopy, of int arrays -/
def zcp (as : List Value) (w : zW) : Option zW := match as with
  | [.ref (a + 1), .int sp, .ref (b + 1), .int dp, .int n] => match zat w.2 a with
    | some (.inl la) => match zat w.2 b with
      | some (.inl lb) => bif (decide (sp < 0) || decide (dp < 0) || decide (n < 0) || !decide (sp.toNatClampNeg + n.toNatClampNeg ≤ la.length) || !decide (dp.toNatClampNeg + n.toNatClampNeg ≤ lb.length)) || !(la.all zisI) then none else zset w.2 b (.inl (zcpy la lb sp.toNatClampNeg dp.toNatClampNeg n.toNatClampNeg)) fun w' => some (w.1, w')
      | _ => none
    | _ => none
  | _ => none
/-- Math.max, Math.min -/
def zmx (b : Bool) (sy : zSz) (as : List Value) : Option Value := match as with
  | [x, y] => bif (zisI x && zisI y) then match (bif b then zlt (ziv sy x) (ziv sy y) else zlt (ziv sy y) (ziv sy x)) with
    | some true => some y
    | some false => some x
    | none => none
    else none
  | _ => none
def zsum (l : List Value) : Nat := match l with
  | [] => 0
  | v :: r => (bif zcat2 v then 2 else 1) + zsum r
/-- a throw of this method at this place -/
def zthr (i pc : Nat) : Option String := match zfd2 zTh i pc with
  | some q => some q.1
  | none => none
/-- where an exception goes on: behind the store of the handler, and the local that it was stored in -/
def zhnd (i pc : Nat) (E : String) : Option (Nat × Nat) := match zfd zHd i with
  | some q => bif (decide (q.1 ≤ pc) && decide (pc < q.2.1) && decide (q.2.2.2.2.1 = E)) then match zfd (zil i) q.2.2.1 with
    | some (.astore k) => some (q.2.2.1 + 2, k)
    | some (.astore_n k) => some (q.2.2.1 + 1, (k : Nat))
    | _ => none
    else none
  | none => none
def zhas (i : Nat) : Bool := (zmt i).2.2.2.2.1.isSome
def zloop (sc : List Value) (sy : zSz) (call : Nat → List Value → zW → Option zR) : Nat → Nat → Nat → List Value → List Value → zW → Nat → Nat → Option zR
  | 0, _, _, _, _, _, _, _ => none
  | n + 1, i, pc0, lv, st, w, c, s => zfrc pc0 fun pc =>
    match zfd (zil i) pc with
    | none => none
    | some ins =>
      match zret ins (zrt i) st with
      | some ov => some (.inl ov, w, c, s)
      | none =>
        match zps sy ins pc lv st with
        | some q => zloop sc sy call n i q.1 q.2.1 q.2.2 w c s
        | none =>
          match zmem sc i ins pc st w with
          | some q => zfrc (c + q.2.2.2.1) fun c' => zfrc (s + q.2.2.2.2) fun s' => zloop sc sy call n i q.1 lv q.2.1 q.2.2.1 c' s'
          | none =>
            match zinv i ins st w with
            | some q =>
              bif decide (8 < zsum q.2.2.2) then none else
              match q.1 with
              | 6 => zloop sc sy call n i (pc + 3) lv q.2.2.2 w c s
              | 8 => match zmx true sy q.2.2.1 with
                | some v => zloop sc sy call n i (pc + 3) lv (v :: q.2.2.2) w c s
                | none => none
              | 9 => match zmx false sy q.2.2.1 with
                | some v => zloop sc sy call n i (pc + 3) lv (v :: q.2.2.2) w c s
                | none => none
              | 7 => match zcp q.2.2.1 w with
                | some w' => zloop sc sy call n i (pc + 3) lv q.2.2.2 w' c s
                | none => none
              | _ => match call q.2.1 q.2.2.1 w with
                | none => none
                | some (.inl ov, w', dc, ds) => zfrc (c + dc) fun c' => zfrc (s + ds) fun s' => zloop sc sy call n i (pc + 3) lv (ov.toList ++ q.2.2.2) w' c' s'
                | some (.inr E, w', dc, ds) => match zhnd i pc E with
                  | some h => zst1 lv h.2 zmk fun lv' => zfrc (c + dc) fun c' => zfrc (s + ds) fun s' => zloop sc sy call n i h.1 lv' [] w' c' s'
                  | none => bif zhas i then none else some (.inr E, w', c + dc, s + ds)
            | none =>
              match zthr i pc with
              | some E => match st with
                | [] => bif zhas i then none else some (.inr E, (true, w.2), c + 1, s + 6)
                | _ :: _ => none
              | none => none
/-- the locals at a method's start -/
def zarg : List Value → List Value
  | [] => []
  | v :: r => bif zcat2 v then v :: zmk :: zarg r else v :: zarg r
def zent (n : Nat) (as : List Value) : List Value := zarg as ++ List.replicate (n - (zarg as).length) zmk
def zcall (sc : List Value) (sy : zSz) (N : Nat) : Nat → Nat → List Value → zW → Option zR
  | 0, _, _, _ => none
  | d + 1, j, as, w => bif (decide ((zarg as).length ≤ zml j) && decide (j < zLaw)) then zloop sc sy (zcall sc sy N d) N j 0 (zent (zml j) as) [] w 0 0 else none
end
section
/-! ===== soundness of the small machine: lists, locals, the stack ===== -/
theorem zc_cat (X : zX) (v : Value) : (zc X v).category = v.category := by
  cases v with
  | ref a => cases a <;> rfl
  | _ => rfl
theorem zcat2_iff (v : Value) : zcat2 v = true ↔ v.category = 2 := by cases v <;> simp [zcat2, Value.category]
theorem zcat2_f {v : Value} (h : zcat2 v = false) : v.category = 1 := by cases v <;> simp_all [zcat2, Value.category]
theorem zisI_c {X : zX} {v : Value} (h : zisI v = true) : ∃ x, zc X v = .int x := by
  cases v <;> simp_all [zisI, zc]
theorem zisA_c {X : zX} {v : Value} (h : zisA v = true) : (∃ a, zc X v = .ref a) ∨ zc X v = .null := by
  cases v with
  | ref a => cases a <;> exact Or.inl ⟨_, rfl⟩
  | null => exact Or.inr rfl
  | _ => simp [zisA] at h
theorem zisL_c {X : zX} {v : Value} (h : zisL v = true) : ∃ x, v = .long x ∧ zc X v = .long x := by
  cases v <;> simp_all [zisL, zc]
theorem zisD_c {X : zX} {v : Value} (h : zisD v = true) : ∃ x, v = .double x ∧ zc X v = .double x := by
  cases v <;> simp_all [zisD, zc]
theorem zisI_m {v : Value} (h : zisI v = true) : v ≠ zmk ∧ zcat2 v = false := by cases v <;> simp_all [zisI, zmk, zcat2]
theorem zisA_m {v : Value} (h : zisA v = true) : v ≠ zmk ∧ zcat2 v = false := by cases v <;> simp_all [zisA, zmk, zcat2]
theorem zisL_m {v : Value} (h : zisL v = true) : v ≠ zmk ∧ zcat2 v = true := by cases v <;> simp_all [zisL, zmk, zcat2]
theorem zisD_m {v : Value} (h : zisD v = true) : v ≠ zmk ∧ zcat2 v = true := by cases v <;> simp_all [zisD, zmk, zcat2]
/-- the locals -/
def zPl (X : zX) (lv : List Value) : List (Nat × Value) := (List.range lv.length).filterMap fun i => match lv[i]? with
  | some v => if v = zmk then none else some (i, zc X v)
  | none => none
def zL (X : zX) (ls : Array Slot) (nL : Nat) (lv : List Value) : Prop := lv.length = nL ∧ ls.size = nL ∧ lv_wf ls ∧ ∀ (i : Nat) (v : Value), lv[i]? = some v → v ≠ zmk → ls[i]? = some (.val (zc X v))
theorem zPl_in {X : zX} {lv : List Value} {i : Nat} {v : Value} (h : lv[i]? = some v) (hv : v ≠ zmk) : (i, zc X v) ∈ zPl X lv := by
  unfold zPl
  refine List.mem_filterMap.mpr ⟨i, List.mem_range.mpr (List.getElem?_eq_some_iff.mp h).1, ?_⟩
  simp [h, hv]
theorem zPl_of {X : zX} {lv : List Value} {q : Nat × Value} (h : q ∈ zPl X lv) : ∃ v, lv[q.1]? = some v ∧ v ≠ zmk ∧ q.2 = zc X v := by
  unfold zPl at h
  obtain ⟨i, -, hi⟩ := List.mem_filterMap.mp h
  cases hl : lv[i]? with
  | none => rw [hl] at hi; cases hi
  | some v =>
    rw [hl] at hi
    by_cases hv : v = zmk
    · simp [hv] at hi
    · simp only [hv, if_false] at hi
      cases hi
      exact ⟨v, hl, hv, rfl⟩
theorem zL.has {X : zX} {ls : Array Slot} {nL : Nat} {lv : List Value} (h : zL X ls nL lv) : lv_has ls nL (zPl X lv) := by
  refine ⟨h.2.1, h.2.2.1, fun q hq => ?_⟩
  obtain ⟨v, h1, h2, h3⟩ := zPl_of hq
  rw [h3]
  exact h.2.2.2 _ _ h1 h2
theorem zbad_f {lv : List Value} {i j : Nat} {v : Value} (h : zbad lv i = false) (hj : j + 1 = i) (hv : lv[j]? = some v) : zcat2 v = false := by
  subst hj
  have h' : (match zat lv j with | some v => zcat2 v | none => false) = false := h
  rw [zat_eq, hv] at h'
  exact h'
theorem zst1_spec {β : Type} {lv : List Value} {i : Nat} {v : Value} {f : List Value → Option β} {b : β} (h : zst1 lv i v f = some b) : zbad lv i = false ∧ i < lv.length ∧ f (lv.set i v) = some b := by
  unfold zst1 at h
  cases hb : zbad lv i with
  | true => rw [hb] at h; cases h
  | false =>
    rw [hb] at h
    exact ⟨rfl, zset_spec h⟩
theorem zst2_spec {β : Type} {lv : List Value} {i : Nat} {v : Value} {f : List Value → Option β} {b : β} (h : zst2 lv i v f = some b) : zbad lv i = false ∧ i + 1 < lv.length ∧ f ((lv.set i v).set (i + 1) zmk) = some b := by
  unfold zst2 at h
  cases hb : zbad lv i with
  | true => rw [hb] at h; cases h
  | false =>
    rw [hb] at h
    obtain ⟨-, h1⟩ := zset_spec h
    obtain ⟨h2, h3⟩ := zset_spec h1
    exact ⟨rfl, by simpa using h2, h3⟩
theorem zL.st1 {X : zX} {ls ls' : Array Slot} {nL i : Nat} {lv : List Value} {v V : Value} (h : zL X ls nL lv) (hb : zbad lv i = false) (hV : v = zmk ∨ V = zc X v)
    (hl : lv_has ls' nL ((i, V) :: (zPl X lv).filter (fun q => !(q.1 == i) && !(q.1 + 1 == i && q.2.category == 2)))) : zL X ls' nL (lv.set i v) := by
  refine ⟨by rw [List.length_set]; exact h.1, hl.1, hl.2.1, fun j w hj hw => ?_⟩
  rw [List.getElem?_set] at hj
  by_cases hij : i = j
  · subst hij
    rw [if_pos rfl] at hj
    by_cases hlt : i < lv.length
    · rw [if_pos hlt] at hj
      cases hj
      rcases hV with e | e
      · exact absurd e hw
      · rw [← e]
        exact hl.2.2 (i, V) List.mem_cons_self
    · rw [if_neg hlt] at hj
      cases hj
  · rw [if_neg hij] at hj
    have h1 := zPl_in (X := X) hj hw
    refine hl.2.2 (j, zc X w) (List.mem_cons_of_mem _ (List.mem_filter.mpr ⟨h1, ?_⟩))
    simp only [Bool.and_eq_true, Bool.not_eq_true', beq_eq_false_iff_ne, ne_eq, Bool.and_eq_false_iff]
    refine ⟨fun e => hij e.symm, ?_⟩
    by_cases hj1 : j + 1 = i
    · right
      have := zbad_f hb hj1 hj
      rw [zc_cat, zcat2_f this]
      decide
    · exact Or.inl hj1
theorem zL.st2 {X : zX} {ls ls' : Array Slot} {nL i : Nat} {lv : List Value} {v : Value} (h : zL X ls nL lv) (hb : zbad lv i = false)
    (hl : lv_has ls' nL ((i, zc X v) :: (zPl X lv).filter (fun q => !(q.1 == i) && (!(q.1 == i + 1) && !(q.1 + 1 == i && q.2.category == 2))))) : zL X ls' nL ((lv.set i v).set (i + 1) zmk) := by
  refine ⟨by rw [List.length_set, List.length_set]; exact h.1, hl.1, hl.2.1, fun j w hj hw => ?_⟩
  rw [List.getElem?_set] at hj
  by_cases hij1 : i + 1 = j
  · subst hij1
    rw [if_pos rfl] at hj
    split at hj
    · cases hj; exact absurd rfl hw
    · cases hj
  · rw [if_neg hij1, List.getElem?_set] at hj
    by_cases hij : i = j
    · subst hij
      rw [if_pos rfl] at hj
      split at hj
      · cases hj
        exact hl.2.2 (i, zc X v) List.mem_cons_self
      · cases hj
    · rw [if_neg hij] at hj
      have h1 := zPl_in (X := X) hj hw
      refine hl.2.2 (j, zc X w) (List.mem_cons_of_mem _ (List.mem_filter.mpr ⟨h1, ?_⟩))
      simp only [Bool.and_eq_true, Bool.not_eq_true', beq_eq_false_iff_ne, ne_eq, Bool.and_eq_false_iff]
      refine ⟨fun e => hij e.symm, fun e => hij1 e.symm, ?_⟩
      by_cases hj1 : j + 1 = i
      · right
        have := zbad_f hb hj1 hj
        rw [zc_cat, zcat2_f this]
        decide
      · exact Or.inl hj1
theorem ztg_spec {pc : Nat} {off : Int} {t : Nat} (h : ztg pc off = some t) : (pc : Int) + off = (t : Int) := by
  unfold ztg at h
  split at h
  · next e => cases h; exact e
  · cases h
/-- what is known of the numbers that are variables -/
def zSyOk (X : zX) (sy : zSz) : Prop := (∀ (u : Nat) (q : Int × Int × Option Int32), sy.1[u]? = some q → q.1 ≤ (X.2.2 u).toInt ∧ (X.2.2 u).toInt ≤ q.2.1 ∧ ∀ k, q.2.2 = some k → X.2.2 u &&& 63 = k) ∧
  ∀ f ∈ sy.2, ∃ x y z, zc X f.2.1 = .int x ∧ zc X f.2.2.1 = .int y ∧ zc X f.2.2.2 = .int z ∧ zopf f.1 x y = some z
theorem ziv_ok {X : zX} {sy : zSz} (hs : zSyOk X sy) {v : Value} {x : Int32} (h : zc X v = .int x) (hv : zisI v = true) : (ziv sy v).1 ≤ x.toInt ∧ x.toInt ≤ (ziv sy v).2 := by
  cases v with
  | int y =>
    cases h
    exact ⟨Int.le_refl _, Int.le_refl _⟩
  | float u =>
    have e : X.2.2 u.toNat = x := by
      have : (Value.int (X.2.2 u.toNat)) = .int x := h
      cases this
      rfl
    unfold ziv
    dsimp only
    rw [zat_eq]
    cases hq : sy.1[u.toNat]? with
    | none =>
      have h1 := x.le_toInt
      have h2 := x.toInt_lt
      simp only at h1 h2 ⊢
      omega
    | some q =>
      obtain ⟨h1, h2, -⟩ := hs.1 _ _ hq
      rw [e] at h1 h2
      exact ⟨h1, h2⟩
  | _ => simp [zisI] at hv
def zhold (cnd : ClassFile.Cond) (x y : Int32) : Prop := match cnd with
  | .eq => x = y
  | .ne => ¬ x = y
  | .lt => x < y
  | .ge => y ≤ x
  | .gt => y < x
  | .le => x ≤ y
theorem zlt_ok {a b : Int × Int} {x y : Int} {r : Bool} (h : zlt a b = some r) (h1 : a.1 ≤ x) (h2 : x ≤ a.2) (h3 : b.1 ≤ y) (h4 : y ≤ b.2) : r = true ↔ x < y := by
  unfold zlt at h
  by_cases g : a.2 < b.1
  · simp only [g, decide_true, cond_true, Option.some.injEq] at h
    subst h
    simp; omega
  · simp only [g, decide_false, cond_false] at h
    by_cases g2 : b.2 ≤ a.1
    · simp only [g2, decide_true, cond_true, Option.some.injEq] at h
      subst h
      simp; omega
    · simp only [g2, decide_false, cond_false] at h
      cases h
theorem zeq_ok {a b : Int × Int} {x y : Int} {r : Bool} (h : zeq a b = some r) (h1 : a.1 ≤ x) (h2 : x ≤ a.2) (h3 : b.1 ≤ y) (h4 : y ≤ b.2) : r = true ↔ x = y := by
  unfold zeq at h
  by_cases g : a.2 < b.1 ∨ b.2 < a.1
  · have e : (decide (a.2 < b.1) || decide (b.2 < a.1)) = true := by simpa using g
    rw [e] at h
    simp only [cond_true, Option.some.injEq] at h
    subst h
    simp; omega
  · have e : (decide (a.2 < b.1) || decide (b.2 < a.1)) = false := by simpa using g
    rw [e] at h
    simp only [cond_false] at h
    by_cases g2 : a.1 = a.2 ∧ b.1 = b.2
    · have e2 : (decide (a.1 = a.2) && decide (b.1 = b.2)) = true := by simpa using g2
      rw [e2] at h
      simp only [cond_true, Option.some.injEq] at h
      subst h
      simp; omega
    · have e2 : (decide (a.1 = a.2) && decide (b.1 = b.2)) = false := by
        rw [Bool.eq_false_iff]
        intro q
        rw [Bool.and_eq_true, decide_eq_true_eq, decide_eq_true_eq] at q
        exact g2 q
      rw [e2] at h
      cases h
theorem znt_ok {o : Option Bool} {r : Bool} {P : Prop} (h : znt o = some r) (k : ∀ b, o = some b → (b = true ↔ P)) : r = true ↔ ¬ P := by
  cases o with
  | none => cases h
  | some b =>
    have e := k b rfl
    simp only [znt, Option.some.injEq] at h
    subst h
    rw [← e]
    cases b <;> simp
theorem zcmp_ok {cnd : ClassFile.Cond} {a b : Int × Int} {x y : Int32} {r : Bool} (h : zcmp cnd a b = some r) (ha : a.1 ≤ x.toInt ∧ x.toInt ≤ a.2) (hb : b.1 ≤ y.toInt ∧ y.toInt ≤ b.2) : r = true ↔ zhold cnd x y := by
  have e1 : x = y ↔ x.toInt = y.toInt := Int32.toInt_inj.symm
  cases cnd with
  | eq =>
    show r = true ↔ x = y
    rw [e1]
    exact zeq_ok h ha.1 ha.2 hb.1 hb.2
  | ne =>
    show r = true ↔ ¬ x = y
    rw [e1]
    exact znt_ok h fun b' h' => zeq_ok h' ha.1 ha.2 hb.1 hb.2
  | lt =>
    show r = true ↔ x < y
    rw [Int32.lt_iff_toInt_lt]
    exact zlt_ok h ha.1 ha.2 hb.1 hb.2
  | ge =>
    show r = true ↔ y ≤ x
    rw [Int32.le_iff_toInt_le, ← Int.not_lt]
    exact znt_ok h fun b' h' => zlt_ok h' ha.1 ha.2 hb.1 hb.2
  | gt =>
    show r = true ↔ y < x
    rw [Int32.lt_iff_toInt_lt]
    exact zlt_ok h hb.1 hb.2 ha.1 ha.2
  | le =>
    show r = true ↔ x ≤ y
    rw [Int32.le_iff_toInt_le, ← Int.not_lt]
    exact znt_ok h fun b' h' => zlt_ok h' hb.1 hb.2 ha.1 ha.2
theorem zld_spec {p : Value → Bool} {lv st : List Value} {i pc : Nat} {q : Nat × List Value × List Value} (h : zld p lv st i pc = some q) : ∃ v, lv[i]? = some v ∧ p v = true ∧ q = (pc, lv, v :: st) := by
  unfold zld at h
  rw [zat_eq] at h
  cases hl : lv[i]? with
  | none => rw [hl] at h; cases h
  | some v =>
    rw [hl] at h
    cases hp : p v with
    | false => simp [hp] at h
    | true =>
      simp only [hp, cond_true, Option.some.injEq] at h
      exact ⟨v, rfl, hp, h.symm⟩
theorem zso_spec {p : Value → Bool} {lv st : List Value} {i pc : Nat} {q : Nat × List Value × List Value} (h : zso p lv st i pc = some q) : ∃ v r, st = v :: r ∧ p v = true ∧ zbad lv i = false ∧ i < lv.length ∧ q = (pc, lv.set i v, r) := by
  unfold zso at h
  split at h
  · next v r =>
    cases hp : p v with
    | false => simp [hp] at h
    | true =>
      simp only [hp, cond_true] at h
      obtain ⟨h1, h2, h3⟩ := zst1_spec h
      exact ⟨v, r, rfl, hp, h1, h2, (Option.some.inj h3).symm⟩
  · cases h
theorem zso2_spec {p : Value → Bool} {lv st : List Value} {i pc : Nat} {q : Nat × List Value × List Value} (h : zso2 p lv st i pc = some q) : ∃ v r, st = v :: r ∧ p v = true ∧ zbad lv i = false ∧ i + 1 < lv.length ∧ q = (pc, (lv.set i v).set (i + 1) zmk, r) := by
  unfold zso2 at h
  split at h
  · next v r =>
    cases hp : p v with
    | false => simp [hp] at h
    | true =>
      simp only [hp, cond_true] at h
      obtain ⟨h1, h2, h3⟩ := zst2_spec h
      exact ⟨v, r, rfl, hp, h1, h2, (Option.some.inj h3).symm⟩
  · cases h
theorem zfact_mem {l : List (Nat × Value × Value × Value)} {op : Nat} {x y v : Value} (h : zfact l op x y = some v) : (op, x, y, v) ∈ l := by
  induction l with
  | nil => cases h
  | cons f r ih =>
    unfold zfact at h
    cases hc : (Nat.beq f.1 op && decide (f.2.1 = x) && decide (f.2.2.1 = y)) with
    | true =>
      rw [hc] at h
      simp only [Bool.and_eq_true, decide_eq_true_eq] at hc
      obtain ⟨⟨h1, h2⟩, h3⟩ := hc
      have h1 := Nat.eq_of_beq_eq_true h1
      cases h
      obtain ⟨a, b, c, d⟩ := f
      subst h1 h2 h3
      exact List.mem_cons_self
    | false =>
      rw [hc] at h
      exact List.mem_cons_of_mem _ (ih h)
theorem zbin_spec {X : zX} {op : Nat} {sy : zSz} (hs : zSyOk X sy) {lv st : List Value} {pc : Nat} {q : Nat × List Value × List Value} (h : zbin op sy lv st pc = some q) : ∃ a b v r x y z, st = b :: a :: r ∧ zc X a = .int x ∧ zc X b = .int y ∧ zc X v = .int z ∧ zopf op x y = some z ∧ q = (pc, lv, v :: r) := by
  unfold zbin at h
  split at h
  · next y x r =>
    split at h
    · next v hv =>
      rw [zfi_eq] at h
      exact ⟨.int x, .int y, .int v, r, x, y, v, rfl, rfl, rfl, rfl, hv, (Option.some.inj h).symm⟩
    · cases h
  · next y x r _ =>
    split at h
    · next v hv =>
      obtain ⟨x9, y9, z9, h1, h2, h3, h4⟩ := hs.2 _ (zfact_mem hv)
      exact ⟨x, y, v, r, x9, y9, z9, rfl, h1, h2, h3, h4, (Option.some.inj h).symm⟩
    · cases h
  · cases h
theorem zbil_spec {f : Int64 → Int64 → Int64} {lv st : List Value} {pc : Nat} {q : Nat × List Value × List Value} (h : zbil f lv st pc = some q) : ∃ x y r, st = .long y :: .long x :: r ∧ q = (pc, lv, .long (f x y) :: r) := by
  unfold zbil at h
  split at h
  · next y x r =>
    rw [zfl_eq] at h
    exact ⟨x, y, r, rfl, (Option.some.inj h).symm⟩
  · cases h
theorem zbr_spec {o : Option Bool} {t : Option Nat} {pc : Nat} {lv r : List Value} {q : Nat × List Value × List Value} (h : zbr o t pc lv r = some q) : ∃ t', t = some t' ∧ ((o = some true ∧ q = (t', lv, r)) ∨ (o = some false ∧ q = (pc + 3, lv, r))) := by
  unfold zbr at h
  split at h
  · next t' =>
    refine ⟨t', rfl, ?_⟩
    split at h
    · exact Or.inl ⟨rfl, (Option.some.inj h).symm⟩
    · exact Or.inr ⟨rfl, (Option.some.inj h).symm⟩
    · cases h
  · cases h
theorem zsw_spec {pc : Nat} {dflt lo hi : Int} {offs : Array Int} {x : Int} {t : Nat} (h : zsw pc dflt lo hi offs x = some t) : ((x < lo ∨ hi < x) ∧ (pc : Int) + dflt = (t : Int)) ∨ (¬ x < lo ∧ ¬ hi < x ∧ ∃ o, offs[(x - lo).toNat]? = some o ∧ (pc : Int) + o = (t : Int)) := by
  unfold zsw at h
  by_cases g : x < lo ∨ hi < x
  · have e : (decide (x < lo) || decide (hi < x)) = true := by simpa using g
    rw [e] at h
    exact Or.inl ⟨g, ztg_spec h⟩
  · have e : (decide (x < lo) || decide (hi < x)) = false := by simpa using g
    rw [e] at h
    simp only [cond_false] at h
    rw [zat_eq] at h
    split at h
    · next o ho =>
      refine Or.inr ⟨fun q => g (Or.inl q), fun q => g (Or.inr q), o, ?_, ztg_spec h⟩
      rw [← Array.getElem?_toList]
      exact ho
    · cases h
theorem zand_spec {X : zX} {sy : zSz} (hs : zSyOk X sy) {lv st : List Value} {pc : Nat} {q : Nat × List Value × List Value} (h : zand sy lv st pc = some q) : ∃ a b v r x y z, st = b :: a :: r ∧ zc X a = .int x ∧ zc X b = .int y ∧ zc X v = .int z ∧ zopf 7 x y = some z ∧ q = (pc, lv, v :: r) := by
  unfold zand at h
  split at h
  · next y u r =>
    by_cases hy : y = 63
    · subst hy
      simp only [decide_true, cond_true] at h
      rw [zat_eq] at h
      split at h
      · next k hk =>
        refine ⟨.float u, .int 63, .int k, r, X.2.2 u.toNat, 63, k, rfl, rfl, rfl, rfl, ?_, (Option.some.inj h).symm⟩
        show some (X.2.2 u.toNat &&& 63) = some k
        rw [(hs.1 _ _ hk).2.2 _ rfl]
      · cases h
    · simp only [hy, decide_false, cond_false] at h
      exact zbin_spec hs h
  · exact zbin_spec hs h
theorem zmx_spec {X : zX} {sy : zSz} (hs : zSyOk X sy) {b : Bool} {as : List Value} {v : Value} (h : zmx b sy as = some v) : ∃ a1 a2 x y, as = [a1, a2] ∧ zc X a1 = .int x ∧ zc X a2 = .int y ∧ zc X v = .int (bif b then (if x < y then y else x) else (if y < x then y else x)) := by
  unfold zmx at h
  split at h
  · next a1 a2 =>
    cases hi : (zisI a1 && zisI a2) with
    | false => rw [hi] at h; cases h
    | true =>
      rw [hi] at h
      simp only [cond_true] at h
      rw [Bool.and_eq_true] at hi
      obtain ⟨x, hx⟩ := zisI_c (X := X) hi.1
      obtain ⟨y, hy⟩ := zisI_c (X := X) hi.2
      have b1 := ziv_ok hs hx hi.1
      have b2 := ziv_ok hs hy hi.2
      refine ⟨a1, a2, x, y, rfl, hx, hy, ?_⟩
      cases b with
      | true =>
        simp only [cond_true] at h ⊢
        split at h
        · next hz =>
          have := (zlt_ok hz b1.1 b1.2 b2.1 b2.2).mp rfl
          cases h
          rw [if_pos (Int32.lt_iff_toInt_lt.mpr this)]
          exact hy
        · next hz =>
          have : ¬ x.toInt < y.toInt := fun q => by
            have := (zlt_ok hz b1.1 b1.2 b2.1 b2.2).mpr q
            cases this
          cases h
          rw [if_neg (fun q => this (Int32.lt_iff_toInt_lt.mp q))]
          exact hx
        · cases h
      | false =>
        simp only [cond_false] at h ⊢
        split at h
        · next hz =>
          have := (zlt_ok hz b2.1 b2.2 b1.1 b1.2).mp rfl
          cases h
          rw [if_pos (Int32.lt_iff_toInt_lt.mpr this)]
          exact hy
        · next hz =>
          have : ¬ y.toInt < x.toInt := fun q => by
            have := (zlt_ok hz b2.1 b2.2 b1.1 b1.2).mpr q
            cases this
          cases h
          rw [if_neg (fun q => this (Int32.lt_iff_toInt_lt.mp q))]
          exact hx
        · cases h
  · cases h
end
section
/-! ===== soundness of what moves on the stack alone ===== -/
section ZPS
variable {p : Program} {l : Launch} {e : Env} {R : Room} {s : State} {m : MethodId} {args : Array Value} {below : List Frame} {meth : Method} {c : Code} {H : Heap} {locs : List Loc} {cells slots : Nat} {Q : State → Prop}
variable {cc : ByteArray} {pc nL : Nat} {ls : Array Slot} {X : zX} {sy : zSz} {lv st : List Value} {q : Nat × List Value × List Value}
theorem zps_ld {i j : Nat} {pr : Value → Bool} (h : zld pr lv st i j = some q) (hpr : ∀ v, pr v = true → v ≠ zmk) (hl : zL X ls nL lv)
    (kk : ∀ v, lv[i]? = some v → pr v = true → ls[i]? = some (.val (zc X v)) → W p l e R s m args below meth c H locs cells slots Q (F0 m j ls (zc X v :: st.map (zc X))) → W p l e R s m args below meth c H locs cells slots Q (F0 m pc ls (st.map (zc X))))
    (k : ∀ ls', zL X ls' nL q.2.1 → W p l e R s m args below meth c H locs cells slots Q (F0 m q.1 ls' (q.2.2.map (zc X)))) : W p l e R s m args below meth c H locs cells slots Q (F0 m pc ls (st.map (zc X))) := by
  obtain ⟨v, h1, h2, rfl⟩ := zld_spec h
  exact kk v h1 h2 (hl.2.2.2 _ _ h1 (hpr _ h2)) (k ls hl)
theorem zps_ldI {i j : Nat} (h : zld zisI lv st i j = some q) (hl : zL X ls nL lv)
    (kk : ∀ x : Int32, ls[i]? = some (.val (.int x)) → W p l e R s m args below meth c H locs cells slots Q (F0 m j ls (.int x :: st.map (zc X))) → W p l e R s m args below meth c H locs cells slots Q (F0 m pc ls (st.map (zc X))))
    (k : ∀ ls', zL X ls' nL q.2.1 → W p l e R s m args below meth c H locs cells slots Q (F0 m q.1 ls' (q.2.2.map (zc X)))) : W p l e R s m args below meth c H locs cells slots Q (F0 m pc ls (st.map (zc X))) := by
  refine zps_ld h (fun v hv => (zisI_m hv).1) hl (fun v h1 h2 h3 h4 => ?_) k
  obtain ⟨x, hx⟩ := zisI_c (X := X) h2
  rw [hx] at h3 h4
  exact kk x h3 h4
theorem zps_ldA {i j : Nat} (h : zld zisA lv st i j = some q) (hl : zL X ls nL lv)
    (kk : ∀ x : Nat, ls[i]? = some (.val (.ref x)) → W p l e R s m args below meth c H locs cells slots Q (F0 m j ls (.ref x :: st.map (zc X))) → W p l e R s m args below meth c H locs cells slots Q (F0 m pc ls (st.map (zc X))))
    (kn : ls[i]? = some (.val (.null)) → W p l e R s m args below meth c H locs cells slots Q (F0 m j ls (.null :: st.map (zc X))) → W p l e R s m args below meth c H locs cells slots Q (F0 m pc ls (st.map (zc X))))
    (k : ∀ ls', zL X ls' nL q.2.1 → W p l e R s m args below meth c H locs cells slots Q (F0 m q.1 ls' (q.2.2.map (zc X)))) : W p l e R s m args below meth c H locs cells slots Q (F0 m pc ls (st.map (zc X))) := by
  refine zps_ld h (fun v hv => (zisA_m hv).1) hl (fun v h1 h2 h3 h4 => ?_) k
  rcases zisA_c (X := X) h2 with ⟨x, hx⟩ | hx
  · rw [hx] at h3 h4
    exact kk x h3 h4
  · rw [hx] at h3 h4
    exact kn h3 h4
theorem zps_ldL {i j : Nat} (h : zld zisL lv st i j = some q) (hl : zL X ls nL lv)
    (kk : ∀ x : Int64, ls[i]? = some (.val (.long x)) → W p l e R s m args below meth c H locs cells slots Q (F0 m j ls (.long x :: st.map (zc X))) → W p l e R s m args below meth c H locs cells slots Q (F0 m pc ls (st.map (zc X))))
    (k : ∀ ls', zL X ls' nL q.2.1 → W p l e R s m args below meth c H locs cells slots Q (F0 m q.1 ls' (q.2.2.map (zc X)))) : W p l e R s m args below meth c H locs cells slots Q (F0 m pc ls (st.map (zc X))) := by
  refine zps_ld h (fun v hv => (zisL_m hv).1) hl (fun v h1 h2 h3 h4 => ?_) k
  obtain ⟨x, -, hx⟩ := zisL_c (X := X) h2
  rw [hx] at h3 h4
  exact kk x h3 h4
theorem zps_ldD {i j : Nat} (h : zld zisD lv st i j = some q) (hl : zL X ls nL lv)
    (kk : ∀ x : UInt64, ls[i]? = some (.val (.double x)) → W p l e R s m args below meth c H locs cells slots Q (F0 m j ls (.double x :: st.map (zc X))) → W p l e R s m args below meth c H locs cells slots Q (F0 m pc ls (st.map (zc X))))
    (k : ∀ ls', zL X ls' nL q.2.1 → W p l e R s m args below meth c H locs cells slots Q (F0 m q.1 ls' (q.2.2.map (zc X)))) : W p l e R s m args below meth c H locs cells slots Q (F0 m pc ls (st.map (zc X))) := by
  refine zps_ld h (fun v hv => (zisD_m hv).1) hl (fun v h1 h2 h3 h4 => ?_) k
  obtain ⟨x, -, hx⟩ := zisD_c (X := X) h2
  rw [hx] at h3 h4
  exact kk x h3 h4
/-- a store of one slot -/
theorem zps_so {i j : Nat} {pr : Value → Bool} (h : zso pr lv st i j = some q) (hl : zL X ls nL lv)
    (kk : ∀ (v : Value) (r : List Value), pr v = true → i < nL → (∀ ls', lv_has ls' nL ((i, zc X v) :: (zPl X lv).filter (fun q => !(q.1 == i) && !(q.1 + 1 == i && q.2.category == 2))) → W p l e R s m args below meth c H locs cells slots Q (F0 m j ls' (r.map (zc X)))) → W p l e R s m args below meth c H locs cells slots Q (F0 m pc ls (zc X v :: r.map (zc X))))
    (k : ∀ ls', zL X ls' nL q.2.1 → W p l e R s m args below meth c H locs cells slots Q (F0 m q.1 ls' (q.2.2.map (zc X)))) : W p l e R s m args below meth c H locs cells slots Q (F0 m pc ls (st.map (zc X))) := by
  obtain ⟨v, r, rfl, h1, h2, h3, rfl⟩ := zso_spec h
  exact kk v r h1 (by rw [← hl.1]; exact h3) fun ls' h' => k ls' (hl.st1 h2 (Or.inr rfl) h')
theorem zps_so2 {i j : Nat} {pr : Value → Bool} (h : zso2 pr lv st i j = some q) (hl : zL X ls nL lv)
    (kk : ∀ (v : Value) (r : List Value), pr v = true → i + 1 < nL → (∀ ls', lv_has ls' nL ((i, zc X v) :: (zPl X lv).filter (fun q => !(q.1 == i) && (!(q.1 == i + 1) && !(q.1 + 1 == i && q.2.category == 2)))) → W p l e R s m args below meth c H locs cells slots Q (F0 m j ls' (r.map (zc X)))) → W p l e R s m args below meth c H locs cells slots Q (F0 m pc ls (zc X v :: r.map (zc X))))
    (k : ∀ ls', zL X ls' nL q.2.1 → W p l e R s m args below meth c H locs cells slots Q (F0 m q.1 ls' (q.2.2.map (zc X)))) : W p l e R s m args below meth c H locs cells slots Q (F0 m pc ls (st.map (zc X))) := by
  obtain ⟨v, r, rfl, h1, h2, h3, rfl⟩ := zso2_spec h
  exact kk v r h1 (by rw [← hl.1]; exact h3) fun ls' h' => k ls' (hl.st2 h2 h')
set_option maxHeartbeats 4000000 in
theorem zps_sound {ins : Instr} (hs : zSyOk X sy) (hx : p.tables.exec = Jvm.exec) (hb : c.code = cc) (hd : zDc cc pc ins) (h : zps sy ins pc lv st = some q) (hl : zL X ls nL lv)
    (k : ∀ ls', zL X ls' nL q.2.1 → W p l e R s m args below meth c H locs cells slots Q (F0 m q.1 ls' (q.2.2.map (zc X)))) : W p l e R s m args below meth c H locs cells slots Q (F0 m pc ls (st.map (zc X))) := by
  cases ins
  case iconst n =>
    have hd := hd.plain rfl
    simp only [zps] at h
    rw [zfi_eq] at h; cases h
    exact lv_iconst hx hb hd rfl (k ls hl)
  case bipush n =>
    have hd := hd.plain rfl
    simp only [zps] at h
    rw [zfi_eq] at h; cases h
    exact lv_bipush hx hb hd rfl (k ls hl)
  case sipush n =>
    have hd := hd.plain rfl
    simp only [zps] at h
    rw [zfi_eq] at h; cases h
    exact lv_sipush hx hb hd rfl (k ls hl)
  case lconst n =>
    have hd := hd.plain rfl
    simp only [zps] at h
    rw [zfl_eq] at h; cases h
    exact lv_lconst hx hb hd rfl (k ls hl)
  case iload i =>
    have hd := hd.plain rfl
    exact zps_ldI h hl (fun x h1 k1 => lv_iload hx hb hd h1 k1) k
  case iload_n i =>
    have hd := hd.plain rfl
    exact zps_ldI h hl (fun x h1 k1 => lv_iload_n hx hb hd rfl h1 k1) k
  case lload i =>
    have hd := hd.plain rfl
    exact zps_ldL h hl (fun x h1 k1 => lv_lload hx hb hd h1 k1) k
  case lload_n i =>
    have hd := hd.plain rfl
    exact zps_ldL h hl (fun x h1 k1 => lv_lload_n hx hb hd rfl h1 k1) k
  case dload i =>
    have hd := hd.plain rfl
    exact zps_ldD h hl (fun x h1 k1 => lv_dload hx hb hd h1 k1) k
  case aload i =>
    have hd := hd.plain rfl
    exact zps_ldA h hl (fun x h1 k1 => lv_aload hx hb hd h1 k1) (fun h1 k1 => lv_aloadN hx hb hd h1 k1) k
  case aload_n i =>
    have hd := hd.plain rfl
    exact zps_ldA h hl (fun x h1 k1 => lv_aload_n hx hb hd rfl h1 k1) (fun h1 k1 => lv_aload_nN hx hb hd rfl h1 k1) k
  case istore i =>
    have hd := hd.plain rfl
    refine zps_so h hl (fun v r h1 h2 k1 => ?_) k
    obtain ⟨x, hv⟩ := zisI_c (X := X) h1
    rw [hv] at k1 ⊢
    exact lv_istore hx hb hd hl.has h2 rfl k1
  case istore_n i =>
    have hd := hd.plain rfl
    refine zps_so h hl (fun v r h1 h2 k1 => ?_) k
    obtain ⟨x, hv⟩ := zisI_c (X := X) h1
    rw [hv] at k1 ⊢
    exact lv_istore_n hx hb hd rfl hl.has h2 rfl k1
  case astore i =>
    have hd := hd.plain rfl
    refine zps_so h hl (fun v r h1 h2 k1 => ?_) k
    rcases zisA_c (X := X) h1 with ⟨x, hv⟩ | hv
    · rw [hv] at k1 ⊢
      exact lv_astore hx hb hd hl.has h2 rfl k1
    · rw [hv] at k1 ⊢
      exact lv_astoreN hx hb hd hl.has h2 rfl k1
  case astore_n i =>
    have hd := hd.plain rfl
    refine zps_so h hl (fun v r h1 h2 k1 => ?_) k
    rcases zisA_c (X := X) h1 with ⟨x, hv⟩ | hv
    · rw [hv] at k1 ⊢
      exact lv_astore_n hx hb hd rfl hl.has h2 rfl k1
    · rw [hv] at k1 ⊢
      exact lv_astore_nN hx hb hd rfl hl.has h2 rfl k1
  case lstore i =>
    have hd := hd.plain rfl
    refine zps_so2 h hl (fun v r h1 h2 k1 => ?_) k
    obtain ⟨x, -, hv⟩ := zisL_c (X := X) h1
    rw [hv] at k1 ⊢
    exact lv_lstore hx hb hd hl.has h2 rfl k1
  case lstore_n i =>
    have hd := hd.plain rfl
    refine zps_so2 h hl (fun v r h1 h2 k1 => ?_) k
    obtain ⟨x, -, hv⟩ := zisL_c (X := X) h1
    rw [hv] at k1 ⊢
    exact lv_lstore_n hx hb hd rfl hl.has h2 rfl k1
  case dstore i =>
    have hd := hd.plain rfl
    refine zps_so2 h hl (fun v r h1 h2 k1 => ?_) k
    obtain ⟨x, -, hv⟩ := zisD_c (X := X) h1
    rw [hv] at k1 ⊢
    exact lv_dstore hx hb hd hl.has h2 rfl k1
  case iinc i n =>
    have hd := hd.plain rfl
    simp only [zps] at h
    rw [zat_eq] at h
    split at h
    · next x hxv =>
      rw [zfi_eq] at h
      obtain ⟨h1, h2, h3⟩ := zst1_spec h
      cases h3
      have h4 := zPl_in (X := X) hxv (by simp [zmk])
      obtain ⟨k9, hk9⟩ := List.getElem?_of_mem h4
      have k1 : ∀ ls' : Array Slot, lv_has ls' nL ((i, zc X (.int (x + Int32.ofInt n))) :: (zPl X lv).filter (fun q => !(q.1 == i) && !(q.1 + 1 == i && q.2.category == 2))) → W p l e R s m args below meth c H locs cells slots Q (F0 m (pc + zlen (.iinc i n)) ls' (st.map (zc X))) := fun ls' h' => k ls' (hl.st1 h1 (Or.inr rfl) h')
      by_cases hz : (-128 : Int) ≤ n ∧ n ≤ 127
      · have e : zlen (.iinc i n) = 3 := by simp [zlen, hz.1, hz.2]
        rw [e] at hd k1
        exact lv_iinc hx hb hd hl.has hk9 rfl (by rw [← hl.1]; exact h2) rfl k1
      · have e : zlen (.iinc i n) = 6 := by
          have : (decide ((-128 : Int) ≤ n) && decide (n ≤ 127)) = false := by
            rw [Bool.eq_false_iff]
            intro q9
            rw [Bool.and_eq_true, decide_eq_true_eq, decide_eq_true_eq] at q9
            exact hz q9
          simp only [zlen, this, cond_false]
        rw [e] at hd k1
        exact lv_iincW hx hb hd hl.has hk9 rfl (by rw [← hl.1]; exact h2) rfl k1
    · cases h
  case iadd =>
    have hd := hd.plain rfl
    simp only [zps] at h
    obtain ⟨a, b, v, r, x, y, z, rfl, h1, h2, h3, h4, rfl⟩ := zbin_spec hs h
    show W p l e R s m args below meth c H locs cells slots Q (F0 m pc ls (zc X b :: zc X a :: r.map (zc X)))
    have kk := k ls hl
    simp only [List.map_cons] at kk
    rw [h3] at kk
    rw [h1, h2]
    cases h4
    exact lv_iadd hx hb hd kk
  case isub =>
    have hd := hd.plain rfl
    simp only [zps] at h
    obtain ⟨a, b, v, r, x, y, z, rfl, h1, h2, h3, h4, rfl⟩ := zbin_spec hs h
    show W p l e R s m args below meth c H locs cells slots Q (F0 m pc ls (zc X b :: zc X a :: r.map (zc X)))
    have kk := k ls hl
    simp only [List.map_cons] at kk
    rw [h3] at kk
    rw [h1, h2]
    cases h4
    exact lv_isub hx hb hd kk
  case imul =>
    have hd := hd.plain rfl
    simp only [zps] at h
    obtain ⟨a, b, v, r, x, y, z, rfl, h1, h2, h3, h4, rfl⟩ := zbin_spec hs h
    show W p l e R s m args below meth c H locs cells slots Q (F0 m pc ls (zc X b :: zc X a :: r.map (zc X)))
    have kk := k ls hl
    simp only [List.map_cons] at kk
    rw [h3] at kk
    rw [h1, h2]
    cases h4
    exact lv_imul hx hb hd kk
  case idiv =>
    have hd := hd.plain rfl
    simp only [zps] at h
    obtain ⟨a, b, v, r, x, y, z, rfl, h1, h2, h3, h4, rfl⟩ := zbin_spec hs h
    show W p l e R s m args below meth c H locs cells slots Q (F0 m pc ls (zc X b :: zc X a :: r.map (zc X)))
    have kk := k ls hl
    simp only [List.map_cons] at kk
    rw [h3] at kk
    rw [h1, h2]
    by_cases hy : y = 0
    · simp [zopf, hy] at h4
    · simp only [zopf, hy, decide_false, cond_false, Option.some.injEq] at h4
      subst h4
      exact lv_idiv hx hb hd hy kk
  case irem =>
    have hd := hd.plain rfl
    simp only [zps] at h
    obtain ⟨a, b, v, r, x, y, z, rfl, h1, h2, h3, h4, rfl⟩ := zbin_spec hs h
    show W p l e R s m args below meth c H locs cells slots Q (F0 m pc ls (zc X b :: zc X a :: r.map (zc X)))
    have kk := k ls hl
    simp only [List.map_cons] at kk
    rw [h3] at kk
    rw [h1, h2]
    by_cases hy : y = 0
    · simp [zopf, hy] at h4
    · simp only [zopf, hy, decide_false, cond_false, Option.some.injEq] at h4
      subst h4
      exact lv_irem hx hb hd hy kk
  case ishl =>
    have hd := hd.plain rfl
    simp only [zps] at h
    obtain ⟨a, b, v, r, x, y, z, rfl, h1, h2, h3, h4, rfl⟩ := zbin_spec hs h
    show W p l e R s m args below meth c H locs cells slots Q (F0 m pc ls (zc X b :: zc X a :: r.map (zc X)))
    have kk := k ls hl
    simp only [List.map_cons] at kk
    rw [h3] at kk
    rw [h1, h2]
    cases h4
    exact lv_ishl hx hb hd kk
  case ishr =>
    have hd := hd.plain rfl
    simp only [zps] at h
    obtain ⟨a, b, v, r, x, y, z, rfl, h1, h2, h3, h4, rfl⟩ := zbin_spec hs h
    show W p l e R s m args below meth c H locs cells slots Q (F0 m pc ls (zc X b :: zc X a :: r.map (zc X)))
    have kk := k ls hl
    simp only [List.map_cons] at kk
    rw [h3] at kk
    rw [h1, h2]
    cases h4
    exact lv_ishr hx hb hd kk
  case iand =>
    have hd := hd.plain rfl
    simp only [zps] at h
    obtain ⟨a, b, v, r, x, y, z, rfl, h1, h2, h3, h4, rfl⟩ := zand_spec hs h
    show W p l e R s m args below meth c H locs cells slots Q (F0 m pc ls (zc X b :: zc X a :: r.map (zc X)))
    have kk := k ls hl
    simp only [List.map_cons] at kk
    rw [h3] at kk
    rw [h1, h2]
    cases h4
    exact lv_iand hx hb hd kk
  case ineg =>
    have hd := hd.plain rfl
    simp only [zps] at h
    split at h
    · next x r =>
      rw [zfi_eq] at h; cases h
      exact lv_ineg hx hb hd (k ls hl)
    · cases h
  case ladd =>
    have hd := hd.plain rfl
    simp only [zps] at h
    obtain ⟨x, y, r, rfl, rfl⟩ := zbil_spec h
    exact lv_ladd hx hb hd (k ls hl)
  case lsub =>
    have hd := hd.plain rfl
    simp only [zps] at h
    obtain ⟨x, y, r, rfl, rfl⟩ := zbil_spec h
    exact lv_lsub hx hb hd (k ls hl)
  case lmul =>
    have hd := hd.plain rfl
    simp only [zps] at h
    obtain ⟨x, y, r, rfl, rfl⟩ := zbil_spec h
    exact lv_lmul hx hb hd (k ls hl)
  case i2l =>
    have hd := hd.plain rfl
    simp only [zps] at h
    split at h
    · next x r =>
      rw [zfl_eq] at h; cases h
      exact lv_i2l hx hb hd rfl (k ls hl)
    · cases h
  case lcmp =>
    have hd := hd.plain rfl
    simp only [zps] at h
    split at h
    · next y x r =>
      cases h
      have e : lg_cmp x y = (bif decide (y < x) then (1 : Int32) else bif decide (x = y) then 0 else -1) := by
        unfold lg_cmp
        by_cases g1 : y < x
        · simp [g1]
        · by_cases g2 : x = y
          · simp [g2]
          · simp [g1, g2]
      refine W.lcmp hx hb hd ?_
      rw [e]
      exact k ls hl
    · cases h
  case i2d =>
    have hd := hd.plain rfl
    simp only [zps] at h
    split at h
    · next x r =>
      cases h
      exact lv_i2d hx hb hd (k ls hl)
    · cases h
  case ddiv =>
    have hd := hd.plain rfl
    simp only [zps] at h
    split at h
    · next y x r =>
      cases hn : znan (FP.ddiv x y) with
      | false => simp [hn] at h
      | true =>
        simp only [hn, cond_true, Option.some.injEq] at h
        subst h
        exact lv_ddiv hx hb hd (by unfold vf_n64; unfold znan at hn; exact of_decide_eq_true hn) (k ls hl)
    · cases h
  case dcmp op =>
    have hd := hd.plain rfl
    simp only [zps] at h
    split at h
    · next y x r =>
      rw [zfi_eq] at h; cases h
      exact lv_dcmp hx hb hd (k ls hl)
    · cases h
  case dconst n =>
    have hd := hd.plain rfl
    match n, h, hd with
    | 0, h, hd => cases h; exact lv_dconst0 hx hb hd (k ls hl)
    | 1, h, hd => cases h; exact lv_dconst1 hx hb hd (k ls hl)
  case dup =>
    have hd := hd.plain rfl
    simp only [zps] at h
    split at h
    · next v r =>
      cases hv : zcat2 v with
      | true => simp [hv] at h
      | false =>
        simp only [hv, cond_false, Option.some.injEq] at h
        subst h
        exact lv_dup hx hb hd (by rw [zc_cat]; exact zcat2_f hv) (k ls hl)
    · cases h
  case pop =>
    have hd := hd.plain rfl
    simp only [zps] at h
    split at h
    · next v r =>
      cases hv : zcat2 v with
      | true => simp [hv] at h
      | false =>
        simp only [hv, cond_false, Option.some.injEq] at h
        subst h
        exact lv_pop hx hb hd (by rw [zc_cat]; exact zcat2_f hv) (k ls hl)
    · cases h
  case dup_x1 =>
    have hd := hd.plain rfl
    simp only [zps] at h
    split at h
    · next v u r =>
      cases hv : zcat2 v with
      | true => simp [hv] at h
      | false =>
        cases hu : zcat2 u with
        | true => simp [hu] at h
        | false =>
          simp only [hv, hu, Bool.or_self, cond_false, Option.some.injEq] at h
          subst h
          exact lv_dup_x1 hx hb hd (by rw [zc_cat]; exact zcat2_f hv) (by rw [zc_cat]; exact zcat2_f hu) (k ls hl)
    · cases h
  case dup2 =>
    have hd := hd.plain rfl
    simp only [zps] at h
    split at h
    · next v u r =>
      cases hv : zcat2 v with
      | true => simp [hv] at h
      | false =>
        cases hu : zcat2 u with
        | true => simp [hu] at h
        | false =>
          simp only [hv, hu, Bool.or_self, cond_false, Option.some.injEq] at h
          subst h
          exact lv_dup2_11 hx hb hd (by rw [zc_cat]; exact zcat2_f hv) (by rw [zc_cat]; exact zcat2_f hu) (k ls hl)
    · cases h
  case goto off =>
    have hd := hd.plain rfl
    simp only [zps] at h
    split at h
    · next t ht =>
      cases h
      exact lv_goto hx hb hd (ztg_spec ht) (k ls hl)
    · cases h
  case tableswitch dflt lo hi offs =>
    obtain ⟨len, hd, -⟩ := hd
    simp only [zps] at h
    split at h
    · next x r =>
      split at h
      · next t ht =>
        cases h
        rcases zsw_spec ht with ⟨h1, h2⟩ | ⟨h1, h2, o, h3, h4⟩
        · exact lv_tableOut hx hb hd h1 h2 (k ls hl)
        · exact lv_tableIn hx hb hd h1 h2 h3 h4 (k ls hl)
      · cases h
    · cases h
  case ifCond cnd off =>
    have hd := hd.plain rfl
    simp only [zps] at h
    split at h
    · next v r =>
      cases hv : zisI v with
      | false => simp [hv] at h
      | true =>
        simp only [hv, cond_true] at h
        obtain ⟨x, hxv⟩ := zisI_c (X := X) hv
        show W p l e R s m args below meth c H locs cells slots Q (F0 m pc ls (zc X v :: r.map (zc X)))
        rw [hxv]
        have hiv := ziv_ok hs hxv hv
        have h0 : (0 : Int32).toInt = 0 := rfl
        obtain ⟨t, ht, ⟨ho, rfl⟩ | ⟨ho, rfl⟩⟩ := zbr_spec h
        · have hh := (zcmp_ok (y := 0) ho hiv ⟨Int.le_of_eq h0.symm, Int.le_of_eq h0⟩).mp rfl
          have ht := ztg_spec ht
          cases cnd with
          | eq => exact lv_if_eq hx hb hd ht (fun _ => k ls hl) (fun n => absurd hh n)
          | ne => exact lv_if_ne hx hb hd ht (fun _ => k ls hl) (fun n => absurd n hh)
          | lt => exact lv_if_lt hx hb hd ht (fun _ => k ls hl) (fun n => absurd hh n)
          | ge => exact lv_if_ge hx hb hd ht (fun _ => k ls hl) (fun n => absurd hh n)
          | gt => exact lv_if_gt hx hb hd ht (fun _ => k ls hl) (fun n => absurd hh n)
          | le => exact lv_if_le hx hb hd ht (fun _ => k ls hl) (fun n => absurd hh n)
        · have hh : ¬ zhold cnd x 0 := fun q9 => by
            have := (zcmp_ok (y := 0) ho hiv ⟨Int.le_of_eq h0.symm, Int.le_of_eq h0⟩).mpr q9
            cases this
          have hto := ztg_spec ht
          cases cnd with
          | eq => exact lv_if_eq hx hb hd hto (fun n => absurd n hh) (fun _ => k ls hl)
          | ne => exact lv_if_ne hx hb hd hto (fun n => absurd n hh) (fun _ => k ls hl)
          | lt => exact lv_if_lt hx hb hd hto (fun n => absurd n hh) (fun _ => k ls hl)
          | ge => exact lv_if_ge hx hb hd hto (fun n => absurd n hh) (fun _ => k ls hl)
          | gt => exact lv_if_gt hx hb hd hto (fun n => absurd n hh) (fun _ => k ls hl)
          | le => exact lv_if_le hx hb hd hto (fun n => absurd n hh) (fun _ => k ls hl)
    · cases h
  case if_icmp cnd off =>
    have hd := hd.plain rfl
    simp only [zps] at h
    split at h
    · next v u r =>
      cases hv : zisI v with
      | false => simp [hv] at h
      | true =>
        cases hu : zisI u with
        | false => simp [hu] at h
        | true =>
          simp only [hv, hu, Bool.and_self, cond_true] at h
          obtain ⟨y, hyv⟩ := zisI_c (X := X) hv
          obtain ⟨x, hxv⟩ := zisI_c (X := X) hu
          show W p l e R s m args below meth c H locs cells slots Q (F0 m pc ls (zc X v :: zc X u :: r.map (zc X)))
          rw [hxv, hyv]
          have hiv := ziv_ok hs hxv hu
          have hiy := ziv_ok hs hyv hv
          obtain ⟨t, ht, ⟨ho, rfl⟩ | ⟨ho, rfl⟩⟩ := zbr_spec h
          · have hh := (zcmp_ok ho hiv hiy).mp rfl
            have ht := ztg_spec ht
            cases cnd with
            | eq => exact lv_icmp_eq hx hb hd ht (fun _ => k ls hl) (fun n => absurd hh n)
            | ne => exact lv_icmp_ne hx hb hd ht (fun _ => k ls hl) (fun n => absurd n hh)
            | lt => exact lv_icmp_lt hx hb hd ht (fun _ => k ls hl) (fun n => absurd hh n)
            | ge => exact lv_icmp_ge hx hb hd ht (fun _ => k ls hl) (fun n => absurd hh n)
            | gt => exact lv_icmp_gt hx hb hd ht (fun _ => k ls hl) (fun n => absurd hh n)
            | le => exact lv_icmp_le hx hb hd ht (fun _ => k ls hl) (fun n => absurd hh n)
          · have hh : ¬ zhold cnd x y := fun q9 => by
              have := (zcmp_ok ho hiv hiy).mpr q9
              cases this
            have hto := ztg_spec ht
            cases cnd with
            | eq => exact lv_icmp_eq hx hb hd hto (fun n => absurd n hh) (fun _ => k ls hl)
            | ne => exact lv_icmp_ne hx hb hd hto (fun n => absurd n hh) (fun _ => k ls hl)
            | lt => exact lv_icmp_lt hx hb hd hto (fun n => absurd n hh) (fun _ => k ls hl)
            | ge => exact lv_icmp_ge hx hb hd hto (fun n => absurd n hh) (fun _ => k ls hl)
            | gt => exact lv_icmp_gt hx hb hd hto (fun n => absurd n hh) (fun _ => k ls hl)
            | le => exact lv_icmp_le hx hb hd hto (fun n => absurd n hh) (fun _ => k ls hl)
    · cases h
  all_goals cases h
end ZPS
end
section
/-! ===== soundness of fields, arrays, new things ===== -/
abbrev zA (X : zX) : Nat → Prop := fun q => X.2.1 ≤ q
def zTys (cI cL : ClassId) : List (ClassId × FieldType) := (cI, .int) :: (bif Nat.beq zAL 0 then [] else [(cL, .long)])
def zAt (D : va_G) (cI cL : ClassId) (X : zX) (k : Nat) (e : zE) (H : Heap) : Prop := match e with
  | .inl l => H[X.2.1 + k]? = some (arrV cI l.length fun j => zc X (l.getD j .null))
  | .inr (.inl l) => H[X.2.1 + k]? = some (arrV cL l.length fun j => zc X (l.getD j .null))
  | .inr (.inr o) => va_at D zcl (X.2.1 + k, .inr (o.1, o.2.map (zc X))) H
def zH (D : va_G) (cI cL : ClassId) (X : zX) (w : zW) (H : Heap) : Prop := (w.1 = false → H.size = X.2.1 + w.2.length) ∧ X.2.1 + w.2.length ≤ H.size ∧ ∀ (k : Nat) (e : zE), w.2[k]? = some e → zAt D cI cL X k e H
theorem zAt.kept {D : va_G} {cI cL : ClassId} {X : zX} {k : Nat} {e : zE} {H H1 : Heap} (h : zAt D cI cL X k e H) (hq : H1[X.2.1 + k]? = H[X.2.1 + k]?) : zAt D cI cL X k e H1 := by
  match e, h with
  | .inl l, h => exact hq.trans h
  | .inr (.inl l), h => exact hq.trans h
  | .inr (.inr o), h => exact va_at.kept (D := D) (cl := zcl) (q := (X.2.1 + k, Sum.inr (o.1, o.2.map (zc X)))) h hq
theorem zH.put {D : va_G} {cI cL : ClassId} {X : zX} {w : zW} {H H1 : Heap} {k : Nat} {e : zE} (h : zH D cI cL X w H) (hz : H1.size = H.size) (oq : ∀ q : Nat, q ≠ X.2.1 + k → H1[q]? = H[q]?) (he : zAt D cI cL X k e H1) : zH D cI cL X (w.1, w.2.set k e) H1 := by
  refine ⟨fun z => ?_, ?_, fun j e2 hj => ?_⟩
  · show H1.size = X.2.1 + (w.2.set k e).length
    rw [hz, List.length_set]
    exact h.1 z
  · show X.2.1 + (w.2.set k e).length ≤ H1.size
    rw [hz, List.length_set]
    exact h.2.1
  · have hj : (w.2.set k e)[j]? = some e2 := hj
    rw [List.getElem?_set] at hj
    by_cases hkj : k = j
    · subst hkj
      rw [if_pos rfl] at hj
      split at hj
      · cases hj
        exact he
      · cases hj
    · rw [if_neg hkj] at hj
      exact (h.2.2 j e2 hj).kept (oq _ (by omega))
theorem zH.push {D : va_G} {cI cL : ClassId} {X : zX} {w : zW} {H H1 : Heap} {e : zE} (h : zH D cI cL X w H) (hw : w.1 = false) (hz : H1.size = H.size + 1) (oq : ∀ q : Nat, q < H.size → H1[q]? = H[q]?) (he : zAt D cI cL X w.2.length e H1) : zH D cI cL X (w.1, w.2 ++ [e]) H1 := by
  have h0 := h.1 hw
  refine ⟨fun z => ?_, ?_, fun j e2 hj => ?_⟩
  · show H1.size = X.2.1 + (w.2 ++ [e]).length
    rw [hz, List.length_append, h0]
    rfl
  · show X.2.1 + (w.2 ++ [e]).length ≤ H1.size
    rw [hz, List.length_append, h0]
    exact Nat.le_refl _
  · have hj : (w.2 ++ [e])[j]? = some e2 := hj
    by_cases hl : j < w.2.length
    · rw [List.getElem?_append_left hl] at hj
      exact (h.2.2 j e2 hj).kept (oq _ (by omega))
    · rw [List.getElem?_append_right (by omega)] at hj
      have hz1 : j - w.2.length < 1 := (List.getElem?_eq_some_iff.mp hj).1
      have hjl : j = w.2.length := by omega
      subst hjl
      rw [Nat.sub_self] at hj
      cases hj
      exact he
theorem zP1 {D : va_G} {q : Nat × va_E} {H : Heap} (h : va_at D zcl q H) : va_P D zcl [q] H := by
  intro k x hk
  have hz : k < 1 := (List.getElem?_eq_some_iff.mp hk).1
  rw [show k = 0 by omega] at hk
  cases hk
  exact h
theorem zarr_set {X : zX} {cA : ClassId} {l : List Value} {j : Nat} {v : Value} (hj : j < l.length) : (arrV cA l.length fun j => zc X (l.getD j .null)).setSlot j (zc X v) = arrV cA (l.set j v).length fun j' => zc X ((l.set j v).getD j' .null) := by
  rw [arrV_store, List.length_set]
  congr 1
  funext q
  unfold updV
  rw [List.getD_eq_getElem?_getD, List.getElem?_set]
  by_cases hq : q = j
  · subst hq
    rw [if_pos rfl, if_pos rfl, if_pos hj]
    rfl
  · rw [if_neg hq, if_neg (Ne.symm hq)]
    show zc X (l.getD q .null) = _
    rw [List.getD_eq_getElem?_getD]
theorem zix_spec {l : List Value} {x : Int32} {v : Value} (h : zix l x = some v) : ¬ x < 0 ∧ l[x.toNatClampNeg]? = some v ∧ x.toNatClampNeg < l.length := by
  unfold zix at h
  by_cases hx : x < 0
  · simp [hx] at h
  · simp only [hx, decide_false, cond_false] at h
    rw [zat_eq] at h
    exact ⟨hx, h, (List.getElem?_eq_some_iff.mp h).1⟩
theorem ztv_c {X : zX} {ty : FieldType} {v : Value} (h : ztv ty v = true) : narrow ty (zc X v) = zc X v ∧ fits ty (zc X v) = true := by
  cases ty with
  | int =>
    obtain ⟨x, hx⟩ := zisI_c (X := X) (show zisI v = true from h)
    rw [hx]
    exact ⟨rfl, rfl⟩
  | boolean =>
    cases v with
    | int x =>
      have h1 : (decide (x = 0) || decide (x = 1)) = true := h
      simp only [Bool.or_eq_true, decide_eq_true_eq] at h1
      rcases h1 with rfl | rfl <;> exact ⟨rfl, rfl⟩
    | _ => simp [ztv] at h
  | object _ =>
    rcases zisA_c (X := X) (show zisA v = true from h) with ⟨x, hx⟩ | hx <;> rw [hx] <;> exact ⟨rfl, rfl⟩
  | array _ =>
    rcases zisA_c (X := X) (show zisA v = true from h) with ⟨x, hx⟩ | hx <;> rw [hx] <;> exact ⟨rfl, rfl⟩
  | long =>
    obtain ⟨x, -, hx⟩ := zisL_c (X := X) (show zisL v = true from h)
    rw [hx]
    exact ⟨rfl, rfl⟩
  | _ => simp [ztv] at h
/-- the script as the small machine has it -/
def zScOk (X : zX) (sc : List Value) (U : State) : Prop := ∃ xs : Nat → Int32, va_X X.1 sc.length xs U U.heap ∧ ∀ (j : Nat) (v : Value), sc[j]? = some v → zc X v = .int (xs j)
section ZMEM
variable {p : Program} {l : Launch} {e : Env} {R : Room} {s : State} {m : MethodId} {args : Array Value} {below : List Frame} {meth : Method} {c : Code} {H : Heap} {locs : List Loc} {cells slots : Nat} {Q : State → Prop}
variable {cc : ByteArray} {pc i : Nat} {ls : Array Slot} {X : zX} {sc st : List Value} {w : zW} {q : Nat × List Value × zW × Nat × Nat} {D : va_G} {cI cL : ClassId}
theorem zmem_get {idx : Nat} (hx : p.tables.exec = Jvm.exec) (hb : c.code = cc) (hd : decode cc pc = .ok (.getfield idx, 3)) (hts : ∀ w ∈ zG, w.before args s = true) (hown : s.vm.findClass (zon (zoc i)) = some m.cls) (hK : va_K D zcl (zTys cI cL) s)
    {k cn : Nat} {fs : List Value} {v : Value} {en : Nat × Bool × Bool × String × Nat × Nat} {r : List Value} (hH : zH D cI cL X w H) (hk : w.2[k]? = some (.inr (.inr (cn, fs)))) (hq : zfd2 (zatL zF (zoc i)) idx cn = some en) (hv : fs[en.1]? = some v)
    (kk : W p l e R s m args below meth c H locs cells slots Q (F0 m (pc + 3) ls (zc X v :: r.map (zc X)))) : W p l e R s m args below meth c H locs cells slots Q (F0 m pc ls ((Value.ref (k + 1) :: r).map (zc X))) := by
  obtain ⟨q, h1, h2, h3, h4, h5, -⟩ := zF_ok hq
  have hat : va_at D zcl (X.2.1 + k, .inr (cn, fs.map (zc X))) H := hH.2.2 k _ hk
  refine va_get (D := D) (cl := zcl) (tys := zTys cI cL) (ws := [(X.2.1 + k, .inr (cn, fs.map (zc X)))]) (T := q.2.1) (N := q.2.2) (C := q.1) (ref := en.2.2.2.1) hx hb hts (zcl_in h1) hown hK (zP1 hat) 0 rfl h1 en.1 h2 (hts _ h3) (fun x hx9 => ?_) (v := zc X v) ?_ hd kk
  · rcases h4 with h4 | h4
    · rw [← h4]; exact hx9
    · exact u_same (hts _ h4) x hx9
  · rw [List.getElem?_map, hv]
    rfl
set_option maxHeartbeats 1000000 in
theorem zmem_put {idx : Nat} (hx : p.tables.exec = Jvm.exec) (hb : c.code = cc) (hd : decode cc pc = .ok (.putfield idx, 3)) (hts : ∀ w ∈ zG, w.before args s = true) (hown : s.vm.findClass (zon (zoc i)) = some m.cls) (hK : va_K D zcl (zTys cI cL) s) (hin : zini i = true → meth.name = "<init>")
    {k cn : Nat} {fs : List Value} {v : Value} {en : Nat × Bool × Bool × String × Nat × Nat} {r : List Value} (hH : zH D cI cL X w H) (hS : va_S (zA X) s.heap H locs) (hk : w.2[k]? = some (.inr (.inr (cn, fs)))) (hq : zfd2 (zatL zF (zoc i)) idx cn = some en)
    (hf : en.2.1 = false ∨ (en.2.2.1 = true ∧ zini i = true)) (hv : ztv (zty cn en.1) v = true) (hl : en.1 < fs.length)
    (kk : ∀ (H1 : Heap) (locs1 : List Loc), zH D cI cL X (w.1, w.2.set k (.inr (.inr (cn, fs.set en.1 v)))) H1 → va_S (zA X) s.heap H1 locs1 → W p l e R s m args below meth c H1 locs1 cells slots Q (F0 m (pc + 3) ls (r.map (zc X)))) : W p l e R s m args below meth c H locs cells slots Q (F0 m pc ls ((v :: Value.ref (k + 1) :: r).map (zc X))) := by
  obtain ⟨q, hc, hj, h3, h4, h5, h6⟩ := zF_ok hq
  have hat : va_at D zcl (X.2.1 + k, .inr (cn, fs.map (zc X))) H := hH.2.2 k _ hk
  have hty := zcl_ty hc
  obtain ⟨hn, hfit⟩ := ztv_c (X := X) hv
  have hap := va_apart (own := zon (zoc i)) hts (zcl_in hc) (zty cn) hty (zcl_nm hc) hK hc
  obtain ⟨r0, g1, cell, q1, q2, q3, q4⟩ := hat
  have hr : r0 = q := Option.some.inj (g1.symm.trans hc)
  subst hr
  obtain ⟨hSl, hfc, kC, hkC, hkind⟩ := hK.1 cn _ hc
  obtain ⟨cf, kf, fi, f, hi, hsl⟩ := hSl en.1 hj
  have hsame : s.fieldFound? en.2.2.2.1 (r0.2.1 en.1).2.1 (r0.2.1 en.1).2.2.1 = some (cf, kf, fi, f) := by
    rcases h4 with h4 | h4
    · rw [← h4]; exact hi
    · exact u_same (hts _ h4) _ hi
  have hlay := hts _ (zcl_in hc _ (u_in_lay hj))
  have hst := (u_facts hfc hkC (u_lays hts (zcl_in hc) hj) hi).1
  have hl' : en.1 < (fs.map (zc X)).length := by rw [List.length_map]; exact hl
  have fin : ∀ H' : Heap, H'[X.2.1 + k]? = some (cell.setSlot f.slot (zc X v)) → H'.size = H.size → (∀ q : Nat, q ≠ X.2.1 + k → H'[q]? = H[q]?) → W p l e R s m args below meth c H' (locs ++ [⟨X.2.1 + k, f.slot⟩]) cells slots Q (F0 m (pc + 3) ls (r.map (zc X))) := by
    intro H' e1 e2 e3
    rw [hsl] at e1
    refine kk H' _ (hH.put e2 e3 ?_) (hS.put e2 e3 (Nat.le_add_right _ _))
    show va_at D zcl (X.2.1 + k, .inr (cn, (fs.set en.1 v).map (zc X))) H'
    refine ⟨r0, hc, ?_⟩
    rw [List.map_set]
    exact t_OB.to (V := updV (vp_V (fs.map (zc X))) en.1 (zc X v)) ⟨_, e1, q2, q3, t_set q4 hap hj (zc X v)⟩ (fun j _ => vp_updV_set hl' (zc X v) j)
  by_cases hfin : (r0.2.1 en.1).2.2.2 = true
  · have hz : en.2.2.1 = true ∧ zini i = true := hf.resolve_left (fun z => by rw [h5, z] at hfin; cases hfin)
    unfold u_lay at hlay
    rw [if_pos hfin] at hlay
    have hcf : m.cls = cf := by
      obtain ⟨_, _, c', _, _, _, -, -, hf', -, -, -, hown2, -⟩ := Cond.laysFinal_spec hlay
      have e1 : c' = cf := by have := hi.symm.trans hf'; simp at this; exact this.1.symm
      rw [h6 hz.1] at hown2
      rw [← e1]; exact Option.some.inj (hown.symm.trans hown2)
    have hs6 := u_fits hfc hkC hkind (Or.inr hlay) hi (hty _ hj) hn hfit
    exact W.putFinK hx hb hown (hts _ h3) hsame hst hcf (hin hz.2) (by rw [q2]; exact hs6) q1 q3 (by rw [hsl]; exact k2_hasslot (q4 en.1 hj)) rfl rfl hd fin
  · unfold u_lay at hlay
    rw [if_neg hfin] at hlay
    have hs6 := u_store hfc hkC hkind hlay hi (hty _ hj) hn hfit
    exact W.putK hx hb (f := f) ⟨hown, hts _ h3, ⟨_, _, _, hsame⟩, hst⟩ (by rw [q2]; exact hs6) q1 q3 (by rw [hsl]; exact k2_hasslot (q4 en.1 hj)) rfl rfl hd fin
theorem zmem_arrL {cA : ClassId} {ty : FieldType} (hA : ArrOfT s cA ty) {n : Nat} {f : Nat → Value} : s.isArrayOf (arrV cA n f) ty := hA n f
theorem zTys_I (hK : va_K D zcl (zTys cI cL) s) : ArrOfT s cI .int ∧ va_RA s cI .int := hK.2 0 _ rfl
theorem zTys_L (hK : va_K D zcl (zTys cI cL) s) (h : Nat.beq zAL 0 = false) : ArrOfT s cL .long ∧ va_RA s cL .long := hK.2 1 (cL, .long) (by unfold zTys; rw [h]; rfl)
set_option maxHeartbeats 4000000 in
theorem zmem_sound {ins : Instr} (hx : p.tables.exec = Jvm.exec) (hb : c.code = cc) (hd : zDc cc pc ins) (hts : ∀ w ∈ zG, w.before args s = true) (hown : s.vm.findClass (zon (zoc i)) = some m.cls) (hK : va_K D zcl (zTys cI cL) s) (hin : zini i = true → meth.name = "<init>")
    (hsc : zScOk X sc s) (hbX : X.1 < X.2.1) (hbs : X.2.1 ≤ s.heap.size)
    (h : zmem sc i ins pc st w = some q) (hH : zH D cI cL X w H) (hS : va_S (zA X) s.heap H locs) (hRc : cells + q.2.2.2.1 ≤ R.cells) (hRs : slots + q.2.2.2.2 ≤ R.slots)
    (k : ∀ (H1 : Heap) (locs1 : List Loc), zH D cI cL X q.2.2.1 H1 → va_S (zA X) s.heap H1 locs1 → W p l e R s m args below meth c H1 locs1 (cells + q.2.2.2.1) (slots + q.2.2.2.2) Q (F0 m q.1 ls (q.2.1.map (zc X)))) : W p l e R s m args below meth c H locs cells slots Q (F0 m pc ls (st.map (zc X))) := by
  have hbl : X.1 < s.heap.size := Nat.lt_of_lt_of_le hbX hbs
  have hbA : ¬ zA X X.1 := Nat.not_le.mpr hbX
  cases ins
  case getfield idx =>
    have hd := hd.plain rfl
    simp only [zmem] at h
    split at h
    · next k0 r =>
      rw [zat_eq] at h
      split at h
      · next c0 fs hk =>
        split at h
        · next en hq =>
          rw [zat_eq] at h
          split at h
          · next v hv =>
            cases h
            exact zmem_get (X := X) hx hb hd hts hown hK hH hk hq hv (k H locs hH hS)
          · cases h
        · cases h
      · cases h
    · cases h
  case putfield idx =>
    have hd := hd.plain rfl
    simp only [zmem] at h
    split at h
    · next v k0 r =>
      rw [zat_eq] at h
      split at h
      · next c0 fs hk =>
        split at h
        · next en hq =>
          cases hg : ((!en.2.1 || (en.2.2.1 && zini i)) && ztv (zty c0 en.1) v) with
          | false => rw [hg] at h; cases h
          | true =>
            rw [hg] at h
            obtain ⟨h1, h2⟩ := zset_spec (show zset fs en.1 v (fun fs' => zset w.2 k0 (.inr (.inr (c0, fs'))) fun w' => some (pc + 3, r, (w.1, w'), 0, 0)) = some q from h)
            obtain ⟨h3, h4⟩ := zset_spec h2
            cases h4
            simp only [Bool.and_eq_true, Bool.or_eq_true, Bool.not_eq_true'] at hg
            exact zmem_put (X := X) hx hb hd hts hown hK hin hH hS hk hq hg.1 hg.2 h1 (fun H1 locs1 a b => k H1 locs1 a b)
        · cases h
      · cases h
    · cases h
  case iaload =>
    have hd := hd.plain rfl
    simp only [zmem] at h
    split at h
    · next x a r =>
      split at h
      · split at h
        · next v hv =>
          cases hi : zisI v with
          | false => rw [hi] at h; cases h
          | true =>
            rw [hi] at h
            cases h
            obtain ⟨h1, h2, h3⟩ := zix_spec hv
            obtain ⟨xs, hX, hxs⟩ := hsc
            have e1 := hxs _ _ h2
            refine va_sld hx hb hX hbl hbA hS (i := x) (fun z => ?_) hd ?_
            · rcases z with z | z
              · exact h1 z
              · omega
            · rw [← e1]
              exact k H locs hH hS
        · cases h
      · next k0 =>
        rw [zat_eq] at h
        split at h
        · next l0 hk =>
          split at h
          · next v hv =>
            cases h
            obtain ⟨h1, h2, h3⟩ := zix_spec hv
            have hat : H[X.2.1 + k0]? = some (arrV cI l0.length fun j => zc X (l0.getD j .null)) := hH.2.2 k0 _ hk
            refine W.iald (v := zc X v) hx hb hat ((zTys_I hK).1 _ _) (fun q => by cases q) (fun z => ?_) ?_ rfl rfl hd (k H locs hH hS)
            · rw [arrV_size] at z
              rcases z with z | z
              · exact h1 z
              · omega
            · rw [arrV_read _ _ h3, List.getD_eq_getElem?_getD, h2]
              rfl
          · cases h
        · cases h
    · cases h
  case iastore =>
    have hd := hd.plain rfl
    simp only [zmem] at h
    split at h
    · next v x k0 r =>
      rw [zat_eq] at h
      split at h
      · next l0 hk =>
        cases hg : (zisI v && !decide (x < 0)) with
        | false => rw [hg] at h; cases h
        | true =>
          rw [hg] at h
          obtain ⟨h1, h2⟩ := zset_spec (show zset l0 x.toNatClampNeg v (fun l' => zset w.2 k0 (.inl l') fun w' => some (pc + 1, r, (w.1, w'), 0, 0)) = some q from h)
          obtain ⟨h3, h4⟩ := zset_spec h2
          cases h4
          simp only [Bool.and_eq_true, Bool.not_eq_true', decide_eq_false_iff_not] at hg
          obtain ⟨y, hy⟩ := zisI_c (X := X) hg.1
          have hat : H[X.2.1 + k0]? = some (arrV cI l0.length fun j => zc X (l0.getD j .null)) := hH.2.2 k0 _ hk
          show W p l e R s m args below meth c H locs cells slots Q (F0 m pc ls (zc X v :: .int x :: .ref (X.2.1 + k0) :: r.map (zc X)))
          rw [hy]
          refine W.iast hx hb hat ((zTys_I hK).1 _ _) (fun q => by cases q) (fun z => ?_) rfl rfl hd fun H1 e1 z1 oq => ?_
          · rw [arrV_size] at z
            rcases z with z | z
            · exact hg.2 z
            · omega
          · rw [← hy, zarr_set h1] at e1
            exact k H1 _ (hH.put z1 oq e1) (hS.put z1 oq (Nat.le_add_right _ _))
      · cases h
    · cases h
  case laload =>
    have hd := hd.plain rfl
    simp only [zmem] at h
    split at h
    · next x k0 r =>
      rw [zat_eq] at h
      split at h
      · next l0 hk =>
        cases hz : Nat.beq zAL 0 with
        | true => rw [hz] at h; cases h
        | false =>
          rw [hz] at h
          simp only [cond_false] at h
          split at h
          · next v hv =>
            cases h
            obtain ⟨h1, h2, h3⟩ := zix_spec hv
            have hat : H[X.2.1 + k0]? = some (arrV cL l0.length fun j => zc X (l0.getD j .null)) := hH.2.2 k0 _ hk
            refine W.lald (v := zc X v) hx hb hat ((zTys_L hK hz).1 _ _) (fun q => by cases q) (fun z => ?_) ?_ rfl rfl hd (k H locs hH hS)
            · rw [arrV_size] at z
              rcases z with z | z
              · exact h1 z
              · omega
            · rw [arrV_read _ _ h3, List.getD_eq_getElem?_getD, h2]
              rfl
          · cases h
      · cases h
    · cases h
  case lastore =>
    have hd := hd.plain rfl
    simp only [zmem] at h
    split at h
    · next v x k0 r =>
      rw [zat_eq] at h
      split at h
      · next l0 hk =>
        cases hg : (!Nat.beq zAL 0 && zisL v && !decide (x < 0)) with
        | false => rw [hg] at h; cases h
        | true =>
            rw [hg] at h
            obtain ⟨h1, h2⟩ := zset_spec (show zset l0 x.toNatClampNeg v (fun l' => zset w.2 k0 (.inr (.inl l')) fun w' => some (pc + 1, r, (w.1, w'), 0, 0)) = some q from h)
            obtain ⟨h3, h4⟩ := zset_spec h2
            cases h4
            simp only [Bool.and_eq_true, Bool.not_eq_true', decide_eq_false_iff_not] at hg
            obtain ⟨⟨hz, hgl⟩, hg2⟩ := hg
            obtain ⟨y, -, hy⟩ := zisL_c (X := X) hgl
            have hat : H[X.2.1 + k0]? = some (arrV cL l0.length fun j => zc X (l0.getD j .null)) := hH.2.2 k0 _ hk
            show W p l e R s m args below meth c H locs cells slots Q (F0 m pc ls (zc X v :: .int x :: .ref (X.2.1 + k0) :: r.map (zc X)))
            rw [hy]
            refine W.last hx hb hat ((zTys_L hK hz).1 _ _) (fun q => by cases q) (fun z => ?_) rfl rfl hd fun H1 e1 z1 oq => ?_
            · rw [arrV_size] at z
              rcases z with z | z
              · exact hg2 z
              · omega
            · rw [← hy, zarr_set h1] at e1
              exact k H1 _ (hH.put z1 oq e1) (hS.put z1 oq (Nat.le_add_right _ _))
      · cases h
    · cases h
  case arraylength =>
    have hd := hd.plain rfl
    simp only [zmem] at h
    split at h
    · next a r =>
      split at h
      · rw [zfi_eq] at h
        cases h
        obtain ⟨xs, hX, -⟩ := hsc
        exact va_slen hx hb hX hbl hbA hS hd (k H locs hH hS)
      · next k0 =>
        rw [zat_eq] at h
        split at h
        · next l0 hk =>
          rw [zfi_eq] at h
          cases h
          have hat : H[X.2.1 + k0]? = some (arrV cI l0.length fun j => zc X (l0.getD j .null)) := hH.2.2 k0 _ hk
          exact W.alen (n := Int32.ofNat l0.length) hx hb hat ((zTys_I hK).1 _ _) (by rw [arrV_size] <;> rfl) rfl rfl hd (k H locs hH hS)
        · next l0 hk =>
          cases hz : Nat.beq zAL 0 with
          | true => rw [hz] at h; cases h
          | false =>
            rw [hz] at h
            simp only [cond_false] at h
            rw [zfi_eq] at h
            cases h
            have hat : H[X.2.1 + k0]? = some (arrV cL l0.length fun j => zc X (l0.getD j .null)) := hH.2.2 k0 _ hk
            exact W.alen (n := Int32.ofNat l0.length) hx hb hat ((zTys_L hK hz).1 _ _) (by rw [arrV_size] <;> rfl) rfl rfl hd (k H locs hH hS)
        · cases h
    · cases h
  case new idx =>
    have hd := hd.plain rfl
    simp only [zmem] at h
    split at h
    · next en hq =>
      cases hw : w.1 with
      | true => rw [hw] at h; cases h
      | false =>
        rw [hw] at h
        simp only [cond_false] at h
        rw [zfrc_eq, zapp_eq] at h
        cases h
        obtain ⟨q, h1, h2, h3, h4⟩ := zNw_ok hq
        have hcn : zcn en.1 = q.2.2 := by unfold zcn; rw [zat_eq, h1]
        have hKn := hK.1 en.1 _ h1
        have h0 := hH.1 hw
        refine W.newcK hx hb hown (hts _ h2) (hts _ h3) (hts _ h4) rfl hd (Nat.le_trans (Nat.le_refl _) hRc) (by rw [← hcn]; exact hRs) hKn.2.1 rfl fun H1 kC hkC e1 z1 o1 => ?_
        have hat : zAt D cI cL X w.2.length (.inr (.inr (en.1, zdf en.1))) H1 := by
          refine ⟨q, h1, ?_⟩
          show t_OB (X.2.1 + w.2.length) _ _ _ H1 _
          rw [← h0]
          refine (u_born (zty en.1) hts (zcl_in h1) hKn hkC e1 (zcl_ty h1)).to fun j hj => ?_
          have hj2 : j < zcn en.1 := by rw [hcn]; exact hj
          show _ = ((zdf en.1).map (zc X)).getD j .null
          rw [List.getD_eq_getElem?_getD]
          unfold zdf
          rw [List.getElem?_map, List.getElem?_map, List.getElem?_range hj2]
          exact (zc_def (zcl_nf h1 j hj)).symm
        have := k H1 locs (by have := hH.push hw z1 o1 hat; rw [hw] at this; exact this) ⟨Nat.le_trans hS.1 (by omega), fun x g1 g2 => (o1 x (Nat.lt_of_lt_of_le g1 hS.1)).trans (hS.2.1 x g1 g2), hS.2.2⟩
        rw [h0]
        rw [hcn] at this
        exact this
    · cases h
  case newarray ty =>
    have hd := hd.plain rfl
    simp only [zmem] at h
    split at h
    · next x r =>
      cases hg : (w.1 || decide (x < 0) || decide (60000 < x)) with
      | true => rw [hg] at h; cases h
      | false =>
        rw [hg] at h
        simp only [cond_false] at h
        simp only [Bool.or_eq_false_iff, decide_eq_false_iff_not] at hg
        obtain ⟨⟨hw, hx0⟩, hx6⟩ := hg
        have h0 := hH.1 hw
        have hle : x.toNatClampNeg ≤ 60000 := by
          have h1 : x.toInt ≤ 60000 := by
            have := Int32.not_lt.mp hx6
            exact Int32.le_iff_toInt_le.mp this
          show x.toInt.toNat ≤ 60000
          omega
        split at h
        · rw [zfrc_eq, zrep_eq, zfrc_eq, zapp_eq] at h
          cases h
          refine va_newaK (atype := .int) hx hb (hts _ zAI_ok) rfl hd rfl hx0 rfl (by show x.toNatClampNeg * 4 ≤ 536870912; omega) hRc hRs h0 fun H1 cA e1 z1 o1 hAr hNm => ?_
          have hcA : cA = cI := Option.some.inj (hNm.symm.trans (zTys_I hK).2)
          subst hcA
          have hat : zAt D cA cL X w.2.length (.inl (List.replicate x.toNatClampNeg (.int 0))) H1 := by
            show H1[X.2.1 + w.2.length]? = some (arrV cA (List.replicate x.toNatClampNeg (Value.int 0)).length fun j => zc X ((List.replicate x.toNatClampNeg (Value.int 0)).getD j .null))
            rw [e1, List.length_replicate]
            refine congrArg some ?_
            unfold arrV
            congr 1
            refine Array.ext (by simp) fun j g1 g2 => ?_
            have g3 : j < x.toNatClampNeg := by simpa using g1
            simp [List.getD_eq_getElem?_getD, g3, defaultValue, newarray.typeOf, zc]
          have hz : H1.size = H.size + 1 := by rw [z1, h0]
          have := k H1 locs (hH.push hw hz (fun q9 g9 => o1 q9 (by omega)) hat) ⟨Nat.le_trans hS.1 (by omega), fun x g1 g2 => (o1 x (by have := hS.1; omega)).trans (hS.2.1 x g1 g2), hS.2.2⟩
          exact this
        · cases hz : Nat.beq zAL 0 with
          | true => rw [hz] at h; cases h
          | false =>
            rw [hz] at h
            simp only [cond_false] at h
            rw [zfrc_eq, zrep_eq, zfrc_eq, zapp_eq] at h
            cases h
            refine va_newaK (atype := .long) hx hb (hts _ (zAL_ok hz)) rfl hd rfl hx0 rfl (by show x.toNatClampNeg * 8 ≤ 536870912; omega) hRc hRs h0 fun H1 cA e1 z1 o1 hAr hNm => ?_
            have hcA : cA = cL := Option.some.inj (hNm.symm.trans (zTys_L hK hz).2)
            subst hcA
            have hat : zAt D cI cA X w.2.length (.inr (.inl (List.replicate x.toNatClampNeg (.long 0)))) H1 := by
              show H1[X.2.1 + w.2.length]? = some (arrV cA (List.replicate x.toNatClampNeg (Value.long 0)).length fun j => zc X ((List.replicate x.toNatClampNeg (Value.long 0)).getD j .null))
              rw [e1, List.length_replicate]
              refine congrArg some ?_
              unfold arrV
              congr 1
              refine Array.ext (by simp) fun j g1 g2 => ?_
              have g3 : j < x.toNatClampNeg := by simpa using g1
              simp [List.getD_eq_getElem?_getD, g3, defaultValue, newarray.typeOf, zc]
            have hz : H1.size = H.size + 1 := by rw [z1, h0]
            have := k H1 locs (hH.push hw hz (fun q9 g9 => o1 q9 (by omega)) hat) ⟨Nat.le_trans hS.1 (by omega), fun x g1 g2 => (o1 x (by have := hS.1; omega)).trans (hS.2.1 x g1 g2), hS.2.2⟩
            exact this
        · cases h
    · cases h
  case ldc2_w idx =>
    have hd := hd.plain rfl
    simp only [zmem] at h
    split at h
    · next en hq =>
      rw [zfl_eq] at h
      cases h
      exact lv_ldc2 hx hb hown (hts _ (zLg_ok hq)) hd (k H locs hH hS)
    · cases h
  case ldc idx =>
    have hd := hd.plain rfl
    simp only [zmem] at h
    split at h
    · next en hq =>
      rw [zfi_eq] at h
      cases h
      exact lv_ldc hx hb hown (hts _ (zIn_ok hq)) hd (k H locs hH hS)
    · cases h
  all_goals cases h
end ZMEM
end
section
/-! ===== calls: what the tables say of each link; the step into a callee; the run of a callee by its contract ===== -/
abbrev zCe : Type := Nat × Nat × Nat × MethodName × String × Nat × Nat × Nat × Nat × Nat × Nat × Nat
def zdesc (x : MethodName) (n : Nat) : Bool := decide ((parseMethodDescriptor x.desc).map (fun d => d.parameters.length) = some n)
def znmh (x : String) : Bool := decide (x ≠ "java/lang/invoke/MethodHandle") && decide (x ≠ "java/lang/invoke/VarHandle")
def zy (j : Nat) : MethodName := (zmt j).1
def zCok (o : Nat) (t : Nat × Nat × zCe) : Bool :=
  let e := t.2.2
  let x := e.2.2.2.1
  let i := e.2.2.2.2.2
  (match zfd (zatL zN o) t.1 with | some q => Nat.beq q.2 e.2.2.1 | none => false) && zdesc x e.2.2.1 && znmh x.cls &&
  (match e.1 with
  | 0 => decide (e.2.1 < zLaw) && decide (x = zy e.2.1) && !zhas e.2.1 && (match zat zcl t.2.1 with | some q => decide (q.1 = x.cls) | none => false) && zin i.1 (.methodLink (zon o) t.1 x) && zin i.2.1 (.instanceMethod x) && zin i.2.2.1 (.selects x.cls x x) && zin i.2.2.2.1 (.initialized x.cls)
  | 1 => decide (e.2.1 < zLaw) && !zhas e.2.1 && znmh e.2.2.2.2.1 && zin i.1 (.methodLink (zon o) t.1 x) && zin i.2.1 (.sameMethod x.cls e.2.2.2.2.1 x.name x.desc) && (match zat zcl t.2.1 with | some q => zin i.2.2.1 (.selects q.1 x (zy e.2.1)) | none => false) && zin i.2.2.2.1 (.instanceMethod (zy e.2.1)) && zin i.2.2.2.2.1 (.initialized (zy e.2.1).cls) &&
      (match i.2.2.2.2.2.2 with
      | 0 => zxn i.2.2.2.2.2.1 (.declares ⟨e.2.2.2.2.1, x.name, x.desc⟩)
      | k + 1 => zin i.2.2.2.2.2.1 (.instanceMethod ⟨e.2.2.2.2.1, x.name, x.desc⟩) && decide (k < zLaw) && !zhas k && decide (zy k = ⟨e.2.2.2.2.1, x.name, x.desc⟩))
  | 2 => decide (e.2.1 < zLaw) && decide (x = zy e.2.1) && zin i.1 (.methodLink (zon o) t.1 x) && zin i.2.1 (.static x) && zin i.2.2.1 (.initialized x.cls)
  | 3 => decide (e.2.1 < zLaw) && decide (x = zy e.2.1) && !zhas e.2.1 && zxn i.1 (.methodLinkNest (zon o) t.1 x e.2.2.2.2.1) && zin i.2.1 (.static x) && zin i.2.2.1 (.initialized x.cls)
  | 4 => decide (zrt e.2.1 = none) && decide (e.2.1 < zLaw) && decide (x = zy e.2.1) && !zhas e.2.1 && decide (x.name = "<init>") && zin i.1 (.methodLink (zon o) t.1 x) && zin i.2.1 (.instanceMethod x) && zin i.2.2.1 (.initialized x.cls)
  | 5 => decide (zrt e.2.1 = none) && decide (e.2.1 < zLaw) && decide (x = zy e.2.1) && !zhas e.2.1 && decide (x.name = "<init>") && zxn i.1 (.methodLinkNest (zon o) t.1 x e.2.2.2.2.1) && zin i.2.1 (.instanceMethod x) && zin i.2.2.1 (.initialized x.cls)
  | 6 => decide (x = Lib.objectInit) && zin i.1 (.methodLink (zon o) t.1 Lib.objectInit) && zin i.2.1 (.instanceMethod Lib.objectInit)
  | 7 => decide (x = arraycopyName) && zin i.1 (.methodLink (zon o) t.1 arraycopyName) && zin i.2.1 (.native arraycopyName) && zin i.2.2.1 (.static arraycopyName) && zin i.2.2.2.1 (.initialized "java/lang/System")
  | 8 => decide (x = Lib.Math.max.name) && zin i.1 (.methodLink (zon o) t.1 Lib.Math.max.name) && zin i.2.1 (.static Lib.Math.max.name) && zin i.2.2.1 (.initialized "java/lang/Math") && zin i.2.2.2.1 (.code Lib.Math.max.name Lib.Math.max.code 2 (some .int))
  | 9 => decide (x = Lib.Math.min.name) && zin i.1 (.methodLink (zon o) t.1 Lib.Math.min.name) && zin i.2.1 (.static Lib.Math.min.name) && zin i.2.2.1 (.initialized "java/lang/Math") && zin i.2.2.2.1 (.code Lib.Math.min.name Lib.Math.min.code 2 (some .int))
  | _ => false)
set_option maxRecDepth 100000 in
theorem zC_chk : (List.range zC.length).all (fun o => (zatL zC o).all (zCok o)) = true := by decide +kernel
theorem zC_ok {o a b : Nat} {e : zCe} (h : zfd2 (zatL zC o) a b = some e) : zCok o (a, b, e) = true := zall_tab zC zCok zC_chk (zfd2_mem h)
set_option maxRecDepth 100000 in
theorem zObj_ok : Cond.code Lib.objectInit ⟨#[0xb1]⟩ 1 none ∈ zG := zin_mem (i := zObj) (by decide +kernel)
theorem zcode_sig {args : Array Value} {s : State} {j : Nat} (h : (zcw j).before args s = true) : ∃ mk meth, s.methodNamed? (zy j) = some mk ∧ s.vm.method? mk = some meth ∧ parseMethodDescriptor (zy j).desc = some meth.sig := by
  unfold zcw at h
  split at h
  · obtain ⟨mk, hn⟩ := Cond.code_named h
    obtain ⟨meth, c, hm, -, -, -, -, -, -, hsig⟩ := Cond.code_spec hn h
    exact ⟨mk, meth, hn, hm, hsig⟩
  · obtain ⟨mk, meth, c, hn, hm, -, -, -, -, -, -, hsig⟩ := Cond.codeWith_spec h
    exact ⟨mk, meth, hn, hm, hsig⟩
theorem zsum_cat (X : zX) (r : List Value) : ((r.map (zc X)).map fun v => v.category).sum = zsum r := by
  induction r with
  | nil => rfl
  | cons v r ih =>
    simp only [List.map_cons, List.sum_cons, zsum]
    rw [ih, zc_cat]
    congr 1
    cases v <;> rfl
section ZGO
variable {p : Program} {l : Launch} {e : Env} {R : Room} {s : State} {m : MethodId} {args : Array Value} {below : List Frame} {meth : Method} {c : Code} {H : Heap} {locs : List Loc} {cells slots : Nat} {Q : State → Prop}
/-- the machine comes to the door of the callee y with the arguments a -/
def zGo (p : Program) (l : Launch) (e : Env) (R : Room) (s : State) (m : MethodId) (args : Array Value) (below : List Frame) (meth : Method) (c : Code) (H : Heap) (locs : List Loc) (cells slots : Nat) (g : JFrame) (rest : List Value) (y : MethodName) (a : List Value) : Prop :=
  ∀ T : State, T.heap = H → Stand p l e R s m args below meth c T locs cells slots → ∃ (vm₁ : Vm) (mk : MethodId), s.WarmedH vm₁ ∧ Stand p l e R s m args below meth c (T.setVm vm₁) locs cells slots ∧ s.methodNamed? y = some mk ∧
    ∀ target, Steps p.tables e below (doInvoke e ((T.setVm vm₁).setTop { g with stack := rest }) [] mk a.toArray).1 target → Steps p.tables e below (T.setTop g) target
theorem zgo_virt {j b idx : Nat} {own C : String} {g : JFrame} {argsL rest : List Value} (hx : p.tables.exec = Jvm.exec) (hown : s.vm.findClass own = some m.cls) (hlink : (Cond.methodLink own idx (zy j)).before args s = true) (hinst : (Cond.instanceMethod (zy j)).before args s = true) (hsel : (Cond.selects C (zy j) (zy j)).before args s = true)
    (hcode : (zcw j).before args s = true) (hy : (zy j).cls ≠ "java/lang/invoke/MethodHandle" ∧ (zy j).cls ≠ "java/lang/invoke/VarHandle") (hcell : ∃ cellB : Cell, H[b]? = some cellB ∧ cellB.vm.isStatics = false ∧ s.vm.findClass C = some cellB.cls)
    (hg : g.method = m) (hlen : (parseMethodDescriptor (zy j).desc).map (fun d => d.parameters.length) = some argsL.length) (hstack : g.stack = argsL.reverse ++ .ref b :: rest) (hdg : decode c.code g.pc = .ok (.invokevirtual idx, 3)) :
    zGo p l e R s m args below meth c H locs cells slots g rest (zy j) (.ref b :: argsL) := by
  intro T hT X
  obtain ⟨cellB, hcB, hobj, hcls⟩ := hcell
  obtain ⟨mk, methM, hnamed, hmethM, hstM, habM⟩ := Cond.instanceMethod_spec hinst
  obtain ⟨mk', methM', hn', hmethM', hsigM⟩ := zcode_sig hcode
  cases hn'.symm.trans hnamed
  cases hmethM.symm.trans hmethM'
  obtain ⟨c2, r2, m2, q1, q2, q3, q4, kP, hkP, hkPi⟩ := Cond.selects_spec hsel
  cases hcls.symm.trans q1
  cases (State.methodFound?_of_named hnamed hy).symm.trans q2
  cases hnamed.symm.trans q3
  have hselP : selectMethod e.platform s.vm cellB.cls mk = .method mk := by rw [Launch.admits_selectMethod X.admits]; exact q4
  rw [hsigM] at hlen
  obtain ⟨vm₁, X₁, hstep₁⟩ := X.invokevirtual hx hown hlink hnamed hmethM hstM hkP hkPi hy (a := b) (cell := cellB) (by rw [hT]; exact hcB)
    (fun z h => by rw [h] at hobj; cases hobj) hselP hmethM habM hkP hkPi (g := g) hg (argsL := argsL) (rest := rest) (Option.some.inj hlen).symm hstack hdg
  exact ⟨vm₁, mk, X₁.warmed, X₁, hnamed, fun target h => hstep₁ _ fun acts => by rw [doInvoke_state]; exact h⟩
theorem zgo_up {j b idx : Nat} {own C owner : String} {x : MethodName} {g : JFrame} {argsL rest : List Value} (hx : p.tables.exec = Jvm.exec) (hown : s.vm.findClass own = some m.cls) (hlink : (Cond.methodLink own idx x).before args s = true) (hsame : (Cond.sameMethod x.cls owner x.name x.desc).before args s = true)
    (hd0 : va_Decl s ⟨owner, x.name, x.desc⟩) (howner : owner ≠ "java/lang/invoke/MethodHandle" ∧ owner ≠ "java/lang/invoke/VarHandle") (hinst : (Cond.instanceMethod (zy j)).before args s = true) (hsel : (Cond.selects C x (zy j)).before args s = true)
    (hcell : ∃ cellB : Cell, H[b]? = some cellB ∧ cellB.vm.isStatics = false ∧ s.vm.findClass C = some cellB.cls)
    (hg : g.method = m) (hlen : (parseMethodDescriptor x.desc).map (fun d => d.parameters.length) = some argsL.length) (hstack : g.stack = argsL.reverse ++ .ref b :: rest) (hdg : decode c.code g.pc = .ok (.invokevirtual idx, 3)) :
    zGo p l e R s m args below meth c H locs cells slots g rest (zy j) (.ref b :: argsL) := by
  intro T hT X
  obtain ⟨cellB, hcB, hobj, hcls⟩ := hcell
  obtain ⟨r0, r, hn, hrm, hstR, hsigR⟩ := hd0
  obtain ⟨cn, ck, r1, hcn, hck, hni, hf, hn1⟩ := Cond.sameMethod_found hsame
  cases hn.symm.trans hn1
  obtain ⟨mk, methM, hnamed, hmethM, -, habM⟩ := Cond.instanceMethod_spec hinst
  obtain ⟨c2, r2, m2, q1, q2, q3, q4, kP, hkP, hkPi⟩ := Cond.selects_spec hsel
  cases hcls.symm.trans q1
  cases hf.symm.trans q2
  cases hnamed.symm.trans q3
  have hselP : selectMethod e.platform s.vm cellB.cls r0 = .method mk := by rw [Launch.admits_selectMethod X.admits]; exact q4
  have hlen' : argsL.length = r.sig.parameters.length := by
    have h9 : parseMethodDescriptor x.desc = some r.sig := hsigR
    rw [h9] at hlen
    exact (Option.some.inj hlen).symm
  obtain ⟨vm₁, X₁, hstep₁⟩ := X.invokevirtualUp hx hown hlink hsame howner hn hrm hstR (a := b) (cell := cellB) (by rw [hT]; exact hcB)
    (fun z h => by rw [h] at hobj; cases hobj) hselP hmethM habM hkP hkPi (g := g) hg (argsL := argsL) (rest := rest) hlen' hstack hdg
  exact ⟨vm₁, mk, X₁.warmed, X₁, hnamed, fun target h => hstep₁ _ fun acts => by rw [doInvoke_state]; exact h⟩
theorem zgo_stat {j idx : Nat} {own : String} {g : JFrame} {argsL rest : List Value} (hx : p.tables.exec = Jvm.exec) (hown : s.vm.findClass own = some m.cls) (hlink : (Cond.methodLink own idx (zy j)).before args s = true) (hstat : (Cond.static (zy j)).before args s = true) (hinit : (Cond.initialized (zy j).cls).before args s = true)
    (hcode : (zcw j).before args s = true) (hy : (zy j).cls ≠ "java/lang/invoke/MethodHandle" ∧ (zy j).cls ≠ "java/lang/invoke/VarHandle")
    (hg : g.method = m) (hlen : (parseMethodDescriptor (zy j).desc).map (fun d => d.parameters.length) = some argsL.length) (hstack : g.stack = argsL.reverse ++ rest) (hdg : decode c.code g.pc = .ok (.invokestatic idx, 3)) :
    zGo p l e R s m args below meth c H locs cells slots g rest (zy j) argsL := by
  intro T hT X
  obtain ⟨mk, methM, hnamed, hmethM, hsigM⟩ := zcode_sig hcode
  have hstatic : methM.isStatic = true := Cond.static_spec hnamed hmethM hstat
  obtain ⟨kP, hkP, -⟩ := className_of_methodNamed hnamed
  have hinitP : kP.init = .initialized := Cond.initialized_spec (findClass_of_methodNamed hnamed) hkP hinit
  rw [hsigM] at hlen
  obtain ⟨vm₁, X₁, hstep₁⟩ := X.invokestatic hx hown hlink hnamed hmethM hstatic hkP hinitP hy (g := g) hg (argsL := argsL) (rest := rest) (Option.some.inj hlen).symm hstack hdg
  exact ⟨vm₁, mk, X₁.warmed, X₁, hnamed, fun target h => hstep₁ _ fun acts => by rw [doInvoke_state]; exact h⟩
theorem zgo_statN {j idx : Nat} {own host : String} {g : JFrame} {argsL rest : List Value} (hx : p.tables.exec = Jvm.exec) (hown : s.vm.findClass own = some m.cls) (hlink : (Cond.methodLinkNest own idx (zy j) host).before args s = true) (hstat : (Cond.static (zy j)).before args s = true) (hinit : (Cond.initialized (zy j).cls).before args s = true)
    (hcode : (zcw j).before args s = true) (hy : (zy j).cls ≠ "java/lang/invoke/MethodHandle" ∧ (zy j).cls ≠ "java/lang/invoke/VarHandle")
    (hg : g.method = m) (hlen : (parseMethodDescriptor (zy j).desc).map (fun d => d.parameters.length) = some argsL.length) (hstack : g.stack = argsL.reverse ++ rest) (hdg : decode c.code g.pc = .ok (.invokestatic idx, 3)) :
    zGo p l e R s m args below meth c H locs cells slots g rest (zy j) argsL := by
  intro T hT X
  obtain ⟨mk, methM, hnamed, hmethM, hsigM⟩ := zcode_sig hcode
  have hstatic : methM.isStatic = true := Cond.static_spec hnamed hmethM hstat
  obtain ⟨kP, hkP, -⟩ := className_of_methodNamed hnamed
  have hinitP : kP.init = .initialized := Cond.initialized_spec (findClass_of_methodNamed hnamed) hkP hinit
  rw [hsigM] at hlen
  obtain ⟨vm₁, X₁, hstep₁⟩ := X.invokestaticNest hx hown hlink hnamed hmethM hstatic hkP hinitP hy (g := g) hg (argsL := argsL) (rest := rest) (Option.some.inj hlen).symm hstack hdg
  exact ⟨vm₁, mk, X₁.warmed, X₁, hnamed, fun target h => hstep₁ _ fun acts => by rw [doInvoke_state]; exact h⟩
theorem zcw_plain {j : Nat} (h : zhas j = false) : zcw j = .code (zmt j).1 (zmt j).2.1 (zmt j).2.2.1 (zmt j).2.2.2.1 := by
  unfold zhas at h
  unfold zcw
  cases hh : (zmt j).2.2.2.2.1 with
  | none => rfl
  | some x => rw [hh] at h; cases h
theorem zgo_init {j b idx : Nat} {own : String} {g : JFrame} {argsL rest : List Value} (hx : p.tables.exec = Jvm.exec) (hown : s.vm.findClass own = some m.cls) (hy1 : (zy j).name = "<init>") (hlink : (Cond.methodLink own idx (zy j)).before args s = true) (hinst : (Cond.instanceMethod (zy j)).before args s = true)
    {bytes : ByteArray} {maxL : Nat} (hcode : (Cond.code (zy j) bytes maxL none).before args s = true) (hy : (zy j).cls ≠ "java/lang/invoke/MethodHandle" ∧ (zy j).cls ≠ "java/lang/invoke/VarHandle")
    (hg : g.method = m) (hlen : (parseMethodDescriptor (zy j).desc).map (fun d => d.parameters.length) = some argsL.length) (hstack : g.stack = argsL.reverse ++ .ref b :: rest) (hdg : decode c.code g.pc = .ok (.invokespecial idx, 3)) :
    zGo p l e R s m args below meth c H locs cells slots g rest (zy j) (.ref b :: argsL) := by
  intro T hT X
  subst hg
  have hlen' : ∀ sig, parseMethodDescriptor (zy j).desc = some sig → argsL.length = sig.parameters.length := fun sig h => by
    rw [h] at hlen
    exact (Option.some.inj hlen).symm
  have hpl : e.platform.magicAccessors = ({} : Platform).magicAccessors := by rw [X.admits.platform]
  obtain ⟨mk, methM, cM, kP, vm₁, hnamed, hmethM, hcodeM, -, hlocalsM, -, hkP, -, hW₁, hstep₁⟩ := Steps.initColdArgs (e := e) X.here hx X.warmed hpl hown hy1 hy hlink hinst hcode (f := g) rfl hlen' hstack hdg
  exact ⟨vm₁, mk, (X.noted hW₁).warmed, X.noted hW₁, hnamed, fun target h => hstep₁ _ fun acts => by rw [doInvoke_state]; exact h⟩
theorem zgo_initN {j b idx : Nat} {own host : String} {g : JFrame} {argsL rest : List Value} (hx : p.tables.exec = Jvm.exec) (hown : s.vm.findClass own = some m.cls) (hy1 : (zy j).name = "<init>") (hlink : (Cond.methodLinkNest own idx (zy j) host).before args s = true) (hinst : (Cond.instanceMethod (zy j)).before args s = true)
    {bytes : ByteArray} {maxL : Nat} (hcode : (Cond.code (zy j) bytes maxL none).before args s = true) (hy : (zy j).cls ≠ "java/lang/invoke/MethodHandle" ∧ (zy j).cls ≠ "java/lang/invoke/VarHandle")
    (hg : g.method = m) (hlen : (parseMethodDescriptor (zy j).desc).map (fun d => d.parameters.length) = some argsL.length) (hstack : g.stack = argsL.reverse ++ .ref b :: rest) (hdg : decode c.code g.pc = .ok (.invokespecial idx, 3)) :
    zGo p l e R s m args below meth c H locs cells slots g rest (zy j) (.ref b :: argsL) := by
  intro T hT X
  subst hg
  have hlen' : ∀ sig, parseMethodDescriptor (zy j).desc = some sig → argsL.length = sig.parameters.length := fun sig h => by
    rw [h] at hlen
    exact (Option.some.inj hlen).symm
  have hpl : e.platform.magicAccessors = ({} : Platform).magicAccessors := by rw [X.admits.platform]
  obtain ⟨mk, methM, cM, kP, vm₁, hnamed, hmethM, hcodeM, -, hlocalsM, -, hkP, -, hW₁, hstep₁⟩ := Steps.initColdArgsNest (e := e) X.here hx X.warmed hpl hown hy1 hy hlink hinst hcode (f := g) rfl hlen' hstack hdg
  exact ⟨vm₁, mk, (X.noted hW₁).warmed, X.noted hW₁, hnamed, fun target h => hstep₁ _ fun acts => by rw [doInvoke_state]; exact h⟩
/-- the callee's own contract, run -/
theorem zrun {j mc ms : Nat} {ig : Instr} {ws : List Cond} {rm : Room} {Pc : Array Value → State → Prop} {Qc : Array Value → State → Outcome → State → Prop} {XC : String → State → State → Prop} {free : Addr → Prop} {pc : Nat} {ls : Array Slot} {st0 rest a : List Value}
    (hgo : zGo p l e R s m args below meth c H locs cells slots (F0 m pc ls st0) rest (zy j) a) (hM : vx_Met l (zy j) ws rm Pc Qc XC mc ms free) (hbl : FrameBlind Pc) (hrc : rm.cells = mc) (hrs : rm.slots = ms)
    (hframes : rm.frames + 1 ≤ R.frames) (hlocals : 8 + (zml j + 11) + rm.locals ≤ R.locals) (hws : ∀ w ∈ ws, ∀ (a' : Array Value) (U : State), s.WarmedH U.vm → w.before a' U = true) (hcw : zcw j ∈ ws) (hini : (Cond.initialized (zy j).cls).before args s = true)
    (hP : ∀ U : State, U.heap = H → s.WarmedH U.vm → Pc a.toArray U) (hsize : ls.size = c.maxLocals) (hW : (rest.map fun v => v.category).sum ≤ 8) (hdg : decode c.code pc = .ok (ig, 3)) (hf : cells + mc ≤ R.cells ∧ slots + ms ≤ R.slots) :
    vx_Run p l e R s m args below meth c H locs cells slots mc ms (F0 m pc ls st0) rest (Qc a.toArray) XC free := by
  have hinit : ∀ (a' : Array Value) (U : State), s.WarmedH U.vm → (Cond.initialized (zy j).cls).before a' U = true := fun a' U hW => word_at hW (Or.inl rfl) hini
  have hK : vx_Back l R p e below s args (zy j) 3 8 (PreOf R mc ms Pc) (PostOf Qc mc ms free) (vx_Post XC mc ms free) := by
    unfold zcw at hcw
    split at hcw
    · exact vx_back (bytes := (zmt j).2.1) (maxL := zml j) (ret := (zmt j).2.2.2.1) hM hbl hrc hrs hframes hlocals hws hcw hinit
    · next hh _ => exact vx_backW (bytes := (zmt j).2.1) (maxL := zml j) (ret := (zmt j).2.2.2.1) (hh := hh) hM hbl hrc hrs hframes hlocals hws hcw hinit
  intro T hT X
  obtain ⟨vm₁, mk, hW₁, X₁, hn, hst⟩ := hgo T hT X
  rcases hK m meth c ⟨T.setVm vm₁, locs, cells, slots⟩ { F0 m pc ls st0 with stack := rest } ig mk a.toArray X₁ rfl hsize hdg (by show 2 * 0 + (rest.map fun v => v.category).sum ≤ 8; omega) (X₁.named hn) ⟨hf.1, hf.2, hP (T.setVm vm₁) hT hW₁⟩ with ⟨v, ⟨U', l2, c2, s2⟩, X', ⟨g', mk', t, L, e1, e2, hq, h1, hL, h2, h3⟩, hsteps⟩ | ⟨q, ⟨U', l2, c2, s2⟩, X', ⟨g', mk', t, L, E, ce, e1, e2, hq, hce, hcv, hcl, h1, hL, h2, h3⟩, hsteps⟩
  · dsimp only [Pt.U, Pt.locs, Pt.cells, Pt.slots] at X' e1 e2 h1 h2 h3 hsteps
    subst h1; subst h2; subst h3
    exact Or.inl ⟨v, (T.setVm vm₁).calling g' mk' a.toArray, t, U', L, hT, X', hL, e1, e2, hq, fun target h => hst _ (hsteps.trans h)⟩
  · dsimp only [Pt.U, Pt.locs, Pt.cells, Pt.slots] at X' e1 e2 h1 h2 h3 hsteps hcl
    subst h1; subst h2; subst h3
    exact Or.inr ⟨q, (T.setVm vm₁).calling g' mk' a.toArray, t, U', L, E, ce, hT, X', hL, e1, e2, hq, hce, hcv, vx_cls hW₁ hcl, hst _ hsteps⟩
end ZGO
end
section
/-! ===== the invariant of all calls; a method's contract; the loop ===== -/
def zInv (D : va_G) (cI cL : ClassId) (X : zX) (sc : List Value) (U : State) : Prop :=
  va_K D zcl (zTys cI cL) U ∧ zScOk X sc U ∧ (∀ w ∈ zXw, va_Nw w U) ∧ vx_Zq Bundle.tN "UNASSIGNED_STACK" Bundle.steD (zA X) U U.heap ∧ vx_Zq Bundle.tN "SUPPRESSED_SENTINEL" Bundle.listD (zA X) U U.heap ∧
  (∀ q ∈ zSt, ∃ a, vk_R q.1 q.2.1 q.2.2.1 a U) ∧ X.1 < X.2.1 ∧ X.2.1 ≤ U.heap.size
theorem zInv.move {D : va_G} {cI cL : ClassId} {X : zX} {sc : List Value} {s U : State} (h : zInv D cI cL X sc s) (hW : s.WarmedH U.vm) (hz : s.heap.size ≤ U.heap.size) (hk : ∀ q : Nat, q < s.heap.size → ¬ zA X q → U.heap[q]? = s.heap[q]?) : zInv D cI cL X sc U := by
  obtain ⟨h1, ⟨xs, h2, h2'⟩, h3, h4, h5, h6, h7, h8⟩ := h
  refine ⟨va_K.moved hW.alike h1, ⟨xs, ?_, h2'⟩, fun w hw => zxw_warm (List.mem_filter.mp hw).2 hW (h3 w hw), vx_Zq.moved hW.alike (h4.kept hk), vx_Zq.moved hW.alike (h5.kept hk), fun q hq => ?_, h7, Nat.le_trans h8 hz⟩
  · exact va_X.moved hW.alike (h2.kept (hk X.1 (by omega) (Nat.not_le.mpr h7)))
  · obtain ⟨a, ha⟩ := h6 q hq
    exact ⟨a, vk_R.warm hW ha⟩
def zPre (D : va_G) (cI cL : ClassId) (X : zX) (sc as : List Value) (w : zW) : Array Value → State → Prop := fun v U => v = (as.map (zc X)).toArray ∧ zH D cI cL X w U.heap ∧ zInv D cI cL X sc U
def zQr (D : va_G) (cI cL : ClassId) (X : zX) (r : zR) : Array Value → State → Outcome → State → Prop := fun _ st o t => match r.1 with
  | .inl ov => o = .returned (ov.map (zc X)) ∧ zH D cI cL X r.2.1 t.heap ∧ va_F (zA X) st t
  | .inr _ => False
def zXr (D : va_G) (cI cL : ClassId) (X : zX) (r : zR) : String → State → State → Prop := fun E st t => match r.1 with
  | .inl _ => False
  | .inr E' => E = E' ∧ zH D cI cL X r.2.1 t.heap ∧ va_F (zA X) st t
def zRoom (j : Nat) (r : zR) : Room := { frames := zFr j, cells := r.2.2.1, slots := r.2.2.2, locals := zLo j }
def zws (j : Nat) : List Cond := zcw j :: zG
def zSpec (l : Launch) (D : va_G) (cI cL : ClassId) (X : zX) (sc : List Value) (j : Nat) (as : List Value) (w : zW) (r : zR) : Prop :=
  vx_Met l (zy j) (zws j) (zRoom j r) (zPre D cI cL X sc as w) (zQr D cI cL X r) (zXr D cI cL X r) r.2.2.1 r.2.2.2 (zA X)
theorem zPre_blind (D : va_G) (cI cL : ClassId) (X : zX) (sc as : List Value) (w : zW) : FrameBlind (zPre D cI cL X sc as w) := by
  intro a U g mk h
  obtain ⟨h1, h2, h3⟩ := h
  exact ⟨h1, h2, h3.move (State.WarmedH.refl U) (Nat.le_refl _) (fun _ _ _ => rfl)⟩
set_option maxRecDepth 100000 in
theorem zml_chk : (List.range zLaw).all (fun j => decide (zml j ≤ 40)) = true := by decide +kernel
theorem zml_le {j : Nat} (h : j < zLaw) : zml j ≤ 40 := of_decide_eq_true (List.all_eq_true.mp zml_chk j (List.mem_range.mpr h))
theorem zpop_spec {n : Nat} : ∀ {st acc as rest : List Value}, zpop n st acc = some (as, rest) → ∃ bs, as = bs ++ acc ∧ st = bs.reverse ++ rest ∧ bs.length = n := by
  induction n with
  | zero =>
    intro st acc as rest h
    cases h
    exact ⟨[], rfl, rfl, rfl⟩
  | succ n ih =>
    intro st acc as rest h
    cases st with
    | nil => cases h
    | cons v st =>
      obtain ⟨bs, h1, h2, h3⟩ := ih (show zpop n st (v :: acc) = some (as, rest) from h)
      refine ⟨bs ++ [v], by rw [h1]; simp, by rw [h2]; simp, by simp [h3]⟩
theorem znmh_ok {x : String} (h : znmh x = true) : x ≠ "java/lang/invoke/MethodHandle" ∧ x ≠ "java/lang/invoke/VarHandle" := by
  unfold znmh at h
  simpa using h
section ZLP
variable {p : Program} {l : Launch} {e : Env} {R : Room} {s : State} {m : MethodId} {args : Array Value} {below : List Frame} {meth : Method} {c : Code} {H : Heap} {locs : List Loc} {cells slots : Nat} {Q : State → Prop}
variable {pc i : Nat} {ls : Array Slot} {X : zX} {sc st : List Value} {sy : zSz} {w : zW} {D : va_G} {cI cL : ClassId}
/-- what a method's frame stands on -/
def zCtx (p : Program) (l : Launch) (s : State) (m : MethodId) (args : Array Value) (meth : Method) (c : Code) (D : va_G) (cI cL : ClassId) (X : zX) (sc : List Value) (i : Nat) : Prop :=
  p.tables.exec = Jvm.exec ∧ c.code = (zmt i).2.1 ∧ c.maxLocals = zml i ∧ s.vm.findClass (zon (zoc i)) = some m.cls ∧ (∀ w ∈ zG, w.before args s = true) ∧ meth.locks = false ∧
  (∀ hh, (zmt i).2.2.2.2.1 = some hh → c.exceptionTable.toList = tableOf hh) ∧ (i < zLaw → (zmt i).2.2.2.2.1 = none → ∀ x ∈ c.exceptionTable.toList, False) ∧ (zini i = true → meth.name = "<init>") ∧ zInv D cI cL X sc s ∧ i ≤ zLaw ∧ l.stackTraces = false
theorem zmap_app (X : zX) (as rest : List Value) : (as.reverse ++ rest).map (zc X) = (as.map (zc X)).reverse ++ rest.map (zc X) := by
  rw [List.map_append, List.map_reverse]
theorem zat_recv (hK : va_K D zcl (zTys cI cL) s) {k cn : Nat} {fs : List Value} {q : vw_C} (hq : zcl[cn]? = some q) (hH : zH D cI cL X w H) (hk : w.2[k]? = some (.inr (.inr (cn, fs)))) : ∃ cellB : Cell, H[X.2.1 + k]? = some cellB ∧ cellB.vm.isStatics = false ∧ s.vm.findClass q.1 = some cellB.cls :=
  va_recv (fs := fs.map (zc X)) hK (zP1 (show va_at D zcl (X.2.1 + k, .inr (cn, fs.map (zc X))) H from hH.2.2 k _ hk)) hq (q0 := 0) rfl
set_option maxHeartbeats 1000000 in
/-- the door of each call -/
theorem zinv_go {ins : Instr} {q : Nat × Nat × List Value × List Value} (C0 : zCtx p l s m args meth c D cI cL X sc i) (hins : zfd (zil i) pc = some ins) (h : zinv i ins st w = some q) (hH : zH D cI cL X w H) (h6 : q.1 ≠ 6) (h7 : q.1 ≠ 7) (h8 : q.1 ≠ 8) (h9 : q.1 ≠ 9) :
    q.2.1 < zLaw ∧ (Cond.initialized (zy q.2.1).cls).before args s = true ∧ (∃ ig, decode c.code pc = .ok (ig, 3)) ∧ zGo p l e R s m args below meth c H locs cells slots (F0 m pc ls (st.map (zc X))) (q.2.2.2.map (zc X)) (zy q.2.1) (q.2.2.1.map (zc X)) := by
  obtain ⟨hx, hb, hml, hown, hts, hlk, -, -, -, hI, hil, -⟩ := C0
  have hK := hI.1
  have hN := hI.2.2.1
  have hdc := zi_ok hins hil
  cases ins
  case invokestatic idx =>
    have hd : decode c.code pc = .ok (.invokestatic idx, 3) := by rw [hb]; exact hdc.plain rfl
    simp only [zinv] at h
    split at h
    · next q0 hq0 =>
      split at h
      · next as rest hpop =>
        split at h
        · next e0 he0 =>
          cases hkk : zkS e0.1 with
          | false => rw [hkk] at h; cases h
          | true =>
          rw [hkk] at h
          cases h
          obtain ⟨bs, h1, h2, h3⟩ := zpop_spec hpop
          rw [List.append_nil] at h1
          subst h1
          have hck := zC_ok he0
          unfold zCok at hck
          simp only [hq0] at hck
          rw [Bool.and_eq_true, Bool.and_eq_true, Bool.and_eq_true] at hck
          obtain ⟨⟨⟨k1, k2⟩, k3⟩, k4⟩ := hck
          have hn := Nat.eq_of_beq_eq_true k1
          have hlen : (parseMethodDescriptor e0.2.2.2.1.desc).map (fun d => d.parameters.length) = some (as.map (zc X)).length := by
            rw [List.length_map, h3, hn]
            exact of_decide_eq_true k2
          have hst : st.map (zc X) = (as.map (zc X)).reverse ++ rest.map (zc X) := by rw [h2, zmap_app]
          have hnm := znmh_ok k3
          obtain ⟨kd, j, n, x, ow, i0, i1, i2, i3, i4, i5, dj⟩ := e0
          match kd, k4, h6, h7, h8, h9 with
          | 0, k4, _, _, _, _ => cases hkk
          | 1, k4, _, _, _, _ => cases hkk
          | 2, k4, _, _, _, _ =>
            simp only [Bool.and_eq_true, decide_eq_true_eq] at k4
            obtain ⟨⟨⟨⟨g1, g2⟩, g3⟩, g4⟩, g5⟩ := k4
            subst g2
            exact ⟨g1, hts _ (zin_mem g5), ⟨_, hd⟩, zgo_stat hx hown (hts _ (zin_mem g3)) (hts _ (zin_mem g4)) (hts _ (zin_mem g5)) (hts _ (zcw_ok g1).1) hnm rfl hlen hst hd⟩
          | 3, k4, _, _, _, _ =>
            simp only [Bool.and_eq_true, decide_eq_true_eq] at k4
            obtain ⟨⟨⟨⟨⟨g1, g2⟩, g2'⟩, g3⟩, g4⟩, g5⟩ := k4
            subst g2
            exact ⟨g1, hts _ (zin_mem g5), ⟨_, hd⟩, zgo_statN hx hown (va_Nw.use rfl (hN _ (zxn_mem g3))) (hts _ (zin_mem g4)) (hts _ (zin_mem g5)) (hts _ (zcw_ok g1).1) hnm rfl hlen hst hd⟩
          | 4, k4, _, _, _, _ => cases hkk
          | 5, k4, _, _, _, _ => cases hkk
          | 6, k4, h6, _, _, _ => exact absurd rfl h6
          | 7, k4, _, h7, _, _ => exact absurd rfl h7
          | 8, k4, _, _, h8, _ => exact absurd rfl h8
          | 9, k4, _, _, _, h9 => exact absurd rfl h9
          | n + 10, k4, _, _, _, _ => cases k4
        · cases h
      · cases h
    · cases h
  case invokespecial idx =>
    have hd : decode c.code pc = .ok (.invokespecial idx, 3) := by rw [hb]; exact hdc.plain rfl
    simp only [zinv] at h
    split at h
    · next q0 hq0 =>
      split at h
      · next as k0 rest hpop =>
        split at h
        · next e0 he0 =>
          cases hkk : zkI e0.1 with
          | false => rw [hkk] at h; cases h
          | true =>
          rw [hkk] at h
          cases h
          obtain ⟨bs, h1, h2, h3⟩ := zpop_spec hpop
          rw [List.append_nil] at h1
          subst h1
          have hck := zC_ok he0
          unfold zCok at hck
          simp only [hq0] at hck
          rw [Bool.and_eq_true, Bool.and_eq_true, Bool.and_eq_true] at hck
          obtain ⟨⟨⟨k1, k2⟩, k3⟩, k4⟩ := hck
          have hn := Nat.eq_of_beq_eq_true k1
          have hlen : (parseMethodDescriptor e0.2.2.2.1.desc).map (fun d => d.parameters.length) = some (as.map (zc X)).length := by
            rw [List.length_map, h3, hn]
            exact of_decide_eq_true k2
          have hst : st.map (zc X) = (as.map (zc X)).reverse ++ .ref (X.2.1 + k0) :: rest.map (zc X) := by rw [h2, zmap_app]; rfl
          have hnm := znmh_ok k3
          obtain ⟨kd, j, n, x, ow, i0, i1, i2, i3, i4, i5, dj⟩ := e0
          match kd, k4, h6, h7, h8, h9 with
          | 0, k4, _, _, _, _ => cases hkk
          | 1, k4, _, _, _, _ => cases hkk
          | 2, k4, _, _, _, _ => cases hkk
          | 3, k4, _, _, _, _ => cases hkk
          | 4, k4, _, _, _, _ =>
            simp only [Bool.and_eq_true, decide_eq_true_eq, Bool.not_eq_true'] at k4
            obtain ⟨⟨⟨⟨⟨⟨⟨g0, g1⟩, g2⟩, g2'⟩, g2''⟩, g3⟩, g4⟩, g5⟩ := k4
            subst g2
            have hcode := hts _ (zcw_ok g1).1
            rw [zcw_plain g2', show (zmt j).2.2.2.1 = none from g0] at hcode
            exact ⟨g1, hts _ (zin_mem g5), ⟨_, hd⟩, zgo_init hx hown g2'' (hts _ (zin_mem g3)) (hts _ (zin_mem g4)) hcode hnm rfl hlen hst hd⟩
          | 5, k4, _, _, _, _ =>
            simp only [Bool.and_eq_true, decide_eq_true_eq, Bool.not_eq_true'] at k4
            obtain ⟨⟨⟨⟨⟨⟨⟨g0, g1⟩, g2⟩, g2'⟩, g2''⟩, g3⟩, g4⟩, g5⟩ := k4
            subst g2
            have hcode := hts _ (zcw_ok g1).1
            rw [zcw_plain g2', show (zmt j).2.2.2.1 = none from g0] at hcode
            exact ⟨g1, hts _ (zin_mem g5), ⟨_, hd⟩, zgo_initN hx hown g2'' (va_Nw.use rfl (hN _ (zxn_mem g3))) (hts _ (zin_mem g4)) hcode hnm rfl hlen hst hd⟩
          | 6, k4, h6, _, _, _ => exact absurd rfl h6
          | 7, k4, _, h7, _, _ => exact absurd rfl h7
          | 8, k4, _, _, h8, _ => exact absurd rfl h8
          | 9, k4, _, _, _, h9 => exact absurd rfl h9
          | n + 10, k4, _, _, _, _ => cases k4
        · cases h
      · cases h
    · cases h
  case invokevirtual idx =>
    have hd : decode c.code pc = .ok (.invokevirtual idx, 3) := by rw [hb]; exact hdc.plain rfl
    simp only [zinv] at h
    split at h
    · next q0 hq0 =>
      split at h
      · next as k0 rest hpop =>
        rw [zat_eq] at h
        split at h
        · next cn fs hk =>
          split at h
          · next e0 he0 =>
            cases hkk : zkV e0.1 with
            | false => rw [hkk] at h; cases h
            | true =>
            rw [hkk] at h
            cases h
            obtain ⟨bs, h1, h2, h3⟩ := zpop_spec hpop
            rw [List.append_nil] at h1
            subst h1
            have hck := zC_ok he0
            unfold zCok at hck
            simp only [hq0] at hck
            rw [Bool.and_eq_true, Bool.and_eq_true, Bool.and_eq_true] at hck
            obtain ⟨⟨⟨k1, k2⟩, k3⟩, k4⟩ := hck
            have hn := Nat.eq_of_beq_eq_true k1
            have hlen : (parseMethodDescriptor e0.2.2.2.1.desc).map (fun d => d.parameters.length) = some (as.map (zc X)).length := by
              rw [List.length_map, h3, hn]
              exact of_decide_eq_true k2
            have hst : st.map (zc X) = (as.map (zc X)).reverse ++ .ref (X.2.1 + k0) :: rest.map (zc X) := by rw [h2, zmap_app]; rfl
            have hnm := znmh_ok k3
            obtain ⟨kd, j, n, x, ow, i0, i1, i2, i3, i4, i5, dj⟩ := e0
            match kd, k4, h6, h7, h8, h9 with
            | 0, k4, _, _, _, _ =>
              cases hq : zcl[cn]? with
              | none => simp [zat_eq, hq] at k4
              | some qc =>
                simp only [zat_eq, hq, Bool.and_eq_true, decide_eq_true_eq, Bool.not_eq_true'] at k4
                obtain ⟨⟨⟨⟨⟨⟨⟨g1, g2⟩, g2'⟩, g2''⟩, g3⟩, g4⟩, g5⟩, g6⟩ := k4
                subst g2
                refine ⟨g1, hts _ (zin_mem g6), ⟨_, hd⟩, zgo_virt hx hown (hts _ (zin_mem g3)) (hts _ (zin_mem g4)) (hts _ (zin_mem g5)) (hts _ (zcw_ok g1).1) hnm ?_ rfl hlen hst hd⟩
                rw [← g2'']
                exact zat_recv hK hq hH hk
            | 1, k4, _, _, _, _ =>
              cases hq : zcl[cn]? with
              | none => simp [zat_eq, hq] at k4
              | some qc =>
                simp only [zat_eq, hq, Bool.and_eq_true, decide_eq_true_eq, Bool.not_eq_true'] at k4
                obtain ⟨⟨⟨⟨⟨⟨⟨⟨g1, g2⟩, g2'⟩, g3⟩, g4⟩, g5⟩, g6⟩, g7⟩, g8⟩ := k4
                have hdecl : va_Decl s ⟨ow, x.name, x.desc⟩ := by
                  cases dj with
                  | zero => exact va_Decl.abs (hN _ (zxn_mem g8))
                  | succ k9 =>
                    simp only [Bool.and_eq_true, decide_eq_true_eq, Bool.not_eq_true'] at g8
                    obtain ⟨⟨⟨b1, b2⟩, b3⟩, b4⟩ := g8
                    have hcode := hts _ (zcw_ok b2).1
                    rw [zcw_plain b3] at hcode
                    rw [← b4]
                    exact va_Decl.of (by rw [b4]; exact hts _ (zin_mem b1)) hcode
                exact ⟨g1, hts _ (zin_mem g7), ⟨_, hd⟩, zgo_up hx hown (hts _ (zin_mem g3)) (hts _ (zin_mem g4)) hdecl (znmh_ok g2') (hts _ (zin_mem g6)) (hts _ (zin_mem g5)) (zat_recv hK hq hH hk) rfl hlen hst hd⟩
            | 2, k4, _, _, _, _ => cases hkk
            | 3, k4, _, _, _, _ => cases hkk
            | 4, k4, _, _, _, _ => cases hkk
            | 5, k4, _, _, _, _ => cases hkk
            | 6, k4, h6, _, _, _ => exact absurd rfl h6
            | 7, k4, _, h7, _, _ => exact absurd rfl h7
            | 8, k4, _, _, h8, _ => exact absurd rfl h8
            | 9, k4, _, _, _, h9 => exact absurd rfl h9
            | n + 10, k4, _, _, _, _ => cases k4
          · cases h
        · cases h
      · cases h
    · cases h
  all_goals cases h
theorem zkS_le {k : Nat} (h : zkS k = true) : k ≤ 9 := by
  unfold zkS at h
  simp only [Bool.or_eq_true] at h
  rcases h with (((h | h) | h) | h) | h <;> (have := Nat.eq_of_beq_eq_true h; omega)
theorem zkI_le {k : Nat} (h : zkI k = true) : k ≤ 9 := by
  unfold zkI at h
  simp only [Bool.or_eq_true] at h
  rcases h with (h | h) | h <;> (have := Nat.eq_of_beq_eq_true h; omega)
theorem zkV_le {k : Nat} (h : zkV k = true) : k ≤ 9 := by
  unfold zkV at h
  simp only [Bool.or_eq_true] at h
  rcases h with h | h <;> (have := Nat.eq_of_beq_eq_true h; omega)
/-- what a call needs of frames and locals is in the caller's row -/
theorem zinv_fl {ins : Instr} {q : Nat × Nat × List Value × List Value} (hins : zfd (zil i) pc = some ins) (hil : i ≤ zLaw) (h : zinv i ins st w = some q) : (6 ≤ q.1 → 1 ≤ zFr i ∧ 40 ≤ zLo i) ∧ (¬ 6 ≤ q.1 → zFr q.2.1 + 1 ≤ zFr i ∧ zml q.2.1 + 19 + zLo q.2.1 ≤ zLo i) ∧ q.1 ≤ 9 := by
  have hF := List.all_eq_true.mp (List.all_eq_true.mp zFR_chk i (List.mem_range.mpr (Nat.lt_succ_of_le hil))) _ (zfd_mem hins)
  dsimp only at hF
  cases ins
  case invokestatic idx =>
    simp only [zinv] at h
    split at h
    · split at h
      · split at h
        · next e0 he0 =>
          cases hkk : zkS e0.1 with
          | false => rw [hkk] at h; cases h
          | true =>
          rw [hkk] at h
          cases h
          exact ⟨(zFR_ok hF he0).1, (zFR_ok hF he0).2, zkS_le hkk⟩
        · cases h
      · cases h
    · cases h
  case invokespecial idx =>
    simp only [zinv] at h
    split at h
    · split at h
      · split at h
        · next e0 he0 =>
          cases hkk : zkI e0.1 with
          | false => rw [hkk] at h; cases h
          | true =>
          rw [hkk] at h
          cases h
          exact ⟨(zFR_ok hF he0).1, (zFR_ok hF he0).2, zkI_le hkk⟩
        · cases h
      · cases h
    · cases h
  case invokevirtual idx =>
    simp only [zinv] at h
    split at h
    · split at h
      · split at h
        · split at h
          · next e0 he0 =>
            cases hkk : zkV e0.1 with
            | false => rw [hkk] at h; cases h
            | true =>
            rw [hkk] at h
            cases h
            exact ⟨(zFR_ok hF he0).1, (zFR_ok hF he0).2, zkV_le hkk⟩
          · cases h
        · cases h
      · cases h
    · cases h
  all_goals cases h
end ZLP
end
section
/-! ===== handlers, throws, native calls; the loop is sound; each method meets its contract ===== -/
def zHdok (t : Nat × Nat × Nat × Nat × Nat × String × Nat × Nat) : Bool := match (zmt t.1).2.2.2.2.1 with
  | some (x :: _) => decide (x = (t.2.1, t.2.2.1, t.2.2.2.1, t.2.2.2.2.1)) && !decide (t.2.2.2.2.1 = 0) && zin t.2.2.2.2.2.2.1 (.classLink (zon (zoc t.1)) t.2.2.2.2.1 t.2.2.2.2.2.1) && zxn t.2.2.2.2.2.2.2 (.castable t.2.2.2.2.2.1 t.2.2.2.2.2.1)
  | _ => false
set_option maxRecDepth 100000 in
theorem zHd_chk : zHd.all zHdok = true := by decide +kernel
def znames : List String := ["java/lang/RuntimeException", "java/lang/Exception"]
/-- a throw: its words, its five instructions -/
def zThok (t : Nat × Nat × String × String × Nat × Nat × Nat × Nat × Nat × Nat) : Bool :=
  let i := t.1
  let pc := t.2.1
  let E := t.2.2.1
  let u := t.2.2.2.2
  decide (i < zLaw) && zin u.2.2.2.1 (.classLink (zon (zoc i)) u.1 E) && zin u.2.2.2.2.1 (.initialized E) && decide ((zon (zoc i), u.2.1, t.2.2.2.1, u.2.2.2.2.2) ∈ zSt) && Bundle.fit E && znames.all Bundle.fit &&
  decide (zfd (zil i) pc = some (.new u.1)) && decide (zfd (zil i) (pc + 3) = some .dup) && decide (zfd (zil i) (pc + 4) = some (.ldc u.2.1)) && decide (zfd (zil i) (pc + 6) = some (.invokespecial u.2.2.1)) && decide (zfd (zil i) (pc + 9) = some .athrow)
set_option maxRecDepth 100000 in
theorem zTh_chk : zTh.all zThok = true := by decide +kernel
/-- the words of the throws: each a good one, or one that is kept -/
def zgx (w : Cond) : Bool := decide (w ∈ zT) && (goodWord w || zxw w)
section ZTH
variable {p : Program} {l : Launch} {e : Env} {R : Room} {s : State} {m : MethodId} {args : Array Value} {below : List Frame} {meth : Method} {c : Code} {H : Heap} {locs : List Loc} {cells slots : Nat} {Q : State → Prop}
variable {pc i : Nat} {ls : Array Slot} {X : zX} {sc st : List Value} {sy : zSz} {w : zW} {D : va_G} {cI cL : ClassId}
theorem zinv_S {ins : Instr} {q : Nat × Nat × List Value × List Value} (h : zinv i ins st w = some q) (hk : zkS q.1 = true) (hk2 : zkI q.1 = false) (hk3 : zkV q.1 = false) : ∃ idx e0, ins = .invokestatic idx ∧ zfd2 (zatL zC (zoc i)) idx 0 = some e0 ∧ e0.1 = q.1 ∧ st = q.2.2.1.reverse ++ q.2.2.2 := by
  cases ins
  case invokestatic idx =>
    simp only [zinv] at h
    split at h
    · next q0 hq0 =>
      split at h
      · next as rest hpop =>
        split at h
        · next e0 he0 =>
          cases hkk : zkS e0.1 with
          | false => rw [hkk] at h; cases h
          | true =>
            rw [hkk] at h
            cases h
            obtain ⟨bs, h1, h2, h3⟩ := zpop_spec hpop
            rw [List.append_nil] at h1
            subst h1
            exact ⟨idx, e0, rfl, he0, rfl, h2⟩
        · cases h
      · cases h
    · cases h
  case invokespecial idx =>
    simp only [zinv] at h
    split at h
    · split at h
      · split at h
        · next e0 he0 =>
          cases hkk : zkI e0.1 with
          | false => rw [hkk] at h; cases h
          | true =>
            rw [hkk] at h
            cases h
            have hk2 : zkI e0.1 = false := hk2
            rw [hkk] at hk2
            cases hk2
        · cases h
      · cases h
    · cases h
  case invokevirtual idx =>
    simp only [zinv] at h
    split at h
    · split at h
      · split at h
        · split at h
          · next e0 he0 =>
            cases hkk : zkV e0.1 with
            | false => rw [hkk] at h; cases h
            | true =>
              rw [hkk] at h
              cases h
              have hk3 : zkV e0.1 = false := hk3
              rw [hkk] at hk3
              cases hk3
          · cases h
        · cases h
      · cases h
    · cases h
  all_goals cases h
theorem zinv_I {ins : Instr} {q : Nat × Nat × List Value × List Value} (h : zinv i ins st w = some q) (hk : q.1 = 6) : ∃ (idx : Nat) (e0 : zCe) (k0 : Nat) (as : List Value), ins = .invokespecial idx ∧ zfd2 (zatL zC (zoc i)) idx 0 = some e0 ∧ e0.1 = 6 ∧ st = as.reverse ++ .ref (k0 + 1) :: q.2.2.2 ∧ as.length = e0.2.2.1 := by
  cases ins
  case invokestatic idx =>
    simp only [zinv] at h
    split at h
    · split at h
      · split at h
        · next e0 he0 =>
          cases hkk : zkS e0.1 with
          | false => rw [hkk] at h; cases h
          | true =>
            rw [hkk] at h
            cases h
            rw [show e0.1 = 6 from hk] at hkk
            cases hkk
        · cases h
      · cases h
    · cases h
  case invokespecial idx =>
    simp only [zinv] at h
    split at h
    · next q0 hq0 =>
      split at h
      · next as k0 rest hpop =>
        split at h
        · next e0 he0 =>
          cases hkk : zkI e0.1 with
          | false => rw [hkk] at h; cases h
          | true =>
            rw [hkk] at h
            cases h
            obtain ⟨bs, h1, h2, h3⟩ := zpop_spec hpop
            rw [List.append_nil] at h1
            subst h1
            have hck := zC_ok he0
            unfold zCok at hck
            simp only [hq0] at hck
            rw [Bool.and_eq_true, Bool.and_eq_true, Bool.and_eq_true] at hck
            exact ⟨idx, e0, k0, as, rfl, he0, hk, h2, h3.trans (Nat.eq_of_beq_eq_true hck.1.1.1)⟩
        · cases h
      · cases h
    · cases h
  case invokevirtual idx =>
    simp only [zinv] at h
    split at h
    · split at h
      · split at h
        · split at h
          · next e0 he0 =>
            cases hkk : zkV e0.1 with
            | false => rw [hkk] at h; cases h
            | true =>
              rw [hkk] at h
              cases h
              rw [show e0.1 = 6 from hk] at hkk
              cases hkk
          · cases h
        · cases h
      · cases h
    · cases h
  all_goals cases h
/-- Object.<init> -/
theorem zobj {ins : Instr} {q : Nat × Nat × List Value × List Value} (C0 : zCtx p l s m args meth c D cI cL X sc i) (hins : zfd (zil i) pc = some ins) (h : zinv i ins st w = some q) (hk : q.1 = 6) (hls : ls.size = c.maxLocals) (hsum : zsum q.2.2.2 ≤ 8) (hRf : 1 ≤ R.frames) (hRl : 40 ≤ R.locals)
    (kk : W p l e R s m args below meth c H locs cells slots Q (F0 m (pc + 3) ls (q.2.2.2.map (zc X)))) : W p l e R s m args below meth c H locs cells slots Q (F0 m pc ls (st.map (zc X))) := by
  obtain ⟨hx, hb, hml, hown, hts, hlk, -, -, -, hI, hil, -⟩ := C0
  obtain ⟨idx, e0, k0, as, rfl, he0, hk0, hst, hlen⟩ := zinv_I h hk
  have hd : decode c.code pc = .ok (.invokespecial idx, 3) := by rw [hb]; exact (zi_ok hins hil).plain rfl
  have hck := zC_ok he0
  unfold zCok at hck
  rw [Bool.and_eq_true, Bool.and_eq_true, Bool.and_eq_true] at hck
  obtain ⟨⟨⟨-, k2⟩, -⟩, k4⟩ := hck
  obtain ⟨kd, j, n, x, ow, i0, i1, i2, i3, i4, i5, dj⟩ := e0
  have hk0 : kd = 6 := hk0
  subst hk0
  simp only [Bool.and_eq_true, decide_eq_true_eq] at k4
  obtain ⟨⟨g1, g2⟩, g3⟩ := k4
  have hn : n = 0 := by
    have h1 : (parseMethodDescriptor x.desc).map (fun d => d.parameters.length) = some n := of_decide_eq_true k2
    rw [g1] at h1
    have h2 : (parseMethodDescriptor Lib.objectInit.desc).map (fun d => d.parameters.length) = some 0 := by decide +kernel
    exact Option.some.inj (h1.symm.trans h2)
  have has : as = [] := List.eq_nil_of_length_eq_zero (hlen.trans hn)
  subst has
  rw [hst]
  show W p l e R s m args below meth c H locs cells slots Q (F0 m pc ls (.ref (X.2.1 + k0) :: q.2.2.2.map (zc X)))
  refine W.objInit hx rfl hown (hts _ (zin_mem g2)) (hts _ (zin_mem g3)) (hts _ zObj_ok) rfl hls rfl hd hRf ?_ (W.eq (g2 := F0 m (pc + 3) ls (q.2.2.2.map (zc X))) rfl kk)
  show 2 * 0 + ((q.2.2.2.map (zc X)).map fun v => v.category).sum + 12 ≤ R.locals
  rw [zsum_cat]
  omega
theorem zmx_max {ins : Instr} {q : Nat × Nat × List Value × List Value} {v : Value} (C0 : zCtx p l s m args meth c D cI cL X sc i) (hins : zfd (zil i) pc = some ins) (h : zinv i ins st w = some q) (hk : q.1 = 8) (hsy : zSyOk X sy) (hv : zmx true sy q.2.2.1 = some v) (hls : ls.size = c.maxLocals) (hsum : zsum q.2.2.2 ≤ 8) (hRf : 1 ≤ R.frames) (hRl : 40 ≤ R.locals) (hc : cells ≤ R.cells) (hs : slots ≤ R.slots)
    (kk : W p l e R s m args below meth c H locs cells slots Q (F0 m (pc + 3) ls ((v :: q.2.2.2).map (zc X)))) : W p l e R s m args below meth c H locs cells slots Q (F0 m pc ls (st.map (zc X))) := by
  obtain ⟨hx, hb, hml, hown, hts, hlk, -, -, -, hI, hil, -⟩ := C0
  obtain ⟨idx, e0, rfl, he0, hk0, hst⟩ := zinv_S h (by rw [hk]; rfl) (by rw [hk]; rfl) (by rw [hk]; rfl)
  have hd : decode c.code pc = .ok (.invokestatic idx, 3) := by rw [hb]; exact (zi_ok hins hil).plain rfl
  have hck := zC_ok he0
  unfold zCok at hck
  rw [Bool.and_eq_true, Bool.and_eq_true, Bool.and_eq_true] at hck
  obtain ⟨⟨⟨-, k2⟩, -⟩, k4⟩ := hck
  obtain ⟨kd, j, n, x, ow, i0, i1, i2, i3, i4, i5, dj⟩ := e0
  have hk0 : kd = 8 := hk0.trans hk
  subst hk0
  simp only [Bool.and_eq_true, decide_eq_true_eq] at k4
  obtain ⟨⟨⟨⟨g1, g2⟩, g3⟩, g4⟩, g5⟩ := k4
  obtain ⟨a1, a2, a, b, has, e1, e2, e3⟩ := zmx_spec hsy hv
  rw [has] at hst
  rw [hst]
  show W p l e R s m args below meth c H locs cells slots Q (F0 m pc ls (zc X a2 :: zc X a1 :: q.2.2.2.map (zc X)))
  rw [e1, e2]
  refine va_mmax hx rfl (hls.symm) hown (hts _ (zin_mem g2)) (hts _ (zin_mem g3)) (hts _ (zin_mem g4)) (hts _ (zin_mem g5)) hRf ?_ hc hs (x := a) (y := b) (rest := q.2.2.2.map (zc X)) hd ?_
  · rw [zsum_cat]; omega
  · simp only [List.map_cons] at kk
    rw [e3] at kk
    exact kk
theorem zmx_min {ins : Instr} {q : Nat × Nat × List Value × List Value} {v : Value} (C0 : zCtx p l s m args meth c D cI cL X sc i) (hins : zfd (zil i) pc = some ins) (h : zinv i ins st w = some q) (hk : q.1 = 9) (hsy : zSyOk X sy) (hv : zmx false sy q.2.2.1 = some v) (hls : ls.size = c.maxLocals) (hsum : zsum q.2.2.2 ≤ 8) (hRf : 1 ≤ R.frames) (hRl : 40 ≤ R.locals) (hc : cells ≤ R.cells) (hs : slots ≤ R.slots)
    (kk : W p l e R s m args below meth c H locs cells slots Q (F0 m (pc + 3) ls ((v :: q.2.2.2).map (zc X)))) : W p l e R s m args below meth c H locs cells slots Q (F0 m pc ls (st.map (zc X))) := by
  obtain ⟨hx, hb, hml, hown, hts, hlk, -, -, -, hI, hil, -⟩ := C0
  obtain ⟨idx, e0, rfl, he0, hk0, hst⟩ := zinv_S h (by rw [hk]; rfl) (by rw [hk]; rfl) (by rw [hk]; rfl)
  have hd : decode c.code pc = .ok (.invokestatic idx, 3) := by rw [hb]; exact (zi_ok hins hil).plain rfl
  have hck := zC_ok he0
  unfold zCok at hck
  rw [Bool.and_eq_true, Bool.and_eq_true, Bool.and_eq_true] at hck
  obtain ⟨⟨⟨-, k2⟩, -⟩, k4⟩ := hck
  obtain ⟨kd, j, n, x, ow, i0, i1, i2, i3, i4, i5, dj⟩ := e0
  have hk0 : kd = 9 := hk0.trans hk
  subst hk0
  simp only [Bool.and_eq_true, decide_eq_true_eq] at k4
  obtain ⟨⟨⟨⟨g1, g2⟩, g3⟩, g4⟩, g5⟩ := k4
  obtain ⟨a1, a2, a, b, has, e1, e2, e3⟩ := zmx_spec hsy hv
  rw [has] at hst
  rw [hst]
  show W p l e R s m args below meth c H locs cells slots Q (F0 m pc ls (zc X a2 :: zc X a1 :: q.2.2.2.map (zc X)))
  rw [e1, e2]
  refine va_mmin hx rfl (hls.symm) hown (hts _ (zin_mem g2)) (hts _ (zin_mem g3)) (hts _ (zin_mem g4)) (hts _ (zin_mem g5)) hRf ?_ hc hs (x := a) (y := b) (rest := q.2.2.2.map (zc X)) hd ?_
  · rw [zsum_cat]; omega
  · simp only [List.map_cons] at kk
    rw [e3] at kk
    exact kk
theorem zcpy_at {X : zX} {la lb : List Value} {sp dp n : Nat} (h1 : sp + n ≤ la.length) (j : Nat) (hj : j < lb.length) : va_cpy (fun j => zc X (la.getD j .null)) (fun j => zc X (lb.getD j .null)) sp dp n j = zc X ((zcpy la lb sp dp n).getD j .null) := by
  unfold va_cpy zcpy
  cases hn : Nat.beq n 0 with
  | true =>
    have := Nat.eq_of_beq_eq_true hn
    subst this
    rw [if_neg (by omega)]
    rfl
  | false =>
    simp only [cond_false]
    rw [List.getD_eq_getElem?_getD (l := List.map _ _), List.getElem?_map, List.getElem?_range hj]
    by_cases g : dp ≤ j ∧ j < dp + n
    · rw [if_pos g]
      have e : (decide (dp ≤ j) && decide (j < dp + n)) = true := by simpa using g
      simp only [Option.map_some, Option.getD_some, e, cond_true]
    · rw [if_neg g]
      have e : (decide (dp ≤ j) && decide (j < dp + n)) = false := by
        rw [Bool.eq_false_iff]
        intro q9
        rw [Bool.and_eq_true, decide_eq_true_eq, decide_eq_true_eq] at q9
        exact g q9
      simp only [Option.map_some, Option.getD_some, e, cond_false]
theorem zcpy_len (la lb : List Value) (sp dp n : Nat) : (zcpy la lb sp dp n).length = lb.length := by
  unfold zcpy
  cases Nat.beq n 0 <;> simp
theorem zarr_congr {cA : ClassId} {n : Nat} {f g : Nat → Value} (h : ∀ j, j < n → f j = g j) : arrV cA n f = arrV cA n g := by
  unfold arrV
  congr 1
  exact Array.ext (by simp) fun j h1 h2 => by
    have hj : j < n := by simpa using h1
    simp [h j hj]
/-- System.arraycopy -/
theorem zcp_sound {ins : Instr} {q : Nat × Nat × List Value × List Value} {w' : zW} (C0 : zCtx p l s m args meth c D cI cL X sc i) (hins : zfd (zil i) pc = some ins) (h : zinv i ins st w = some q) (hk : q.1 = 7) (hv : zcp q.2.2.1 w = some w') (hls : ls.size = c.maxLocals) (hsum : zsum q.2.2.2 ≤ 8) (hRf : 1 ≤ R.frames) (hRl : 40 ≤ R.locals)
    (hH : zH D cI cL X w H) (hS : va_S (zA X) s.heap H locs)
    (kk : ∀ (H1 : Heap) (locs1 : List Loc), zH D cI cL X w' H1 → va_S (zA X) s.heap H1 locs1 → W p l e R s m args below meth c H1 locs1 cells slots Q (F0 m (pc + 3) ls (q.2.2.2.map (zc X)))) : W p l e R s m args below meth c H locs cells slots Q (F0 m pc ls (st.map (zc X))) := by
  obtain ⟨hx, hb, hml, hown, hts, hlk, -, -, -, hI, hil, -⟩ := C0
  have hK := hI.1
  obtain ⟨idx, e0, rfl, he0, hk0, hst⟩ := zinv_S h (by rw [hk]; rfl) (by rw [hk]; rfl) (by rw [hk]; rfl)
  have hd : decode c.code pc = .ok (.invokestatic idx, 3) := by rw [hb]; exact (zi_ok hins hil).plain rfl
  have hck := zC_ok he0
  unfold zCok at hck
  rw [Bool.and_eq_true, Bool.and_eq_true, Bool.and_eq_true] at hck
  obtain ⟨⟨⟨-, k2⟩, -⟩, k4⟩ := hck
  obtain ⟨kd, j, n, x, ow, i0, i1, i2, i3, i4, i5, dj⟩ := e0
  have hk0 : kd = 7 := hk0.trans hk
  subst hk0
  simp only [Bool.and_eq_true, decide_eq_true_eq] at k4
  obtain ⟨⟨⟨⟨g1, g2⟩, g3⟩, g4⟩, g5⟩ := k4
  unfold zcp at hv
  split at hv
  · next a sp b dp nn has =>
    rw [zat_eq] at hv
    split at hv
    · next la hla =>
      rw [zat_eq] at hv
      split at hv
      · next lb hlb =>
        cases hcond : ((decide (sp < 0) || decide (dp < 0) || decide (nn < 0) || !decide (sp.toNatClampNeg + nn.toNatClampNeg ≤ la.length) || !decide (dp.toNatClampNeg + nn.toNatClampNeg ≤ lb.length)) || !(la.all zisI)) with
        | true => rw [hcond] at hv; cases hv
        | false =>
          rw [hcond] at hv
          obtain ⟨hz1, hz2⟩ := zset_spec (show zset w.2 b (.inl (zcpy la lb sp.toNatClampNeg dp.toNatClampNeg nn.toNatClampNeg)) (fun w' => some (w.1, w')) = some w' from hv)
          cases hz2
          simp only [Bool.or_eq_false_iff, decide_eq_false_iff_not, Bool.not_eq_false', decide_eq_true_eq] at hcond
          obtain ⟨⟨⟨⟨⟨h1, h2⟩, h3⟩, h4⟩, h5⟩, hall⟩ := hcond
          rw [has] at hst
          have hst' : st.map (zc X) = .int nn :: .int dp :: .ref (X.2.1 + b) :: .int sp :: .ref (X.2.1 + a) :: q.2.2.2.map (zc X) := by rw [hst]; rfl
          rw [hst']
          have nn9 : ∀ z : Int32, ¬ z < 0 → z.toInt = (z.toNatClampNeg : Int) := by
            intro z hz
            have hz0 : (0 : Int) ≤ z.toInt := by
              have := Int32.not_lt.mp hz
              simpa using Int32.le_iff_toInt_le.mp this
            show z.toInt = ((z.toInt.toNat : Nat) : Int)
            omega
          have hc0 : H[X.2.1 + a]? = some (arrV cI la.length fun j => zc X (la.getD j .null)) := hH.2.2 a _ hla
          have hc1 : H[X.2.1 + b]? = some (arrV cI lb.length fun j => zc X (lb.getD j .null)) := hH.2.2 b _ hlb
          obtain ⟨-, y0, hy0, cm0, hyy0⟩ := (zTys_I hK).1 la.length (fun j => zc X (la.getD j .null))
          obtain ⟨-, y1, hy1, cm1, hyy1⟩ := (zTys_I hK).1 lb.length (fun j => zc X (lb.getD j .null))
          have hfit : ∀ k9 : Nat, k9 < la.length → ∃ x9, zc X (la.getD k9 .null) = .int x9 := by
            intro k9 hk9
            refine zisI_c (List.all_eq_true.mp hall _ ?_)
            rw [List.getD_eq_getElem?_getD, List.getElem?_eq_getElem hk9]
            exact List.getElem_mem hk9
          intro T hT X9
          obtain ⟨vm', X', step⟩ := X9.arraycopy hx hown (hts _ (zin_mem g2)) (hts _ (zin_mem g3)) (hts _ (zin_mem g4)) (hts _ (zin_mem g5)) (src := X.2.1 + a) (dst := X.2.1 + b) (cs := arrV cI la.length fun j => zc X (la.getD j .null)) (cd := arrV cI lb.length fun j => zc X (lb.getD j .null)) (srcPos := sp) (destPos := dp) (n := nn) (by rw [hT]; exact hc0) (by rw [hT]; exact hc1)
            (fun _ h => by cases h) (fun _ h => by cases h) (fun h => by cases h) (fun h => by cases h) hy0 hy1 hyy0 hyy1 (by simp [show refKind .int = false from rfl]) h1 h2 h3
            (by rw [nn9 sp h1, nn9 nn h3, arrV_size]; omega)
            (by rw [nn9 dp h2, nn9 nn h3, arrV_size]; omega)
            (fun vm₁ _ k9 hk9 => by
              have hk9' : k9 < nn.toNatClampNeg := hk9
              have e9 : (arrV cI la.length fun j => zc X (la.getD j .null)).slots.getD (sp.toNatClampNeg + k9) .null = zc X (la.getD (sp.toNatClampNeg + k9) .null) := by
                rw [Array.getD_eq_getD_getElem?, arrV_read _ _ (by omega)]
                rfl
              obtain ⟨x9, hx9⟩ := hfit (sp.toNatClampNeg + k9) (by omega)
              refine ⟨?_, ?_⟩
              · rw [e9, hx9]
                rfl
              · rw [e9, hx9]
                exact trivial)
            (g := F0 m pc ls (.int nn :: .int dp :: .ref (X.2.1 + b) :: .int sp :: .ref (X.2.1 + a) :: q.2.2.2.map (zc X))) rfl hls (rest := q.2.2.2.map (zc X)) rfl hd hRf (by
              show 2 * 0 + ((q.2.2.2.map (zc X)).map fun v => v.category).sum + 18 ≤ _
              rw [zsum_cat]
              omega)
          have e1 : copied (arrV cI la.length fun j => zc X (la.getD j .null)) (arrV cI lb.length fun j => zc X (lb.getD j .null)) sp dp nn = arrV cI lb.length (fun j => va_cpy (fun j => zc X (la.getD j .null)) (fun j => zc X (lb.getD j .null)) sp.toNatClampNeg dp.toNatClampNeg nn.toNatClampNeg j) := va_copied (fun z => z) cI cI _ _ h4
          rw [e1, zarr_congr (fun j hj => zcpy_at (X := X) (dp := dp.toNatClampNeg) h4 j hj)] at X' step
          have hl9 : X.2.1 + b < H.size := (Array.getElem?_eq_some_iff.mp hc1).1
          have oq : ∀ (ce : Cell) (q9 : Nat), q9 ≠ X.2.1 + b → (H.setIfInBounds (X.2.1 + b) ce)[q9]? = H[q9]? := fun ce q9 hq9 => by simp [Array.getElem?_setIfInBounds, Ne.symm hq9]
          have hat : zAt D cI cL X b (.inl (zcpy la lb sp.toNatClampNeg dp.toNatClampNeg nn.toNatClampNeg)) (H.setIfInBounds (X.2.1 + b) (arrV cI lb.length fun j => zc X ((zcpy la lb sp.toNatClampNeg dp.toNatClampNeg nn.toNatClampNeg).getD j .null))) := by
            show (H.setIfInBounds (X.2.1 + b) _)[X.2.1 + b]? = _
            rw [zcpy_len]
            simp [Array.getElem?_setIfInBounds, hl9]
          obtain ⟨t, a1, b1⟩ := kk _ _ (hH.put (by simp) (oq _) hat) ⟨by simp; exact hS.1, fun q9 g1 g2 => by
              rw [oq _ q9 (fun e => g2 (by rw [e]; exact Nat.le_add_right _ _))]
              exact hS.2.1 q9 g1 g2, fun q9 hq9 => by
              rcases List.mem_append.mp hq9 with h | h
              · exact hS.2.2 q9 h
              · obtain ⟨z, -, hz⟩ := List.mem_map.mp h
                rw [← hz]
                exact Nat.le_add_right _ _⟩ _ (by rw [← hT]; rfl) X'
          exact ⟨t, step t a1, b1⟩
      · cases hv
    · cases hv
  · cases hv
end ZTH
end
section
/-- one place of a throw for each class of exceptions -/
def zE0 : List (String × String × Nat) := []
end
section
/-! ===== the words of the throws; the loop; a method's contract ===== -/
def zmemB (w : Cond) : Bool := zBk.any (fun l => l.any (fun x => decide (x = w))) && (goodWord w || zxw w)
theorem zmemB_ok {w : Cond} (h : zmemB w = true) : w ∈ zG ∨ (w ∈ zXw ∧ zxw w = true) := by
  unfold zmemB at h
  rw [Bool.and_eq_true, Bool.or_eq_true] at h
  obtain ⟨h1, h2⟩ := h
  obtain ⟨l, hl, h3⟩ := List.any_eq_true.mp h1
  obtain ⟨x, hx, h4⟩ := List.any_eq_true.mp h3
  have e := of_decide_eq_true h4
  subst e
  have hm : x ∈ zT := by
    rw [zT_eq]
    exact List.mem_flatten.mpr ⟨l, hl, hx⟩
  rcases h2 with h2 | h2
  · exact Or.inl (List.mem_filter.mpr ⟨hm, h2⟩)
  · exact Or.inr ⟨List.mem_filter.mpr ⟨hm, h2⟩, h2⟩
set_option maxRecDepth 100000 in
theorem zE0_chk : zE0.all (fun t => (vx_atS t.2.1 t.2.2 t.1 znames).all zmemB) = true := by decide +kernel
set_option maxRecDepth 100000 in
theorem zTl_chk : zTh.all (fun t => zE0.any (fun u => decide (u.1 = t.2.2.1)) && zmemB (.methodLink (zon (zoc t.1)) t.2.2.2.2.2.2.1 (Bundle.initS t.2.2.1))) = true := by decide +kernel
theorem zatS_in {own X : String} {ic : Nat} {names : List String} {w : Cond} (own0 : String) (ic0 : Nat) (h : w ∈ vx_atS own ic X names) : w = .methodLink own ic (Bundle.initS X) ∨ w ∈ vx_atS own0 ic0 X names := by
  unfold vx_atS at h ⊢
  obtain ⟨h1, h2⟩ := List.mem_filter.mp h
  unfold Bundle.ownAtoms at h1
  rcases List.mem_append.mp h1 with h3 | h3
  · exact Or.inr (List.mem_filter.mpr ⟨List.mem_append_left _ h3, h2⟩)
  · rcases List.mem_cons.mp h3 with h4 | h4
    · exact Or.inl h4
    · exact Or.inr (List.mem_filter.mpr ⟨List.mem_append_right _ (List.mem_cons_of_mem _ h4), h2⟩)
section ZBD
variable {p : Program} {l : Launch} {e : Env} {R : Room} {s : State} {m : MethodId} {args : Array Value} {below : List Frame} {meth : Method} {c : Code} {H : Heap} {locs : List Loc} {cells slots : Nat} {Q : State → Prop}
variable {pc i : Nat} {ls : Array Slot} {X : zX} {sc st : List Value} {sy : zSz} {w : zW} {D : va_G} {cI cL : ClassId}
/-- 'throw new E("text")', not caught in its method -/
theorem zthrow {E : String} {r : zR} {mc ms : Nat} (C0 : zCtx p l s m args meth c D cI cL X sc i) (h : zthr i pc = some E) (hh : zhas i = false) (hr1 : r.1 = .inr E) (hr2 : r.2.1 = (true, w.2)) (hH : zH D cI cL X w H) (hS : va_S (zA X) s.heap H locs) (hls : ls.size = c.maxLocals)
    (hRf : 6 < R.frames) (hRl : 90 ≤ R.locals) (hRc : cells + 1 ≤ R.cells) (hRs : slots + 6 ≤ R.slots) (hc : cells + 1 ≤ mc) (hs : slots + 6 ≤ ms) :
    W p l e R s m args below meth c H locs cells slots (vx_MQ below (zQr D cI cL X r) (zXr D cI cL X r) args s mc ms (zA X)) (F0 m pc ls []) := by
  obtain ⟨hx, hb, hml, hown, hts, hlk, -, htab, -, hI, hil, hst⟩ := C0
  obtain ⟨hK, hsc, hN, hU, hV, hstr, hX1, hX2⟩ := hI
  unfold zthr at h
  split at h
  · next t ht =>
    cases h
    have hm := zfd2_mem ht
    have hck := List.all_eq_true.mp zTh_chk _ hm
    have hck2 := List.all_eq_true.mp zTl_chk _ hm
    unfold zThok at hck
    simp only [Bool.and_eq_true, decide_eq_true_eq] at hck hck2
    obtain ⟨⟨⟨⟨⟨⟨⟨⟨⟨⟨g1, g2⟩, g3⟩, g4⟩, g5⟩, g6⟩, g7⟩, g8⟩, g9⟩, g10⟩, g11⟩ := hck
    obtain ⟨k1, k2⟩ := hck2
    have hot : ∀ w, (w ∈ zG ∨ (w ∈ zXw ∧ zxw w = true)) → w.before args s = true ∧ vx_ot w = true := by
      intro w hw
      rcases hw with hw | ⟨hw, hz⟩
      · exact ⟨hts w hw, by unfold vx_ot; rw [(List.mem_filter.mp hw).2, Bool.or_true]⟩
      · exact ⟨va_Nw.use (zxw_tab hz) (hN w hw), by unfold vx_ot; rw [zxw_tab hz, Bool.true_or]⟩
    have hall : ∀ w ∈ vx_atS (zon (zoc i)) t.2.2.2.2.1 t.1 znames, w.before args s = true ∧ vx_ot w = true := by
      intro w hw
      obtain ⟨u, hu1, hu2⟩ := List.any_eq_true.mp k1
      have hu2 : u.1 = t.1 := of_decide_eq_true hu2
      rcases zatS_in u.2.1 u.2.2 hw with rfl | hw
      · exact hot _ (zmemB_ok k2)
      · rw [← hu2] at hw
        exact hot _ (zmemB_ok (List.all_eq_true.mp (List.all_eq_true.mp zE0_chk u hu1) w hw))
    obtain ⟨sa, hsa⟩ := hstr _ g4
    have hout : ∀ x ∈ c.exceptionTable.toList, covers x (pc + 9) = false := fun x hx => (htab g1 (by unfold zhas at hh; cases hq : (zmt i).2.2.2.2.1 with
      | none => rfl
      | some y => rw [hq] at hh; cases hh) x hx).elim
    have dd : ∀ {pc' : Nat} {ins : Instr}, zfd (zil i) pc' = some ins → zisT ins = false → decode (zmt i).2.1 pc' = .ok (ins, zlen ins) := fun h1 h2 => (zi_ok h1 hil).plain h2
    refine vx_throwS (A := zA X) (names := znames) hx hb hst hown g5 (fun n hn => List.all_eq_true.mp g6 n hn) (hts _ (zin_mem g2)) (hts _ (zin_mem g3)) hsa (fun w hw => (hall w hw).1) (fun w hw => ?_) hU hV hS hls (dd g7 rfl) (dd g8 rfl) (dd g9 rfl) (dd g10 rfl) (dd g11 rfl) hout (by show 2 + 3 < _; omega) (by show 0 + (13 * 3 + 43) ≤ _; omega) hRc hRs hlk (fun t9 ha hz hk => ?_) hS.2.2 hc hs
    · rcases List.mem_cons.mp hw with rfl | hw
      · exact (hot _ (Or.inl (zin_mem g2))).2
      · rcases List.mem_cons.mp hw with rfl | hw
        · exact (hot _ (Or.inl (zin_mem g3))).2
        · exact (hall w hw).2
    · unfold zXr
      rw [hr1, hr2]
      refine ⟨rfl, ⟨fun z => by (cases z), Nat.le_trans hH.2.1 hz, fun k9 e9 hk9 => ?_⟩, Nat.le_trans hS.1 hz, fun q g1 g2 => (hk q (Nat.lt_of_lt_of_le g1 hS.1)).trans (hS.2.1 q g1 g2)⟩
      have hlt : k9 < w.2.length := (List.getElem?_eq_some_iff.mp hk9).1
      exact (hH.2.2 k9 e9 hk9).kept (hk _ (by have := hH.2.1; omega))
  · cases h
theorem zret_c {ins : Instr} {rt : Option FieldType} {ov : Option Value} (h : zret ins rt st = some ov) : st = ov.toList := by
  cases ins
  case ireturn =>
    simp only [zret] at h
    split at h
    · next v =>
      split at h
      · cases hc : zisI v <;> rw [hc] at h <;> cases h
        rfl
      · cases hc : ztv .boolean v <;> rw [hc] at h <;> cases h
        rfl
      · cases h
    · cases h
  case lreturn =>
    simp only [zret] at h
    split at h
    · next v =>
      split at h
      · cases hc : zisL v <;> rw [hc] at h <;> cases h
        rfl
      · cases h
    · cases h
  case dreturn =>
    simp only [zret] at h
    split at h
    · next v =>
      split at h
      · cases hc : zisD v <;> rw [hc] at h <;> cases h
        rfl
      · cases h
    · cases h
  case areturn =>
    simp only [zret] at h
    split at h
    · next v =>
      split at h
      · cases hc : zisA v <;> rw [hc] at h <;> cases h
        rfl
      · cases hc : zisA v <;> rw [hc] at h <;> cases h
        rfl
      · cases h
    · cases h
  case return_ =>
    simp only [zret] at h
    split at h
    · split at h
      · cases h
        rfl
      · cases h
    · cases h
  all_goals cases h
/-- a method's end -/
theorem zret_end {ins : Instr} {ov : Option Value} {r : zR} (C0 : zCtx p l s m args meth c D cI cL X sc i) (hrt : meth.sig.returnType = zrt i) (hins : zfd (zil i) pc = some ins) (h : zret ins (zrt i) st = some ov) (hr1 : r.1 = .inl ov) (hH : zH D cI cL X r.2.1 H) (hS : va_S (zA X) s.heap H locs) :
    W p l e R s m args below meth c H locs cells slots (vx_MQ below (zQr D cI cL X r) (zXr D cI cL X r) args s cells slots (zA X)) (F0 m pc ls (st.map (zc X))) := by
  obtain ⟨hx, hb, hml, hown, hts, hlk, -, -, -, hI, hil, -⟩ := C0
  refine vx_ret ?_
  have hst := zret_c h
  have hq : ∀ t : State, t.heap = H → s.WarmedH t.vm → zQr D cI cL X r args s (.returned (ov.map (zc X))) t := by
    intro t ht hW
    unfold zQr
    rw [hr1]
    exact ⟨rfl, by rw [ht]; exact hH, hS.F ht⟩
  have hdc := zi_ok hins hil
  cases ins
  case ireturn =>
    have hd := hdc.plain rfl
    simp only [zret] at h
    split at h
    · next v =>
      split at h
      · next hrt2 =>
        cases hc : zisI v <;> rw [hc] at h <;> cases h
        obtain ⟨x, hxv⟩ := zisI_c (X := X) hc
        have hq' := hq
        simp only [Option.map_some, hxv] at hq'
        show W p l e R s m args below meth c H locs cells slots _ (F0 m pc ls [zc X v])
        rw [hxv]
        exact W.iret hx hb (hrt.trans hrt2) hq' hS.2.2 hd hlk
      · next hrt2 =>
        cases hc : ztv .boolean v <;> rw [hc] at h <;> cases h
        obtain ⟨hn, hf⟩ := ztv_c (X := X) hc
        cases v with
        | int x => exact W.zret hx hb (hrt.trans hrt2) hn hq hS.2.2 hd hlk
        | _ => simp [ztv] at hc
      · cases h
    · cases h
  case lreturn =>
    have hd := hdc.plain rfl
    simp only [zret] at h
    split at h
    · next v =>
      split at h
      · next hrt2 =>
        cases hc : zisL v <;> rw [hc] at h <;> cases h
        obtain ⟨x, rfl, hxv⟩ := zisL_c (X := X) hc
        exact W.lret hx hb (hrt.trans hrt2) hq hS.2.2 hd hlk
      · cases h
    · cases h
  case dreturn =>
    have hd := hdc.plain rfl
    simp only [zret] at h
    split at h
    · next v =>
      split at h
      · next hrt2 =>
        cases hc : zisD v <;> rw [hc] at h <;> cases h
        obtain ⟨x, rfl, hxv⟩ := zisD_c (X := X) hc
        exact W.dret hx hb (hrt.trans hrt2) hq hS.2.2 hd hlk
      · cases h
    · cases h
  case areturn =>
    have hd := hdc.plain rfl
    simp only [zret] at h
    split at h
    · next v =>
      split at h
      · next nm hrt2 =>
        cases hc : zisA v <;> rw [hc] at h <;> cases h
        exact W.aret hx hb (hrt.trans hrt2) (Or.inl ⟨_, rfl⟩) ((zisA_c (X := X) hc).symm) hq hS.2.2 hd hlk
      · next nm hrt2 =>
        cases hc : zisA v <;> rw [hc] at h <;> cases h
        exact W.aret hx hb (hrt.trans hrt2) (Or.inr ⟨_, rfl⟩) ((zisA_c (X := X) hc).symm) hq hS.2.2 hd hlk
      · cases h
    · cases h
  case return_ =>
    have hd := hdc.plain rfl
    simp only [zret] at h
    split at h
    · split at h
      · next hrt2 =>
        cases h
        exact W.vret hx hb (hrt.trans hrt2) hq hS.2.2 hd hlk
      · cases h
    · cases h
  all_goals cases h
end ZBD
end
section
/-! ===== the loop is sound; so is each call ===== -/
section ZLS
variable {p : Program} {l : Launch} {e : Env} {R : Room} {s : State} {m : MethodId} {args : Array Value} {below : List Frame} {meth : Method} {c : Code} {Q : State → Prop}
variable {i : Nat} {X : zX} {sc : List Value} {sy : zSz} {D : va_G} {cI cL : ClassId}
theorem ztoList (X : zX) (ov : Option Value) (rest : List Value) : (ov.map (zc X)).toList ++ rest.map (zc X) = (ov.toList ++ rest).map (zc X) := by
  cases ov <;> rfl
theorem zhnd_spec {i pc : Nat} {E : String} {h : Nat × Nat} (hh : zhnd i pc E = some h) : ∃ t, (i, t) ∈ zHd ∧ t.1 ≤ pc ∧ pc < t.2.1 ∧ t.2.2.2.2.1 = E ∧ ((zfd (zil i) t.2.2.1 = some (.astore h.2) ∧ h.1 = t.2.2.1 + 2) ∨ (∃ k : Fin 4, zfd (zil i) t.2.2.1 = some (.astore_n k) ∧ h = (t.2.2.1 + 1, (k : Nat)))) := by
  unfold zhnd at hh
  split at hh
  · next t ht =>
    have hm := zfd_mem ht
    cases hc : (decide (t.1 ≤ pc) && decide (pc < t.2.1) && decide (t.2.2.2.2.1 = E)) with
    | false => rw [hc] at hh; cases hh
    | true =>
      rw [hc] at hh
      simp only [cond_true] at hh
      simp only [Bool.and_eq_true, decide_eq_true_eq] at hc
      split at hh
      · next k hk =>
        cases hh
        exact ⟨t, hm, hc.1.1, hc.1.2, hc.2, Or.inl ⟨hk, rfl⟩⟩
      · next k hk =>
        cases hh
        exact ⟨t, hm, hc.1.1, hc.1.2, hc.2, Or.inr ⟨k, hk, rfl⟩⟩
      · cases hh
  · cases hh
/-- an exception of a callee, caught by the first row of the method's table -/
theorem zcatch {pc : Nat} {E : String} {h : Nat × Nat} {lv lv' : List Value} {ls : Array Slot} {H : Heap} {locs : List Loc} {cells slots : Nat} {q9 : Addr} {ce : Cell} {rest : List Value} (C0 : zCtx p l s m args meth c D cI cL X sc i) (hh : zhnd i pc E = some h) (hl : zL X ls (zml i) lv) (hb9 : zbad lv h.2 = false) (hlt : h.2 < lv.length) (hlv : lv' = lv.set h.2 zmk)
    (hce : H[q9]? = some ce) (hcv : ce.vm = .none) (hcl : s.vm.findClass E = some ce.cls)
    (kk : ∀ ls', zL X ls' (zml i) lv' → W p l e R s m args below meth c H locs cells slots Q (F0 m h.1 ls' [])) : vx_W p l e R s m args below meth c H locs cells slots Q (F0 m pc ls rest) q9 := by
  obtain ⟨hx, hb, hml, hown, hts, hlk, htb, -, -, hI, hil, -⟩ := C0
  have hN := hI.2.2.1
  obtain ⟨t, hm, h1, h2, h3, h4⟩ := zhnd_spec hh
  have hck := List.all_eq_true.mp zHd_chk _ hm
  unfold zHdok at hck
  split at hck
  · next x xs hxs =>
    simp only [Bool.and_eq_true, decide_eq_true_eq, Bool.not_eq_true', decide_eq_false_iff_not] at hck
    obtain ⟨⟨⟨g1, g2⟩, g3⟩, g4⟩ := hck
    have htab : c.exceptionTable.toList = [] ++ (⟨t.1, t.2.1, t.2.2.1, t.2.2.2.1⟩ : ExceptionTableEntry) :: tableOf xs := by
      rw [htb _ hxs, g1]
      rfl
    refine vx_catch (name := t.2.2.2.2.1) (E := E) hown [] ⟨t.1, t.2.1, t.2.2.1, t.2.2.2.1⟩ (tableOf xs) htab (fun z hz => by cases hz) ?_ g2 (hts _ (zin_mem g3)) ?_ hce hcv hcl ?_
    · show (decide (t.1 ≤ pc) && decide (pc < t.2.1)) = true
      simp [h1, h2]
    · have := va_Nw.use (A := args) rfl (hN _ (zxn_mem g4))
      rw [h3] at this ⊢
      exact this
    · show W p l e R s m args below meth c H locs cells slots Q (F0 m t.2.2.1 ls [.ref q9])
      have hL := hl.1
      subst hlv
      rcases h4 with ⟨h5, h6⟩ | ⟨k, h5, rfl⟩
      · have hd := (zi_ok h5 hil).plain rfl
        refine lv_astore hx hb hd hl.has (by rw [← hL]; exact hlt) rfl fun ls' h' => ?_
        rw [← h6]
        exact kk ls' (hl.st1 hb9 (Or.inl rfl) h')
      · have hd := (zi_ok h5 hil).plain rfl
        exact lv_astore_n hx hb hd rfl hl.has (by rw [← hL]; exact hlt) rfl fun ls' h' => kk ls' (hl.st1 hb9 (Or.inl rfl) h')
  · cases hck
set_option maxHeartbeats 4000000 in
theorem zloop_sound {r : zR} {call : Nat → List Value → zW → Option zR} (C0 : zCtx p l s m args meth c D cI cL X sc i) (hsy : zSyOk X sy) (hcall : ∀ j as w r', call j as w = some r' → j < zLaw → zSpec l D cI cL X sc j as w r')
    (hRc : r.2.2.1 ≤ R.cells) (hRs : r.2.2.2 ≤ R.slots) (hRf : zFr i ≤ R.frames) (hRl : zLo i ≤ R.locals)
    (hE : ∀ ov, r.1 = .inl ov → ∀ pc ls H locs ins st, zfd (zil i) pc = some ins → zret ins (zrt i) st = some ov → zH D cI cL X r.2.1 H → va_S (zA X) s.heap H locs → W p l e R s m args below meth c H locs r.2.2.1 r.2.2.2 Q (F0 m pc ls (st.map (zc X))))
    (hT : ∀ E, r.1 = .inr E → zhas i = false → ∀ pc ls H locs q ce rest, zH D cI cL X r.2.1 H → va_S (zA X) s.heap H locs → H[q]? = some ce → ce.vm = .none → s.vm.findClass E = some ce.cls → vx_W p l e R s m args below meth c H locs r.2.2.1 r.2.2.2 Q (F0 m pc ls rest) q)
    (hD : ∀ E, r.1 = .inr E → zhas i = false → ∀ pc ls H locs w cells slots, zthr i pc = some E → ls.size = c.maxLocals → r.2.1 = (true, (w : zW).2) → r.2.2.1 = cells + 1 → r.2.2.2 = slots + 6 → zH D cI cL X w H → va_S (zA X) s.heap H locs → W p l e R s m args below meth c H locs cells slots Q (F0 m pc ls [])) :
    ∀ (n pc : Nat) (lv st : List Value) (w : zW) (c0 s0 : Nat), zloop sc sy call n i pc lv st w c0 s0 = some r → (c0 ≤ r.2.2.1 ∧ s0 ≤ r.2.2.2) ∧ ∀ (H : Heap) (ls : Array Slot) (locs : List Loc), zL X ls (zml i) lv → zH D cI cL X w H → va_S (zA X) s.heap H locs → W p l e R s m args below meth c H locs c0 s0 Q (F0 m pc ls (st.map (zc X))) := by
  obtain ⟨hx, hb, hml, hown, hts, hlk, htb, hnt, hin, hI, hil, hstk⟩ := id C0
  intro n
  induction n with
  | zero => intro pc lv st w c0 s0 h; cases h
  | succ n ih =>
    intro pc lv st w c0 s0 h
    simp only [zloop] at h
    rw [zfrc_eq] at h
    split at h
    · cases h
    · next ins hins =>
      have hdc := zi_ok hins hil
      split at h
      · next ov hov =>
        have he := (Option.some.inj h).symm
        subst he
        exact ⟨⟨Nat.le_refl _, Nat.le_refl _⟩, fun H ls locs hl hH hS => hE ov rfl pc ls H locs ins st hins hov hH hS⟩
      · split at h
        · next q hq =>
          obtain ⟨h1, h2⟩ := ih _ _ _ _ _ _ h
          exact ⟨h1, fun H ls locs hl hH hS => zps_sound hsy hx hb hdc hq hl fun ls' hl' => h2 H ls' locs hl' hH hS⟩
        · split at h
          · next q hq =>
            rw [zfrc_eq, zfrc_eq] at h
            obtain ⟨h1, h2⟩ := ih _ _ _ _ _ _ h
            refine ⟨⟨by omega, by omega⟩, fun H ls locs hl hH hS => ?_⟩
            exact zmem_sound hx hb hdc hts hown hI.1 hin hI.2.1 hI.2.2.2.2.2.2.1 hI.2.2.2.2.2.2.2 hq hH hS (Nat.le_trans h1.1 hRc) (Nat.le_trans h1.2 hRs) fun H1 locs1 hH1 hS1 => h2 H1 ls locs1 hl hH1 hS1
          · split at h
            · next q hq =>
              have hfl := zinv_fl hins hil hq
              by_cases hsum : 8 < zsum q.2.2.2
              · simp [hsum] at h
              · simp only [hsum, decide_false, cond_false] at h
                have hsum : zsum q.2.2.2 ≤ 8 := by omega
                split at h
                · next h6 =>
                  obtain ⟨h1, h2⟩ := ih _ _ _ _ _ _ h
                  exact ⟨h1, fun H ls locs hl hH hS => zobj C0 hins hq h6 (hl.2.1.trans hml.symm) hsum (Nat.le_trans (hfl.1 (by omega)).1 hRf) (Nat.le_trans (hfl.1 (by omega)).2 hRl) (h2 H ls locs hl hH hS)⟩
                · next h8 =>
                  split at h
                  · next v hv =>
                    obtain ⟨h1, h2⟩ := ih _ _ _ _ _ _ h
                    exact ⟨h1, fun H ls locs hl hH hS => zmx_max C0 hins hq h8 hsy hv (hl.2.1.trans hml.symm) hsum (Nat.le_trans (hfl.1 (by omega)).1 hRf) (Nat.le_trans (hfl.1 (by omega)).2 hRl) (Nat.le_trans h1.1 hRc) (Nat.le_trans h1.2 hRs) (h2 H ls locs hl hH hS)⟩
                  · cases h
                · next h9 =>
                  split at h
                  · next v hv =>
                    obtain ⟨h1, h2⟩ := ih _ _ _ _ _ _ h
                    exact ⟨h1, fun H ls locs hl hH hS => zmx_min C0 hins hq h9 hsy hv (hl.2.1.trans hml.symm) hsum (Nat.le_trans (hfl.1 (by omega)).1 hRf) (Nat.le_trans (hfl.1 (by omega)).2 hRl) (Nat.le_trans h1.1 hRc) (Nat.le_trans h1.2 hRs) (h2 H ls locs hl hH hS)⟩
                  · cases h
                · next h7 =>
                  split at h
                  · next w' hw' =>
                    obtain ⟨h1, h2⟩ := ih _ _ _ _ _ _ h
                    exact ⟨h1, fun H ls locs hl hH hS => zcp_sound C0 hins hq h7 hw' (hl.2.1.trans hml.symm) hsum (Nat.le_trans (hfl.1 (by omega)).1 hRf) (Nat.le_trans (hfl.1 (by omega)).2 hRl) hH hS fun H1 locs1 hH1 hS1 => h2 H1 ls locs1 hl hH1 hS1⟩
                  · cases h
                · next h6 h8 h9 h7 =>
                  have door : ∀ (H : Heap) (locs : List Loc) (ls : Array Slot), zH D cI cL X w H → va_S (zA X) s.heap H locs → ls.size = c.maxLocals → ∀ r', call q.2.1 q.2.2.1 w = some r' → c0 + r'.2.2.1 ≤ R.cells → s0 + r'.2.2.2 ≤ R.slots → vx_Run p l e R s m args below meth c H locs c0 s0 r'.2.2.1 r'.2.2.2 (F0 m pc ls (st.map (zc X))) (q.2.2.2.map (zc X)) (zQr D cI cL X r' (q.2.2.1.map (zc X)).toArray) (zXr D cI cL X r') (zA X) := by
                    intro H locs ls hH hS hls r' hr' hc9 hs9
                    obtain ⟨k1, k2, ⟨ig, k3⟩, k4⟩ := zinv_go (H := H) (locs := locs) (cells := c0) (slots := s0) (R := R) (e := e) (below := below) (ls := ls) C0 hins hq hH h6 h7 h8 h9
                    have hM := hcall _ _ _ _ hr' k1
                    have hmlj := zml_le k1
                    have hlt6 : ¬ 6 ≤ q.1 := by
                      have a5 := hfl.2.2
                      have a6 : q.1 ≠ 6 := h6
                      have a7 : q.1 ≠ 7 := h7
                      have a8 : q.1 ≠ 8 := h8
                      have a9 : q.1 ≠ 9 := h9
                      omega
                    have hfj := hfl.2.1 hlt6
                    refine zrun k4 hM (zPre_blind D cI cL X sc q.2.2.1 w) rfl rfl (by show zFr q.2.1 + 1 ≤ _; omega) (by show 8 + (zml q.2.1 + 11) + zLo q.2.1 ≤ _; omega) (pay_in hts (fun w9 hw9 => ?_)) List.mem_cons_self k2 (fun U hU hW => ⟨rfl, by rw [hU]; exact hH, hI.move hW (by rw [hU]; exact hS.1) (fun q9 g1 g2 => by rw [hU]; exact hS.2.1 q9 g1 g2)⟩) hls (by rw [zsum_cat]; exact hsum) k3 ⟨hc9, hs9⟩
                    rcases List.mem_cons.mp hw9 with rfl | hw9
                    · exact zG_good (zcw_ok k1).1
                    · exact zG_good hw9
                  split at h
                  · cases h
                  · next ov w' dc ds hr' =>
                    rw [zfrc_eq, zfrc_eq] at h
                    obtain ⟨h1, h2⟩ := ih _ _ _ _ _ _ h
                    refine ⟨⟨by omega, by omega⟩, fun H ls locs hl hH hS => ?_⟩
                    have hrun := door H locs ls hH hS (hl.2.1.trans hml.symm) _ hr' (Nat.le_trans h1.1 hRc) (Nat.le_trans h1.2 hRs)
                    intro T hT9 X9
                    rcases hrun T hT9 X9 with ⟨v, st₀, t, T', L, g0, X', hL, e1, e2, hq9, stp⟩ | ⟨q9, st₀, t, T', L, E, ce, g0, X', hL, e1, e2, hq9, hce, hcv, hcl, stp⟩
                    · obtain ⟨hv, hH', hF⟩ : Outcome.returned v = .returned (ov.map (zc X)) ∧ zH D cI cL X w' t.heap ∧ va_F (zA X) st₀ t := hq9
                      cases hv
                      obtain ⟨z1, z2, z3⟩ := vx_keep g0 e1 hS (fun _ _ h => h) (fun _ h => h) hL hF
                      obtain ⟨t2, a1, b1⟩ := h2 T'.heap ls (locs ++ L) hl (by rw [e1]; exact hH') z3 T' rfl X'
                      refine ⟨t2, stp t2 ?_, b1⟩
                      rw [← ztoList] at a1
                      exact a1
                    · exact hq9.elim
                  · next E w' dc ds hr' =>
                    split at h
                    · next hd' hhd =>
                      obtain ⟨hb9, hlt9, h⟩ := zst1_spec h
                      rw [zfrc_eq, zfrc_eq] at h
                      obtain ⟨h1, h2⟩ := ih _ _ _ _ _ _ h
                      refine ⟨⟨by omega, by omega⟩, fun H ls locs hl hH hS => ?_⟩
                      have hrun := door H locs ls hH hS (hl.2.1.trans hml.symm) _ hr' (Nat.le_trans h1.1 hRc) (Nat.le_trans h1.2 hRs)
                      intro T hT9 X9
                      rcases hrun T hT9 X9 with ⟨v, st₀, t, T', L, g0, X', hL, e1, e2, hq9, stp⟩ | ⟨q9, st₀, t, T', L, E2, ce, g0, X', hL, e1, e2, hq9, hce, hcv, hcl, stp⟩
                      · exact hq9.elim
                      · obtain ⟨hv, hH', hF⟩ : E2 = E ∧ zH D cI cL X w' t.heap ∧ va_F (zA X) st₀ t := hq9
                        subst hv
                        obtain ⟨z1, z2, z3⟩ := vx_keep g0 e1 hS (fun _ _ h => h) (fun _ h => h) hL hF
                        have hk := zcatch (R := R) (e := e) (below := below) (Q := Q) (locs := locs ++ L) (cells := c0 + dc) (slots := s0 + ds) (rest := q.2.2.2.map (zc X)) C0 hhd hl hb9 hlt9 rfl (show T'.heap[q9]? = some ce by rw [e1]; exact hce) hcv hcl (fun ls' hl' => h2 T'.heap ls' (locs ++ L) hl' (by rw [e1]; exact hH') z3)
                        obtain ⟨t2, a1, b1⟩ := hk T' rfl X'
                        exact ⟨t2, stp.trans a1, b1⟩
                    · cases hhs : zhas i with
                      | true => rw [hhs] at h; cases h
                      | false =>
                        rw [hhs] at h
                        have he := (Option.some.inj h).symm
                        subst he
                        refine ⟨⟨Nat.le_add_right _ _, Nat.le_add_right _ _⟩, fun H ls locs hl hH hS => ?_⟩
                        have hrun := door H locs ls hH hS (hl.2.1.trans hml.symm) _ hr' hRc hRs
                        intro T hT9 X9
                        rcases hrun T hT9 X9 with ⟨v, st₀, t, T', L, g0, X', hL, e1, e2, hq9, stp⟩ | ⟨q9, st₀, t, T', L, E2, ce, g0, X', hL, e1, e2, hq9, hce, hcv, hcl, stp⟩
                        · exact hq9.elim
                        · obtain ⟨hv, hH', hF⟩ : E2 = E ∧ zH D cI cL X w' t.heap ∧ va_F (zA X) st₀ t := hq9
                          subst hv
                          obtain ⟨z1, z2, z3⟩ := vx_keep g0 e1 hS (fun _ _ h => h) (fun _ h => h) hL hF
                          obtain ⟨t2, a1, b1⟩ := hT E2 rfl hhs pc ls T'.heap (locs ++ L) q9 ce (q.2.2.2.map (zc X)) (by rw [e1]; exact hH') z3 (by rw [e1]; exact hce) hcv hcl T' rfl X'
                          exact ⟨t2, stp.trans a1, b1⟩
            · split at h
              · next E hthr =>
                split at h
                · cases hhs : zhas i with
                  | true => rw [hhs] at h; cases h
                  | false =>
                    rw [hhs] at h
                    have he := (Option.some.inj h).symm
                    subst he
                    exact ⟨⟨Nat.le_add_right _ _, Nat.le_add_right _ _⟩, fun H ls locs hl hH hS => hD E rfl hhs pc ls H locs w c0 s0 hthr (hl.2.1.trans hml.symm) rfl rfl rfl hH hS⟩
                · cases h
              · cases h
end ZLS
end
section
/-! ===== each call meets its contract ===== -/
theorem zarg_len (as : List Value) : (zarg as).length = (lg_sl as).length := by
  induction as with
  | nil => rfl
  | cons v r ih =>
    have e : (lg_sl (v :: r)).length = (if v.category = 2 then [Slot.val v, .second] else [Slot.val v]).length + (lg_sl r).length := by
      unfold lg_sl
      rw [List.flatMap_cons, List.length_append]
    rw [e, ← ih]
    show (bif zcat2 v then v :: zmk :: zarg r else v :: zarg r).length = _
    cases hv : zcat2 v with
    | true =>
      rw [if_pos ((zcat2_iff v).mp hv)]
      simp only [cond_true, List.length_cons, List.length_nil]
      omega
    | false =>
      rw [if_neg (by rw [zcat2_f hv]; decide)]
      simp only [cond_false, List.length_cons, List.length_nil]
      omega
theorem zlg_len (X : zX) (as : List Value) : (lg_sl (as.map (zc X))).length = (zarg as).length := by
  rw [zarg_len]
  unfold lg_sl
  induction as with
  | nil => rfl
  | cons v r ih =>
    rw [List.map_cons, List.flatMap_cons, List.flatMap_cons, List.length_append, List.length_append, ih, zc_cat]
    split <;> rfl
theorem zarg_in (X : zX) (as : List Value) : ∀ (o i : Nat) (v : Value), (zarg as)[i]? = some v → v ≠ zmk → (o + i, zc X v) ∈ lv_args o (as.map (zc X)) := by
  induction as with
  | nil => intro o i v h; simp [zarg] at h
  | cons a r ih =>
    intro o i v h hv
    rw [List.map_cons]
    unfold lv_args
    unfold zarg at h
    cases ha : zcat2 a with
    | true =>
      rw [ha] at h
      simp only [cond_true] at h
      rw [if_pos (by rw [zc_cat]; exact (zcat2_iff a).mp ha)]
      match i, h with
      | 0, h =>
        cases h
        exact List.mem_cons_self
      | 1, h =>
        have h1 : some zmk = some v := h
        exact absurd (Option.some.inj h1).symm hv
      | j + 2, h =>
        have h1 : (zarg r)[j]? = some v := h
        have := ih (o + 2) j v h1 hv
        rw [show o + (j + 2) = o + 2 + j by omega]
        exact List.mem_cons_of_mem _ this
    | false =>
      rw [ha] at h
      simp only [cond_false] at h
      rw [if_neg (by rw [zc_cat, zcat2_f ha]; decide)]
      match i, h with
      | 0, h =>
        cases h
        exact List.mem_cons_self
      | j + 1, h =>
        have h1 : (zarg r)[j]? = some v := h
        have := ih (o + 1) j v h1 hv
        rw [show o + (j + 1) = o + 1 + j by omega]
        exact List.mem_cons_of_mem _ this
theorem zent_L (X : zX) {as : List Value} {n : Nat} (h : (zarg as).length ≤ n) : zL X ((lg_sl (as.map (zc X)) ++ List.replicate (n - (lg_sl (as.map (zc X))).length) Slot.unset).toArray) n (zent n as) := by
  have h1 := lv_entry (as.map (zc X)) (n := n) (by rw [zlg_len]; exact h)
  refine ⟨?_, h1.1, h1.2.1, fun i v hi hv => ?_⟩
  · unfold zent
    simp; omega
  · unfold zent at hi
    have hlt : i < (zarg as).length := by
      by_cases g : i < (zarg as).length
      · exact g
      · rw [List.getElem?_append_right (by omega), List.getElem?_replicate] at hi
        split at hi
        · cases hi
          exact absurd rfl hv
        · cases hi
    rw [List.getElem?_append_left hlt] at hi
    have := zarg_in X as 0 i v hi hv
    rw [Nat.zero_add] at this
    exact h1.2.2 _ this
theorem zcall_sound {l : Launch} {D : va_G} {cI cL : ClassId} {X : zX} {sc : List Value} {sy : zSz} (hl : l.stackTraces = false) (hsy : zSyOk X sy) (N : Nat) : ∀ (d j : Nat) (as : List Value) (w : zW) (r : zR), zcall sc sy N d j as w = some r → j < zLaw → zSpec l D cI cL X sc j as w r := by
  intro d
  induction d with
  | zero => intro j as w r h; cases h
  | succ d ih =>
    intro j as w r h hj
    simp only [zcall] at h
    cases hg : (decide ((zarg as).length ≤ zml j) && decide (j < zLaw)) with
    | false => rw [hg] at h; cases h
    | true =>
      rw [hg] at h
      simp only [cond_true] at h
      simp only [Bool.and_eq_true, decide_eq_true_eq] at hg
      obtain ⟨hw, hcls, hpl, -, -⟩ := zcw_ok hj
      have key : ∀ (p : Program) (e : Env) (s : State) (m : MethodId) (args : Array Value) (below : List Frame) (meth : Method) (c : Code) (s₁ : State), BodyLoose p l (zy j) (headSpec (zws j) (zRoom j r)) (zmt j).2.1 (zml j) (zrt j) e s m args below meth c s₁ → c.maxLocals = zml j →
          ((∀ hh, (zmt j).2.2.2.2.1 = some hh → c.exceptionTable.toList = tableOf hh) ∧ ((zmt j).2.2.2.2.1 = none → ∀ x ∈ c.exceptionTable.toList, False)) → zPre D cI cL X sc as w args s →
          W p l e (headSpec (zws j) (zRoom j r)).room s m args below meth c s.heap [] 0 0 (vx_MQ below (zQr D cI cL X r) (zXr D cI cL X r) args s r.2.2.1 r.2.2.2 (zA X)) (entryFrame m args (zml j)) := by
        intro p e s m args below meth c s₁ B hml htab hP
        obtain ⟨rfl, hH, hI⟩ := hP
        have hown : s.vm.findClass (zon (zoc j)) = some m.cls := by rw [hcls]; exact findClass_of_methodNamed B.named
        have hts0 := atoms_spec (ws := zws j) B.pre
        have hin : zini j = true → meth.name = "<init>" := fun z => by
          rw [(name_of_methodNamed B.named B.method).1]
          unfold zini at z
          exact eq_of_beq z
        have C0 : zCtx p l s m _ meth c D cI cL X sc j := ⟨B.exec, B.bytes, hml, hown, fun w9 hw9 => hts0 w9 (List.mem_cons_of_mem _ hw9), B.notSynchronized, htab.1, fun _ => htab.2, hin, hI, Nat.le_of_lt hj, hl⟩
        rw [lg_entry_eq]
        have hS : va_S (zA X) s.heap s.heap [] := va_S.rf
        refine (zloop_sound (Q := vx_MQ below (zQr D cI cL X r) (zXr D cI cL X r) _ s r.2.2.1 r.2.2.2 (zA X)) (R := (headSpec (zws j) (zRoom j r)).room) (e := e) (below := below) C0 hsy (fun j' as' w' r' h' hj' => ih j' as' w' r' h' hj') (Nat.le_refl _) (Nat.le_refl _) (Nat.le_refl _) (Nat.le_refl _) ?_ ?_ ?_ N 0 (zent (zml j) as) [] w 0 0 h).2 s.heap _ [] (zent_L X hg.1) hH hS
        · intro ov hr1 pc ls H locs ins st h1 h2 h3 h4
          exact zret_end C0 B.returns h1 h2 hr1 h3 h4
        · intro E hr1 hh pc ls H locs q ce rest h1 h2 h3 h4 h5
          refine vx_out (XC := zXr D cI cL X r) (E := E) (fun x hx => (htab.2 (by unfold zhas at hh; cases hq : (zmt j).2.2.2.2.1 with
            | none => rfl
            | some y => rw [hq] at hh; cases hh) x hx).elim) B.notSynchronized h3 h4 h5 (fun t ht ha => ?_) h2.2.2 (Nat.le_refl _) (Nat.le_refl _)
          unfold zXr
          rw [hr1]
          exact ⟨rfl, by rw [ht]; exact h1, h2.F ht⟩
        · intro E hr1 hh pc ls H locs w9 cells slots h1 h2 h3 h4 h5 h6 h7
          exact absurd h1 (by simp [zthr, zTh, zfd2])
      unfold zSpec
      have hzw : zws j = zcw j :: zG := rfl
      cases hh : (zmt j).2.2.2.2.1 with
      | none =>
        have hcw : zcw j = .code (zy j) (zmt j).2.1 (zml j) (zrt j) := by unfold zcw; rw [hh]; rfl
        rw [hcw] at hzw
        exact vx_ofW (cc := (zmt j).2.1) (maxL := zml j) (ret := zrt j) hpl hzw fun p e s m args below meth c s₁ B hml htab hP => key p e s m args below meth c s₁ B hml ⟨fun x hx => (by rw [hh] at hx; cases hx), fun _ => htab⟩ hP
      | some hs9 =>
        have hcw : zcw j = .codeWith (zy j) (zmt j).2.1 (zml j) (zrt j) hs9 := by unfold zcw; rw [hh]; rfl
        rw [hcw] at hzw
        refine vx_ofWH (cc := (zmt j).2.1) (maxL := zml j) (ret := zrt j) (hh := hs9) hpl hzw fun p e s m args below meth c s₁ B hml hP => key p e s m args below meth c s₁ B hml ⟨fun x hx => ?_, fun z => by rw [hh] at z; cases z⟩ hP
        rw [hh] at hx
        cases hx
        exact vx_table (x := zy j) B (atoms_spec (ws := zws j) B.pre _ (by rw [hzw]; exact List.mem_cons_self))
end
section
/-! THE CLAIM OUT OF ONE WALK OF THE LAW'S BODY. Your part is whole_start (and what it stands on); all else here is the same for every law, but numbers. -/
def R_law : String := "HeapwrightLabLaw"
def lw_P (b : Addr) (xs : List Int32) (args : Array Value) (s : State) : Prop := args = #[.ref b] ∧ s.IntsAt b xs ∧ xs.length ≤ 260 ∧ (Jvm.Cond.and given_1 narrow_1).before args s = true
def lw_Q (_ : Array Value) (s : State) (o : Outcome) (t : State) : Prop := o = .returned (some (.int 1)) ∧ Framed s o t [] 600130 7301080
def lw_Z (below : List Frame) (a : Array Value) (s : State) : State → Prop := fun t => ∃ o, t.status = .running ∧ Ended t below o ∧ lw_Q a s o t
/-- the law's own end, with 1 on the stack, nothing written that was there before, its room as the claim has it -/
theorem lw_ret {p : Program} {l : Launch} {e : Env} {s : State} {m : MethodId} {below : List Frame} {meth : Method} {c : Code} {b : Nat} (hx : p.tables.exec = Jvm.exec) (hb : c.code = code) (hr : meth.sig.returnType = ret) (hlocks : meth.locks = false) {pc : Nat} {H : Heap} {ls : Array Slot} (hdg : decode code pc = .ok (.ireturn, 1)) : W p l e room_1 s m #[Value.ref b] below meth c H [] 600130 7301080 (lw_Z below #[Value.ref b] s) (F0 m pc ls [.int 1]) := by
  intro T hT X
  obtain ⟨fs, hret, hrun, hended, hW, hframe⟩ := X.leave (v := some (.int 1)) (hlocks := hlocks) (fun h => by rw [hr] at h; cases h)
  have hmeth' : T.vm.method? m = some meth := X.method'
  refine ⟨T.setFrames fs, ?_, .returned (some (.int 1)), hrun, hended, rfl, ⟨_, rfl⟩, hW, hframe⟩
  jvm_step X.here [X.here.top, hx, hb, hdg, hmeth', hr, ret, narrow_b1]
  (try refine ⟨rfl, ?_⟩); (try refine ⟨rfl, ?_⟩)
  first | (intro acts; rw [hret _ acts rfl rfl rfl]) | rw [hret _ _ rfl rfl rfl]
  exact Steps.refl _
/-- what holds at the law's entry: the machine, the code, the tables' words (any of lw_tbl by 'hts w (by decide +kernel)'), the script of L ints xs at the cell b, what the Statement gives of the start (any of its parts by flat_of_before) -/
def lw_At (p : Program) (s : State) (m : MethodId) (meth : Method) (c : Code) (b L : Nat) (xs : Nat → Int32) : Prop :=
  p.tables.exec = Jvm.exec ∧ c.code = code ∧ meth.sig.returnType = ret ∧ c.maxLocals = 20 ∧ s.vm.findClass R_law = some m.cls ∧ (∀ w ∈ lw_tbl, w.before #[Value.ref b] s = true) ∧ va_X b L xs s s.heap ∧ b < s.heap.size ∧ meth.locks = false ∧ (Jvm.Cond.and given_1 narrow_1).before #[Value.ref b] s = true
end
section
/-! ===== the law's own frame: what its start gives; a run of the small machine gives the claim's walk ===== -/
theorem z_selects {C : String} {x : MethodName} {s : State} {args : Array Value} {n : Nat} (hy : x.cls ≠ "java/lang/invoke/MethodHandle" ∧ x.cls ≠ "java/lang/invoke/VarHandle")
    (hins : (Cond.instantiable C n).before args s = true) (hpriv : (Cond.privateMethod x).before args s = true) (hinst : (Cond.instanceMethod x).before args s = true) (hsame : (Cond.sameMethod x.cls x.cls x.name x.desc).before args s = true) :
    (Cond.selects C x x).before args s = true := by
  obtain ⟨c, k, hc, hk, -, hniab, -, -⟩ := Cond.instantiable_spec hins
  obtain ⟨mk, methM, hnamed, hmethM, -, -⟩ := Cond.instanceMethod_spec hinst
  have hfound : s.methodFound? x.cls x.name x.desc = some mk := State.methodFound?_of_named hnamed hy
  obtain ⟨cn, ck, r1, hcn, hck, hni, hf, hn1⟩ := Cond.sameMethod_found hsame
  have hcls : mk.cls = cn := Option.some.inj ((findClass_of_methodNamed hnamed).symm.trans hcn)
  have hsel : selectMethod {} s.vm c mk = .method mk := selectMethod_private hmethM (Cond.privateMethod_at hpriv mk methM hnamed hmethM)
  simp only [Cond.before, Cond.holds, Cond.value, hc, hfound, hnamed, hsel, hcls, hck]
  simp; exact hni
def zwq (i : Nat) (w : Cond) : Bool := decide (zwd i = some w) && decide (1000 ≤ i)
theorem zBk_tl : lw_tbl = zBk.tail.flatten := by
  simp only [zBk, lw_tbl, tables_1, List.tail_cons, List.flatten_cons, List.flatten_nil, List.append_nil]
theorem zwq_mem {i : Nat} {w : Cond} (h : zwq i w = true) : w ∈ lw_tbl := by
  unfold zwq at h
  simp only [Bool.and_eq_true, decide_eq_true_eq] at h
  obtain ⟨h, hi⟩ := h
  unfold zwd at h
  rw [zat_eq] at h
  obtain ⟨l, hl, hw⟩ := zatL_mem (List.mem_of_getElem? h)
  obtain ⟨k, hk⟩ : ∃ k, i / 1000 = k + 1 := ⟨i / 1000 - 1, by omega⟩
  rw [hk] at hl
  have hl2 : zBk.tail[k]? = some l := by rw [List.getElem?_tail]; exact hl
  rw [zBk_tl]
  exact List.mem_flatten.mpr ⟨l, List.mem_of_getElem? hl2, hw⟩
set_option maxRecDepth 100000 in
theorem zXs_chk : zXs.all (fun q => znmh q.2.1.cls && zwq q.2.2.1 (.instantiable q.1 q.2.2.2.1) && zwq q.2.2.2.2.1 (.privateMethod q.2.1) && zwq q.2.2.2.2.2.1 (.instanceMethod q.2.1) && zwq q.2.2.2.2.2.2 (.sameMethod q.2.1.cls q.2.1.cls q.2.1.name q.2.1.desc)) = true := by decide +kernel
set_option maxRecDepth 100000 in
theorem zSt_chk : zSt.all (fun q => zwq q.2.2.2 (.stringRef q.1 q.2.1 q.2.2.1) && decide (Cond.exactly (.string q.1 q.2.1) "java/lang/String" ∈ flatC (Jvm.Cond.and given_1 narrow_1))) = true := by decide +kernel
set_option maxRecDepth 100000 in
theorem zcl_ins : zcl.all (fun q => zmemB (.instantiable q.1 q.2.2)) = true := by decide +kernel
set_option maxRecDepth 100000 in
theorem zlU : Cond.laysStatic Bundle.tN "UNASSIGNED_STACK" Bundle.steD ∈ lw_tbl := by decide +kernel
set_option maxRecDepth 100000 in
theorem zlN : Cond.laysStatic Bundle.tN "SUPPRESSED_SENTINEL" Bundle.listD ∈ lw_tbl := by decide +kernel
set_option maxRecDepth 100000 in
theorem zlI : Cond.initialized Bundle.tN ∈ lw_tbl := by decide +kernel
set_option maxRecDepth 100000 in
theorem zrU : Cond.isRef (.static Bundle.tN "UNASSIGNED_STACK" Bundle.steD) ∈ flatC (Jvm.Cond.and given_1 narrow_1) := by decide +kernel
set_option maxRecDepth 100000 in
theorem zrN : Cond.isRef (.static Bundle.tN "SUPPRESSED_SENTINEL" Bundle.listD) ∈ flatC (Jvm.Cond.and given_1 narrow_1) := by decide +kernel
theorem zlaw_own : zon (zoc zLaw) = R_law := by decide +kernel
theorem zlaw_ini : zini zLaw = false := by decide +kernel
/-- what the start gives -/
theorem zstart {p : Program} {s : State} {m : MethodId} {meth : Method} {c : Code} {b L : Nat} {xs : Nat → Int32} (C0 : lw_At p s m meth c b L xs) (ρ : Nat → Int32) (sc : List Value) (hlen : sc.length = L) (hsc : ∀ (j : Nat) (v : Value), sc[j]? = some v → zc (b, s.heap.size, ρ) v = .int (xs j)) :
    (∀ w ∈ zG, w.before #[Value.ref b] s = true) ∧ ∃ (D : va_G) (cI cL : ClassId), zInv D cI cL (b, s.heap.size, ρ) sc s := by
  obtain ⟨hx, hb, hr, hml, hown, hts, hX, hbl, hlocks, hgv⟩ := id C0
  have hfl := flat_of_before _ hgv
  have hall : ∀ w ∈ zT, w.before #[Value.ref b] s = true := by
    intro w hw
    unfold zT at hw
    rcases List.mem_append.mp hw with h | h
    · obtain ⟨q, hq, rfl⟩ := List.mem_map.mp h
      have h1 := List.all_eq_true.mp zXs_chk q hq
      simp only [Bool.and_eq_true] at h1
      obtain ⟨⟨⟨⟨g0, g1⟩, g2⟩, g3⟩, g4⟩ := h1
      exact z_selects (znmh_ok g0) (hts _ (zwq_mem g1)) (hts _ (zwq_mem g2)) (hts _ (zwq_mem g3)) (hts _ (zwq_mem g4))
    · exact hts w h
  have hG : ∀ w ∈ zG, w.before #[Value.ref b] s = true := fun w hw => hall w (List.mem_filter.mp hw).1
  refine ⟨hG, ?_⟩
  have hN : ∀ w ∈ zXw, va_Nw w s := fun w hw => va_Nw.of (zxw_tab (List.mem_filter.mp hw).2) (hall w (List.mem_filter.mp hw).1)
  have hD : ∀ k : Nat, ∃ (cC : ClassId) (iS : Nat → Nat), ∀ q, zcl[k]? = some q → u_Kn s q.1 q.2.1 q.2.2 cC iS := by
    intro k
    cases hq : zcl[k]? with
    | none => exact ⟨0, fun _ => 0, fun q h => by cases h⟩
    | some q =>
      have h1 := List.all_eq_true.mp zcl_ins q (List.mem_of_getElem? hq)
      have h2 : Cond.instantiable q.1 q.2.2 ∈ zG := by
        rcases zmemB_ok h1 with h | ⟨-, h⟩
        · exact h
        · cases h
      obtain ⟨cC, iS, h⟩ := u_known hG (zcl_in hq) (hG _ h2)
      exact ⟨cC, iS, fun q' h' => by cases h'; exact h⟩
  have harr : ∀ ty : FieldType, Cond.arrayClass ty ∈ zG → (∀ z, ty ≠ .object z) → ∃ cA, ArrOfT s cA ty ∧ va_RA s cA ty := by
    intro ty hty hno
    obtain ⟨cA, kA, comp, h1, h2, h3⟩ := Cond.arrayClass_spec (hG _ hty)
    refine ⟨cA, fun n z => ⟨fun k h => (by cases h), kA, h2, comp, h3⟩, ?_⟩
    cases ty with
    | object z => exact absurd rfl (hno z)
    | _ => exact h1
  obtain ⟨cI, hI⟩ := harr .int zAI_ok (fun z h => by cases h)
  obtain ⟨cL, hL⟩ : ∃ cL, Nat.beq zAL 0 = false → ArrOfT s cL .long ∧ va_RA s cL .long := by
    cases hz : Nat.beq zAL 0 with
    | true => exact ⟨0, fun h => by cases h⟩
    | false =>
      obtain ⟨cL, h⟩ := harr .long (zAL_ok hz) (fun z h => by cases h)
      exact ⟨cL, fun _ => h⟩
  have hA : ∀ a : Nat, a < s.heap.size → ¬ zA (b, s.heap.size, ρ) a := fun a ha => Nat.not_le.mpr ha
  refine ⟨(fun k => Classical.choose (hD k), fun k => Classical.choose (Classical.choose_spec (hD k))), cI, cL, ⟨fun k q hq => Classical.choose_spec (Classical.choose_spec (hD k)) q hq, fun k q hk => ?_⟩, ⟨xs, by rw [hlen]; exact hX, hsc⟩, hN, vx_Zqof (hts _ zlU) (hts _ zlI) (hfl _ zrU) hA, vx_Zqof (hts _ zlN) (hts _ zlI) (hfl _ zrN) hA, fun q hq => ?_, hbl, Nat.le_refl _⟩
  · unfold zTys at hk
    match k, hk with
    | 0, hk => cases hk; exact hI
    | k + 1, hk =>
      cases hz : Nat.beq zAL 0 with
      | true => rw [hz] at hk; simp at hk
      | false =>
        rw [hz] at hk
        match k, hk with
        | 0, hk => cases hk; exact hL hz
        | k + 1, hk => simp at hk
  · have h1 := List.all_eq_true.mp zSt_chk q hq
    simp only [Bool.and_eq_true, decide_eq_true_eq] at h1
    obtain ⟨a, c1, cell, k1, he, -⟩ := Cond.exactly_spec (hfl _ h1.2)
    exact ⟨a, vk_R.of (A := #[Value.ref b]) (hts _ (zwq_mem h1.1)) he⟩
def zok (r : Option zR) : Bool := match r with
  | some (.inl (some (.int x)), _, c, s) => decide (x = 1) && decide (c ≤ 600130) && decide (s ≤ 7301080)
  | _ => false
def zev (sc : List Value) (sy : zSz) : Option zR := zloop sc sy (zcall sc sy 1000000 60) 1000000 zLaw 0 (zent 20 [.ref 0]) [] (false, []) 0 0
theorem zlaw_run {p : Program} {e : Env} {s : State} {m : MethodId} {below : List Frame} {meth : Method} {c : Code} (l : Launch) (hflags : l.flags = flags0) {b L : Nat} {xs : Nat → Int32} (C0 : lw_At p s m meth c b L xs) {r : zR} (ρ : Nat → Int32) (sc : List Value) (sy : zSz) (N d : Nat)
    (hlen : sc.length = L) (hsc : ∀ (j : Nat) (v : Value), sc[j]? = some v → zc (b, s.heap.size, ρ) v = .int (xs j)) (hsy : ∀ z, zSyOk (b, z, ρ) sy)
    (h : zloop sc sy (zcall sc sy N d) N zLaw 0 (zent 20 [.ref 0]) [] (false, []) 0 0 = some r) (hr1 : r.1 = .inl (some (.int 1))) (hc : r.2.2.1 ≤ 600130) (hs : r.2.2.2 ≤ 7301080) :
    W p l e room_1 s m #[Value.ref b] below meth c s.heap [] 0 0 (lw_Z below #[Value.ref b] s) (entryFrame m ([Value.ref b] : List Value).toArray 20) := by
  obtain ⟨hG, D, cI, cL, hI⟩ := zstart C0 ρ sc hlen hsc
  obtain ⟨hx, hb, hr, hml, hown, hts, hX, hbl, hlocks, hgv⟩ := id C0
  have hlt : l.stackTraces = false := by
    unfold Launch.stackTraces
    rw [hflags]
    decide +kernel
  have hmt : zmt zLaw = zLawMt := zmt_law
  have C1 : zCtx p l s m #[Value.ref b] meth c D cI cL (b, s.heap.size, ρ) sc zLaw := ⟨hx, by rw [hmt]; exact hb, by unfold zml; rw [hmt]; exact hml, by rw [zlaw_own]; exact hown, hG, hlocks, fun hh hhh => (by rw [hmt] at hhh; cases hhh), fun h9 => absurd h9 (Nat.lt_irrefl _), fun h9 => (by rw [zlaw_ini] at h9; cases h9), hI, Nat.le_refl _, hlt⟩
  have hrt : zrt zLaw = some .boolean := by unfold zrt; rw [hmt]; rfl
  have hmlz : zml zLaw = 20 := by unfold zml; rw [hmt]; rfl
  have hH0 : zH D cI cL (b, s.heap.size, ρ) (false, []) s.heap := ⟨fun _ => rfl, Nat.le_refl _, fun k e9 h9 => by simp at h9⟩
  have hS : va_S (zA (b, s.heap.size, ρ)) s.heap s.heap [] := va_S.rf
  rw [lg_entry_eq]
  have hl0 := zent_L (b, s.heap.size, ρ) (as := [.ref 0]) (n := 20) (by decide)
  refine (zloop_sound (Q := lw_Z below #[Value.ref b] s) (R := room_1) (e := e) (below := below) C1 (hsy _) (fun j as w r' h' hj' => zcall_sound hlt (hsy _) N d j as w r' h' hj') hc hs (by decide +kernel) (by decide +kernel) ?_ ?_ ?_ N 0 (zent 20 [.ref 0]) [] (false, []) 0 0 h).2 s.heap _ [] (by rw [hmlz]; exact hl0) hH0 hS
  · intro ov hr2 pc ls H locs ins st h1 h2 h3 h4
    rw [hr1] at hr2
    cases hr2
    have hst := zret_c h2
    subst hst
    rw [hrt] at h2
    have hdc := zi_ok h1 (Nat.le_refl _)
    rw [hmt] at hdc
    refine va_forget (fun q hq => h4.2.2 q hq) (W.widen (k := 600130) (n := 7301080) hc hs ?_)
    cases ins
    case ireturn => exact lw_ret hx hb hr hlocks (hdc.plain rfl)
    all_goals (simp [zret] at h2)
  · intro E hr2
    rw [hr1] at hr2
    cases hr2
  · intro E hr2
    rw [hr1] at hr2
    cases hr2
theorem zok_spec {o : Option zR} (h : zok o = true) : ∃ r, o = some r ∧ r.1 = .inl (some (.int 1)) ∧ r.2.2.1 ≤ 600130 ∧ r.2.2.2 ≤ 7301080 := by
  unfold zok at h
  split at h
  · next x w c s =>
    simp only [Bool.and_eq_true, decide_eq_true_eq] at h
    obtain ⟨⟨rfl, h2⟩, h3⟩ := h
    exact ⟨_, rfl, rfl, h2, h3⟩
  · cases h
end
section
/-! ===== runs without fuel: what a method does from a place on; one rule for each kind of instruction ===== -/
def zj (n : Int) : Value := .int (Int32.ofInt n)
def zp (k : Nat) : Value := .ref (k + 1)
def za (l : List Int) : zE := .inl (l.map zj)
def zob (c : Nat) (fs : List Value) : zE := .inr (.inr (c, fs))
abbrev zrg (n : Int) : Prop := -2147483648 ≤ n ∧ n ≤ 2147483647
def zgi (l : List Int) (x : Int) : Int := l.getD x.toNat 0
def zsi (l : List Int) (x v : Int) : List Int := l.set x.toNat v
def zN0 : zSz := ([], [])
def Zr (sc : List Value) (i pc : Nat) (lv st : List Value) (w : List zE) (ov : Option Value) (w' : List zE) (c s : Nat) : Prop :=
  ∃ N, ∀ n, N ≤ n → ∀ M, N ≤ M → ∀ d, N ≤ d → ∀ c0 s0, zloop sc zN0 (zcall sc zN0 M d) n i pc lv st (false, w) c0 s0 = some (.inl ov, (false, w'), c0 + c, s0 + s)
def Zc (sc : List Value) (j : Nat) (as : List Value) (w : List zE) (ov : Option Value) (w' : List zE) (c s : Nat) : Prop :=
  ∃ N, ∀ M, N ≤ M → ∀ d, N ≤ d → zcall sc zN0 M d j as (false, w) = some (.inl ov, (false, w'), c, s)
section ZRL
variable {sc : List Value} {i pc : Nat} {lv st : List Value} {w w' : List zE} {ov : Option Value} {c s : Nat} {ins : Instr}
theorem Zr_st {q : Nat × List Value × List Value} (h : zfd (zil i) pc = some ins) (h1 : zret ins (zrt i) st = none) (h2 : zps zN0 ins pc lv st = some q) (k : Zr sc i q.1 q.2.1 q.2.2 w ov w' c s) : Zr sc i pc lv st w ov w' c s := by
  obtain ⟨N, hN⟩ := k
  refine ⟨N + 1, fun n hn M hM d hd c0 s0 => ?_⟩
  obtain ⟨n, rfl⟩ : ∃ n', n = n' + 1 := ⟨n - 1, by omega⟩
  simp only [zloop, zfrc_eq, h, h1, h2]
  exact hN n (by omega) M (by omega) d (by omega) c0 s0
theorem Zr_mem {pc' dc ds : Nat} {st' : List Value} {w1 : List zE} (h : zfd (zil i) pc = some ins) (h1 : zret ins (zrt i) st = none) (h2 : zps zN0 ins pc lv st = none) (h3 : zmem sc i ins pc st (false, w) = some (pc', st', (false, w1), dc, ds)) (k : Zr sc i pc' lv st' w1 ov w' c s) : Zr sc i pc lv st w ov w' (dc + c) (ds + s) := by
  obtain ⟨N, hN⟩ := k
  refine ⟨N + 1, fun n hn M hM d hd c0 s0 => ?_⟩
  obtain ⟨n, rfl⟩ : ∃ n', n = n' + 1 := ⟨n - 1, by omega⟩
  simp only [zloop, zfrc_eq, h, h1, h2, h3]
  rw [hN n (by omega) M (by omega) d (by omega)]
  simp only [Nat.add_assoc]
theorem Zr_mem0 {pc' : Nat} {st' : List Value} {w1 : List zE} (h : zfd (zil i) pc = some ins) (h1 : zret ins (zrt i) st = none) (h2 : zps zN0 ins pc lv st = none) (h3 : zmem sc i ins pc st (false, w) = some (pc', st', (false, w1), 0, 0)) (k : Zr sc i pc' lv st' w1 ov w' c s) : Zr sc i pc lv st w ov w' c s := by
  have := Zr_mem h h1 h2 h3 k
  rwa [Nat.zero_add, Nat.zero_add] at this
theorem Zr_ret (h : zfd (zil i) pc = some ins) (h1 : zret ins (zrt i) st = some ov) : Zr sc i pc lv st w ov w 0 0 := by
  refine ⟨1, fun n hn M hM d hd c0 s0 => ?_⟩
  obtain ⟨n, rfl⟩ : ∃ n', n = n' + 1 := ⟨n - 1, by omega⟩
  simp only [zloop, zfrc_eq, h, h1, Nat.add_zero]
theorem Zr_call {kd j c1 s1 : Nat} {as rest : List Value} {ov1 : Option Value} {w1 : List zE} (h : zfd (zil i) pc = some ins) (h1 : zret ins (zrt i) st = none) (h2 : zps zN0 ins pc lv st = none) (h3 : zmem sc i ins pc st (false, w) = none) (h4 : zinv i ins st (false, w) = some (kd, j, as, rest)) (h5 : decide (8 < zsum rest) = false) (h6 : kd < 6)
    (k : Zc sc j as w ov1 w1 c1 s1) (k2 : Zr sc i (pc + 3) lv (ov1.toList ++ rest) w1 ov w' c s) : Zr sc i pc lv st w ov w' (c1 + c) (s1 + s) := by
  obtain ⟨N, hN⟩ := k
  obtain ⟨N2, hN2⟩ := k2
  refine ⟨N + N2 + 1, fun n hn M hM d hd c0 s0 => ?_⟩
  obtain ⟨n, rfl⟩ : ∃ n', n = n' + 1 := ⟨n - 1, by omega⟩
  simp only [zloop, zfrc_eq, h, h1, h2, h3, h4, h5, cond_false]
  rw [hN M (by omega) d (by omega)]
  have e := hN2 n (by omega) M (by omega) d (by omega) (c0 + c1) (s0 + s1)
  rw [Nat.add_assoc, Nat.add_assoc] at e
  match kd, h6 with
  | 0, _ => exact e
  | 1, _ => exact e
  | 2, _ => exact e
  | 3, _ => exact e
  | 4, _ => exact e
  | 5, _ => exact e
theorem Zr_obj {j : Nat} {as rest : List Value} (h : zfd (zil i) pc = some ins) (h1 : zret ins (zrt i) st = none) (h2 : zps zN0 ins pc lv st = none) (h3 : zmem sc i ins pc st (false, w) = none) (h4 : zinv i ins st (false, w) = some (6, j, as, rest)) (h5 : decide (8 < zsum rest) = false)
    (k : Zr sc i (pc + 3) lv rest w ov w' c s) : Zr sc i pc lv st w ov w' c s := by
  obtain ⟨N, hN⟩ := k
  refine ⟨N + 1, fun n hn M hM d hd c0 s0 => ?_⟩
  obtain ⟨n, rfl⟩ : ∃ n', n = n' + 1 := ⟨n - 1, by omega⟩
  simp only [zloop, zfrc_eq, h, h1, h2, h3, h4, h5, cond_false]
  exact hN n (by omega) M (by omega) d (by omega) c0 s0
theorem Zr_mx {b : Bool} {j : Nat} {v : Value} {as rest : List Value} (h : zfd (zil i) pc = some ins) (h1 : zret ins (zrt i) st = none) (h2 : zps zN0 ins pc lv st = none) (h3 : zmem sc i ins pc st (false, w) = none) (h4 : zinv i ins st (false, w) = some (bif b then 8 else 9, j, as, rest)) (h5 : decide (8 < zsum rest) = false) (h6 : zmx b zN0 as = some v)
    (k : Zr sc i (pc + 3) lv (v :: rest) w ov w' c s) : Zr sc i pc lv st w ov w' c s := by
  obtain ⟨N, hN⟩ := k
  refine ⟨N + 1, fun n hn M hM d hd c0 s0 => ?_⟩
  obtain ⟨n, rfl⟩ : ∃ n', n = n' + 1 := ⟨n - 1, by omega⟩
  simp only [zloop, zfrc_eq, h, h1, h2, h3, h4, h5, cond_false]
  have e := hN n (by omega) M (by omega) d (by omega) c0 s0
  cases b
  · simp only [cond_false, h6]
    exact e
  · simp only [cond_true, h6]
    exact e
theorem Zr_cp {j : Nat} {w1 : List zE} {as rest : List Value} (h : zfd (zil i) pc = some ins) (h1 : zret ins (zrt i) st = none) (h2 : zps zN0 ins pc lv st = none) (h3 : zmem sc i ins pc st (false, w) = none) (h4 : zinv i ins st (false, w) = some (7, j, as, rest)) (h5 : decide (8 < zsum rest) = false) (h6 : zcp as (false, w) = some (false, w1))
    (k : Zr sc i (pc + 3) lv rest w1 ov w' c s) : Zr sc i pc lv st w ov w' c s := by
  obtain ⟨N, hN⟩ := k
  refine ⟨N + 1, fun n hn M hM d hd c0 s0 => ?_⟩
  obtain ⟨n, rfl⟩ : ∃ n', n = n' + 1 := ⟨n - 1, by omega⟩
  simp only [zloop, zfrc_eq, h, h1, h2, h3, h4, h5, cond_false, h6]
  exact hN n (by omega) M (by omega) d (by omega) c0 s0
theorem Zc_of {j : Nat} {as : List Value} (h1 : decide ((zarg as).length ≤ zml j) = true) (h2 : decide (j < zLaw) = true) (k : Zr sc j 0 (zent (zml j) as) [] w ov w' c s) : Zc sc j as w ov w' c s := by
  obtain ⟨N, hN⟩ := k
  refine ⟨N + 1, fun M hM d hd => ?_⟩
  obtain ⟨d, rfl⟩ : ∃ d', d = d' + 1 := ⟨d - 1, by omega⟩
  simp only [zcall, h1, h2, Bool.and_self, cond_true]
  have := hN M (by omega) M (by omega) d (by omega) 0 0
  rw [Nat.zero_add, Nat.zero_add] at this
  exact this
-- numbers
theorem zj_to {n : Int} (h : zrg n) : (Int32.ofInt n).toInt = n := by
  rw [Int32.toInt_ofInt]
  show Int.bmod n 4294967296 = n
  exact Int.bmod_eq_of_le (by have := h.1; omega) (by have := h.2; omega)
theorem zj_of (x : Int32) : zj x.toInt = .int x := by
  unfold zj
  rw [Int32.ofInt_toInt]
theorem zj_rg (x : Int32) : zrg x.toInt := ⟨by have := x.le_toInt; omega, by have := x.toInt_lt; omega⟩
theorem rl_ic {n : Int} (h : zfd (zil i) pc = some (.iconst n)) (k : Zr sc i (pc + 1) lv (zj n :: st) w ov w' c s) : Zr sc i pc lv st w ov w' c s :=
  Zr_st h rfl (q := (pc + 1, lv, zj n :: st)) (by simp only [zps, zfi_eq]; rfl) k
theorem rl_bi {n : Int} (h : zfd (zil i) pc = some (.bipush n)) (hn : (Int8.ofInt n).toInt32 = Int32.ofInt n) (k : Zr sc i (pc + 2) lv (zj n :: st) w ov w' c s) : Zr sc i pc lv st w ov w' c s :=
  Zr_st h rfl (q := (pc + 2, lv, zj n :: st)) (by simp only [zps, zfi_eq, hn]; rfl) k
theorem rl_si {n : Int} (h : zfd (zil i) pc = some (.sipush n)) (hn : (Int16.ofInt n).toInt32 = Int32.ofInt n) (k : Zr sc i (pc + 3) lv (zj n :: st) w ov w' c s) : Zr sc i pc lv st w ov w' c s :=
  Zr_st h rfl (q := (pc + 3, lv, zj n :: st)) (by simp only [zps, zfi_eq, hn]; rfl) k
theorem zbin_j {op : Nat} {x y z : Int} {r : List Value} {p : Nat} (h : zopf op (Int32.ofInt x) (Int32.ofInt y) = some (Int32.ofInt z)) : zbin op zN0 lv (zj y :: zj x :: r) p = some (p, lv, zj z :: r) := by
  unfold zbin zj
  simp only [h, zfi_eq]
theorem rl_add {x y : Int} {r : List Value} (h : zfd (zil i) pc = some .iadd) (k : Zr sc i (pc + 1) lv (zj (x + y) :: r) w ov w' c s) : Zr sc i pc lv (zj y :: zj x :: r) w ov w' c s :=
  Zr_st h rfl (q := (pc + 1, lv, zj (x + y) :: r)) (zbin_j (op := 0) (by rw [Int32.ofInt_add]; rfl)) k
theorem rl_sub {x y : Int} {r : List Value} (h : zfd (zil i) pc = some .isub) (k : Zr sc i (pc + 1) lv (zj (x - y) :: r) w ov w' c s) : Zr sc i pc lv (zj y :: zj x :: r) w ov w' c s :=
  Zr_st h rfl (q := (pc + 1, lv, zj (x - y) :: r)) (zbin_j (op := 1) (by rw [Int32.ofInt_sub]; rfl)) k
theorem rl_mul {x y : Int} {r : List Value} (h : zfd (zil i) pc = some .imul) (k : Zr sc i (pc + 1) lv (zj (x * y) :: r) w ov w' c s) : Zr sc i pc lv (zj y :: zj x :: r) w ov w' c s :=
  Zr_st h rfl (q := (pc + 1, lv, zj (x * y) :: r)) (zbin_j (op := 2) (by rw [Int32.ofInt_mul]; rfl)) k
theorem zj_div {x y : Int} (hx : 0 ≤ x) (hx2 : x ≤ 2147483647) (hy : 0 < y) (hy2 : y ≤ 2147483647) : Int32.ofInt x / Int32.ofInt y = Int32.ofInt (x / y) := by
  apply Int32.toInt_inj.mp
  have h1 : x / y ≤ x := Int.ediv_le_self y hx
  have h0 : 0 ≤ x / y := Int.ediv_nonneg hx (by omega)
  rw [Int32.toInt_div, zj_to ⟨by omega, hx2⟩, zj_to ⟨by omega, hy2⟩, zj_to ⟨by omega, by omega⟩, Int.tdiv_eq_ediv_of_nonneg hx]
  exact Int.bmod_eq_of_le (by omega) (by omega)
theorem zj_ne0 {y : Int} (hy : 0 < y) (hy2 : y ≤ 2147483647) : decide (Int32.ofInt y = 0) = false := by
  rw [decide_eq_false_iff_not]
  intro h
  have := congrArg Int32.toInt h
  rw [zj_to ⟨by omega, hy2⟩] at this
  have e : (0 : Int32).toInt = 0 := rfl
  omega
theorem rl_div {x y : Int} {r : List Value} (h : zfd (zil i) pc = some .idiv) (hx : 0 ≤ x) (hx2 : x ≤ 2147483647) (hy : 0 < y) (hy2 : y ≤ 2147483647) (k : Zr sc i (pc + 1) lv (zj (x / y) :: r) w ov w' c s) : Zr sc i pc lv (zj y :: zj x :: r) w ov w' c s :=
  Zr_st h rfl (q := (pc + 1, lv, zj (x / y) :: r)) (zbin_j (op := 3) (by
    show (bif decide (Int32.ofInt y = 0) then none else some (Int32.ofInt x / Int32.ofInt y)) = _
    rw [zj_ne0 hy hy2, cond_false, zj_div hx hx2 hy hy2])) k
theorem rl_rem {x y : Int} {r : List Value} (h : zfd (zil i) pc = some .irem) (hx : 0 ≤ x) (hx2 : x ≤ 2147483647) (hy : 0 < y) (hy2 : y ≤ 2147483647) (k : Zr sc i (pc + 1) lv (zj (x % y) :: r) w ov w' c s) : Zr sc i pc lv (zj y :: zj x :: r) w ov w' c s :=
  Zr_st h rfl (q := (pc + 1, lv, zj (x % y) :: r)) (zbin_j (op := 4) (by
    show (bif decide (Int32.ofInt y = 0) then none else some (Int32.ofInt x - Int32.ofInt x / Int32.ofInt y * Int32.ofInt y)) = _
    rw [zj_ne0 hy hy2, cond_false, zj_div hx hx2 hy hy2, ← Int32.ofInt_mul, ← Int32.ofInt_sub, Int.emod_def, Int.mul_comm y (x / y)])) k
def zjop (op : Nat) (x y : Int) : Int := match zopf op (Int32.ofInt x) (Int32.ofInt y) with
  | some z => z.toInt
  | none => 0
theorem zjop_e {op : Nat} {x y : Int} {z : Int32} (h : zopf op (Int32.ofInt x) (Int32.ofInt y) = some z) : zopf op (Int32.ofInt x) (Int32.ofInt y) = some (Int32.ofInt (zjop op x y)) := by
  unfold zjop
  rw [h]
  simp only [Int32.ofInt_toInt]
theorem rl_shl {x y : Int} {r : List Value} (h : zfd (zil i) pc = some .ishl) (k : Zr sc i (pc + 1) lv (zj (zjop 5 x y) :: r) w ov w' c s) : Zr sc i pc lv (zj y :: zj x :: r) w ov w' c s :=
  Zr_st h rfl (q := (pc + 1, lv, zj (zjop 5 x y) :: r)) (zbin_j (op := 5) (zjop_e rfl)) k
theorem rl_shr {x y : Int} {r : List Value} (h : zfd (zil i) pc = some .ishr) (k : Zr sc i (pc + 1) lv (zj (zjop 6 x y) :: r) w ov w' c s) : Zr sc i pc lv (zj y :: zj x :: r) w ov w' c s :=
  Zr_st h rfl (q := (pc + 1, lv, zj (zjop 6 x y) :: r)) (zbin_j (op := 6) (zjop_e rfl)) k
theorem rl_and {x y : Int} {r : List Value} (h : zfd (zil i) pc = some .iand) (k : Zr sc i (pc + 1) lv (zj (zjop 7 x y) :: r) w ov w' c s) : Zr sc i pc lv (zj y :: zj x :: r) w ov w' c s :=
  Zr_st h rfl (q := (pc + 1, lv, zj (zjop 7 x y) :: r)) (zbin_j (op := 7) (zjop_e rfl)) k
theorem rl_neg {x : Int} {r : List Value} (h : zfd (zil i) pc = some .ineg) (k : Zr sc i (pc + 1) lv (zj (-x) :: r) w ov w' c s) : Zr sc i pc lv (zj x :: r) w ov w' c s :=
  Zr_st h rfl (q := (pc + 1, lv, zj (-x) :: r)) (by
    unfold zj
    simp only [zps, zfi_eq, Int32.ofInt_neg]) k
theorem zset_eq {α β : Type} {l : List α} {k : Nat} {v : α} {f : List α → Option β} (h : k < l.length) : zset l k v f = f (l.set k v) := by
  induction l generalizing k f with
  | nil => simp at h
  | cons a r ih =>
    cases k with
    | zero => rfl
    | succ k => exact ih (by simpa using h)
theorem zst1_eq {β : Type} {lv : List Value} {a : Nat} {v : Value} {f : List Value → Option β} (hb : zbad lv a = false) (h : a < lv.length) : zst1 lv a v f = f (lv.set a v) := by
  unfold zst1
  rw [hb, cond_false, zset_eq h]
theorem rl_inc {a : Nat} {n x : Int} {p : Nat} (h : zfd (zil i) pc = some (.iinc a n)) (hp : pc + zlen (.iinc a n) = p) (hb : zbad lv a = false) (hx : zat lv a = some (zj x)) (k : Zr sc i p (lv.set a (zj (x + n))) st w ov w' c s) : Zr sc i pc lv st w ov w' c s :=
  Zr_st h rfl (q := (p, lv.set a (zj (x + n)), st)) (by
    subst hp
    have hl : a < lv.length := by
      rw [zat_eq] at hx
      exact (List.getElem?_eq_some_iff.mp hx).1
    unfold zj at hx
    simp only [zps, hx, zfi_eq]
    rw [zst1_eq hb hl, ← Int32.ofInt_add]
    rfl) k
end ZRL
end
section
/-! ===== rules: comparisons, the heap, calls ===== -/
section ZRM
variable {sc : List Value} {i pc : Nat} {lv st : List Value} {w w' : List zE} {ov : Option Value} {c s : Nat}
theorem zcmp_j {cnd : ClassFile.Cond} {x y : Int} (hx : zrg x) (hy : zrg y) : zcmp cnd (ziv zN0 (zj x)) (ziv zN0 (zj y)) = some (match cnd with
    | .eq => decide (x = y)
    | .ne => decide (x ≠ y)
    | .lt => decide (x < y)
    | .ge => decide (y ≤ x)
    | .gt => decide (y < x)
    | .le => decide (x ≤ y)) := by
  have ex : ziv zN0 (zj x) = (x, x) := by
    show ((Int32.ofInt x).toInt, (Int32.ofInt x).toInt) = _
    rw [zj_to hx]
  have ey : ziv zN0 (zj y) = (y, y) := by
    show ((Int32.ofInt y).toInt, (Int32.ofInt y).toInt) = _
    rw [zj_to hy]
  rw [ex, ey]
  rcases Int.lt_trichotomy x y with h | h | h
  · have h2 : ¬ y < x := by omega
    have h3 : ¬ x = y := by omega
    have h4 : ¬ y ≤ x := by omega
    have h5 : x ≤ y := by omega
    cases cnd <;> simp [zcmp, zlt, zeq, znt, h, h2, h3, h4, h5]
  · subst h
    cases cnd <;> simp [zcmp, zlt, zeq, znt]
  · have h2 : ¬ x < y := by omega
    have h3 : ¬ x = y := by omega
    have h4 : ¬ x ≤ y := by omega
    have h5 : y ≤ x := by omega
    cases cnd <;> simp [zcmp, zlt, zeq, znt, h, h2, h3, h4, h5]
theorem zcmp_0 {cnd : ClassFile.Cond} {x : Int} (hx : zrg x) : zcmp cnd (ziv zN0 (zj x)) (0, 0) = some (match cnd with
    | .eq => decide (x = 0)
    | .ne => decide (x ≠ 0)
    | .lt => decide (x < 0)
    | .ge => decide (0 ≤ x)
    | .gt => decide (0 < x)
    | .le => decide (x ≤ 0)) := by
  have h := zcmp_j (cnd := cnd) hx (show zrg 0 from ⟨by decide, by decide⟩)
  have e : ziv zN0 (zj 0) = (0, 0) := rfl
  rw [e] at h
  exact h
theorem Zr_br {cnd : ClassFile.Cond} {off : Int} {x y : Int} {t : Nat} {r : List Value} {p : Prop} [Decidable p] (h : zfd (zil i) pc = some (.if_icmp cnd off)) (ht : ztg pc off = some t) (hc : zcmp cnd (ziv zN0 (zj x)) (ziv zN0 (zj y)) = some (decide p)) (k1 : p → Zr sc i t lv r w ov w' c s) (k2 : ¬ p → Zr sc i (pc + 3) lv r w ov w' c s) : Zr sc i pc lv (zj y :: zj x :: r) w ov w' c s := by
  by_cases hp : p
  · refine Zr_st h rfl (q := (t, lv, r)) ?_ (k1 hp)
    rw [decide_eq_true hp] at hc
    show zbr (zcmp cnd (ziv zN0 (zj x)) (ziv zN0 (zj y))) (ztg pc off) pc lv r = _
    rw [hc, ht]
    rfl
  · refine Zr_st h rfl (q := (pc + 3, lv, r)) ?_ (k2 hp)
    rw [decide_eq_false hp] at hc
    show zbr (zcmp cnd (ziv zN0 (zj x)) (ziv zN0 (zj y))) (ztg pc off) pc lv r = _
    rw [hc, ht]
    rfl
theorem Zr_b0 {cnd : ClassFile.Cond} {off : Int} {x : Int} {t : Nat} {r : List Value} {p : Prop} [Decidable p] (h : zfd (zil i) pc = some (.ifCond cnd off)) (ht : ztg pc off = some t) (hc : zcmp cnd (ziv zN0 (zj x)) (0, 0) = some (decide p)) (k1 : p → Zr sc i t lv r w ov w' c s) (k2 : ¬ p → Zr sc i (pc + 3) lv r w ov w' c s) : Zr sc i pc lv (zj x :: r) w ov w' c s := by
  by_cases hp : p
  · refine Zr_st h rfl (q := (t, lv, r)) ?_ (k1 hp)
    rw [decide_eq_true hp] at hc
    show zbr (zcmp cnd (ziv zN0 (zj x)) (0, 0)) (ztg pc off) pc lv r = _
    rw [hc, ht]
    rfl
  · refine Zr_st h rfl (q := (pc + 3, lv, r)) ?_ (k2 hp)
    rw [decide_eq_false hp] at hc
    show zbr (zcmp cnd (ziv zN0 (zj x)) (0, 0)) (ztg pc off) pc lv r = _
    rw [hc, ht]
    rfl
theorem rl_sw {d lo hi : Int} {offs : Array Int} {x : Int} {t : Nat} {r : List Value} (h : zfd (zil i) pc = some (.tableswitch d lo hi offs)) (hx : zrg x) (ht : zsw pc d lo hi offs x = some t) (k : Zr sc i t lv r w ov w' c s) : Zr sc i pc lv (zj x :: r) w ov w' c s := by
  refine Zr_st h rfl (q := (t, lv, r)) ?_ k
  show (match zsw pc d lo hi offs (Int32.ofInt x).toInt with
      | some t => some (t, lv, r)
      | none => none) = _
  rw [zj_to hx, ht]
theorem rl_gf {a cn idx : Nat} {fs : List Value} {q : Nat × Bool × Bool × String × Nat × Nat} {v : Value} {r : List Value} (h : zfd (zil i) pc = some (.getfield idx)) (hw : w[a]? = some (zob cn fs)) (hf : zfd2 (zatL zF (zoc i)) idx cn = some q) (hv : zat fs q.1 = some v) (k : Zr sc i (pc + 3) lv (v :: r) w ov w' c s) : Zr sc i pc lv (zp a :: r) w ov w' c s := by
  refine Zr_mem0 h rfl rfl (pc' := pc + 3) (st' := v :: r) (w1 := w) ?_ k
  unfold zp
  unfold zob at hw
  simp only [zmem, zat_eq, hw, hf]
  rw [zat_eq] at hv
  rw [hv]
theorem rl_pf {a cn idx : Nat} {fs : List Value} {q : Nat × Bool × Bool × String × Nat × Nat} {v : Value} {r : List Value} (h : zfd (zil i) pc = some (.putfield idx)) (hw : w[a]? = some (zob cn fs)) (hf : zfd2 (zatL zF (zoc i)) idx cn = some q) (hv : ((!q.2.1 || (q.2.2.1 && zini i)) && ztv (zty cn q.1) v) = true) (hl : decide (q.1 < fs.length) = true) (k : Zr sc i (pc + 3) lv r (w.set a (zob cn (fs.set q.1 v))) ov w' c s) : Zr sc i pc lv (v :: zp a :: r) w ov w' c s := by
  refine Zr_mem0 h rfl rfl (pc' := pc + 3) (st' := r) (w1 := w.set a (zob cn (fs.set q.1 v))) ?_ k
  have hl2 : a < w.length := (List.getElem?_eq_some_iff.mp hw).1
  unfold zp
  unfold zob at hw ⊢
  simp only [zmem, zat_eq, hw, hf, hv, cond_true]
  rw [zset_eq (of_decide_eq_true hl), zset_eq hl2]
theorem zix_j {l : List Value} {x : Int} (h0 : 0 ≤ x) (h1 : x ≤ 2147483647) : zix l (Int32.ofInt x) = l[x.toNat]? := by
  unfold zix
  have e := zj_to (n := x) ⟨by omega, h1⟩
  have : ¬ Int32.ofInt x < 0 := by
    rw [Int32.lt_iff_toInt_lt, e]
    show ¬ x < 0
    omega
  rw [decide_eq_false this, cond_false, zat_eq]
  show l[(Int32.ofInt x).toInt.toNat]? = _
  rw [e]
theorem rl_ia {a : Nat} {l : List Int} {x : Int} {r : List Value} (h : zfd (zil i) pc = some .iaload) (hw : w[a]? = some (za l)) (h0 : 0 ≤ x) (h1 : x < l.length) (h2 : x ≤ 2147483647) (k : Zr sc i (pc + 1) lv (zj (zgi l x) :: r) w ov w' c s) : Zr sc i pc lv (zj x :: zp a :: r) w ov w' c s := by
  refine Zr_mem0 h rfl rfl (pc' := pc + 1) (st' := zj (zgi l x) :: r) (w1 := w) ?_ k
  unfold zp
  unfold za at hw
  show (match zat w a with
        | some (.inl l) => match zix l (Int32.ofInt x) with
          | some v => some (pc + 1, v :: r, (false, w), 0, 0)
          | none => none
        | _ => none) = _
  rw [zat_eq, hw]
  show (match zix (l.map zj) (Int32.ofInt x) with
          | some v => some (pc + 1, v :: r, (false, w), 0, 0)
          | none => none) = _
  rw [zix_j h0 h2, List.getElem?_map]
  have hl : x.toNat < l.length := by omega
  rw [List.getElem?_eq_getElem hl]
  unfold zgi
  rw [List.getD_eq_getElem?_getD, List.getElem?_eq_getElem hl]
  rfl
/-- of the script -/
theorem rl_ia0 {l : List Int} {x : Int} {r : List Value} (h : zfd (zil i) pc = some .iaload) (hw : sc = l.map zj) (h0 : 0 ≤ x) (h1 : x < l.length) (h2 : x ≤ 2147483647) (k : Zr sc i (pc + 1) lv (zj (zgi l x) :: r) w ov w' c s) : Zr sc i pc lv (zj x :: .ref 0 :: r) w ov w' c s := by
  refine Zr_mem0 h rfl rfl (pc' := pc + 1) (st' := zj (zgi l x) :: r) (w1 := w) ?_ k
  show (match zix sc (Int32.ofInt x) with
        | some v => bif zisI v then some (pc + 1, v :: r, (false, w), 0, 0) else none
        | none => none) = _
  rw [hw, zix_j h0 h2, List.getElem?_map]
  have hl : x.toNat < l.length := by omega
  rw [List.getElem?_eq_getElem hl]
  unfold zgi
  rw [List.getD_eq_getElem?_getD, List.getElem?_eq_getElem hl]
  rfl
theorem rl_is {a : Nat} {l : List Int} {x v : Int} {r : List Value} (h : zfd (zil i) pc = some .iastore) (hw : w[a]? = some (za l)) (h0 : 0 ≤ x) (h1 : x < l.length) (h2 : x ≤ 2147483647) (k : Zr sc i (pc + 1) lv r (w.set a (za (zsi l x v))) ov w' c s) : Zr sc i pc lv (zj v :: zj x :: zp a :: r) w ov w' c s := by
  refine Zr_mem0 h rfl rfl (pc' := pc + 1) (st' := r) (w1 := w.set a (za (zsi l x v))) ?_ k
  have hl2 : a < w.length := (List.getElem?_eq_some_iff.mp hw).1
  have e := zj_to (n := x) ⟨by omega, h2⟩
  have hneg : ¬ Int32.ofInt x < 0 := by
    rw [Int32.lt_iff_toInt_lt, e]
    show ¬ x < 0
    omega
  unfold zp
  unfold za at hw
  show (match zat w a with
      | some (.inl l) => bif (zisI (zj v) && !decide (Int32.ofInt x < 0)) then zset l (Int32.ofInt x).toNatClampNeg (zj v) fun l' => zset w a (.inl l') fun w' => some (pc + 1, r, (false, w'), 0, 0) else none
      | _ => none) = _
  rw [zat_eq, hw]
  show (bif (zisI (zj v) && !decide (Int32.ofInt x < 0)) then zset (l.map zj) (Int32.ofInt x).toNatClampNeg (zj v) fun l' => zset w a (.inl l') fun w' => some (pc + 1, r, (false, w'), 0, 0) else none) = _
  rw [decide_eq_false hneg]
  have e2 : (Int32.ofInt x).toNatClampNeg = x.toNat := by
    show (Int32.ofInt x).toInt.toNat = _
    rw [e]
  rw [e2]
  show zset (l.map zj) x.toNat (zj v) (fun l' => zset w a (.inl l') fun w' => some (pc + 1, r, (false, w'), 0, 0)) = _
  rw [zset_eq (by rw [List.length_map]; omega), zset_eq hl2]
  unfold za zsi
  rw [List.map_set]
theorem rl_al {a : Nat} {l : List Int} {r : List Value} (h : zfd (zil i) pc = some .arraylength) (hw : w[a]? = some (za l)) (k : Zr sc i (pc + 1) lv (zj l.length :: r) w ov w' c s) : Zr sc i pc lv (zp a :: r) w ov w' c s := by
  refine Zr_mem0 h rfl rfl (pc' := pc + 1) (st' := zj l.length :: r) (w1 := w) ?_ k
  unfold zp
  unfold za at hw
  simp only [zmem, zat_eq, hw, zfi_eq, List.length_map]
  rfl
theorem rl_al0 {r : List Value} (h : zfd (zil i) pc = some .arraylength) (k : Zr sc i (pc + 1) lv (zj sc.length :: r) w ov w' c s) : Zr sc i pc lv (.ref 0 :: r) w ov w' c s := by
  refine Zr_mem0 h rfl rfl (pc' := pc + 1) (st' := zj sc.length :: r) (w1 := w) ?_ k
  simp only [zmem, zfi_eq]
  rfl
theorem rl_new {idx : Nat} {q : Nat × Nat × Nat × Nat} (h : zfd (zil i) pc = some (.new idx)) (hn : zfd (zatL zNw (zoc i)) idx = some q) (k : Zr sc i (pc + 3) lv (zp w.length :: st) (w ++ [zob q.1 (zdf q.1)]) ov w' c s) : Zr sc i pc lv st w ov w' (1 + c) (zcn q.1 + s) := by
  refine Zr_mem h rfl rfl (pc' := pc + 3) (st' := zp w.length :: st) (w1 := w ++ [zob q.1 (zdf q.1)]) ?_ k
  simp only [zmem, hn, cond_false, zfrc_eq, zapp_eq]
  rfl
theorem rl_na {n : Int} {r : List Value} (h : zfd (zil i) pc = some (.newarray .int)) (h0 : 0 ≤ n) (h1 : n ≤ 60000) (k : Zr sc i (pc + 2) lv (zp w.length :: r) (w ++ [za (List.replicate n.toNat 0)]) ov w' c s) : Zr sc i pc lv (zj n :: r) w ov w' (1 + c) (n.toNat + s) := by
  refine Zr_mem h rfl rfl (pc' := pc + 2) (st' := zp w.length :: r) (w1 := w ++ [za (List.replicate n.toNat 0)]) ?_ k
  have e := zj_to (n := n) ⟨by omega, by omega⟩
  have hneg : ¬ Int32.ofInt n < 0 := by
    rw [Int32.lt_iff_toInt_lt, e]
    show ¬ n < 0
    omega
  have hbig : ¬ (60000 : Int32) < Int32.ofInt n := by
    rw [Int32.lt_iff_toInt_lt, e]
    show ¬ 60000 < n
    omega
  have e2 : (Int32.ofInt n).toNatClampNeg = n.toNat := by
    show (Int32.ofInt n).toInt.toNat = _
    rw [e]
  show (bif (false || decide (Int32.ofInt n < 0) || decide (60000 < Int32.ofInt n)) then none else zfrc (Int32.ofInt n).toNatClampNeg fun m => zrep m (.int 0) fun l => zfrc (w.length) fun n => zapp w (.inl l) fun w' => some (pc + 2, .ref (n + 1) :: r, (false, w'), 1, m)) = _
  rw [decide_eq_false hneg, decide_eq_false hbig, e2]
  simp only [Bool.or_self, cond_false, zfrc_eq, zrep_eq, zapp_eq]
  unfold za
  rw [List.map_replicate]
  rfl
theorem rl_lc {idx : Nat} {z : Int64} {q : Int64 × Nat} (h : zfd (zil i) pc = some (.ldc2_w idx)) (hq : zfd (zatL zLg (zoc i)) idx = some q) (hz : q.1 = z) (k : Zr sc i (pc + 3) lv (.long z :: st) w ov w' c s) : Zr sc i pc lv st w ov w' c s := by
  refine Zr_mem0 h rfl rfl (pc' := pc + 3) (st' := .long z :: st) (w1 := w) ?_ k
  simp only [zmem, hq, zfl_eq, hz]
theorem rl_ldc {idx : Nat} {n : Int} {q : Int32 × Nat} (h : zfd (zil i) pc = some (.ldc idx)) (hq : zfd (zatL zIn (zoc i)) idx = some q) (hz : q.1 = Int32.ofInt n) (k : Zr sc i (pc + 2) lv (zj n :: st) w ov w' c s) : Zr sc i pc lv st w ov w' c s := by
  refine Zr_mem0 h rfl rfl (pc' := pc + 2) (st' := zj n :: st) (w1 := w) ?_ k
  simp only [zmem, hq, zfi_eq, hz]
  rfl
theorem rl_cal {kd j c1 s1 : Nat} {as rest : List Value} {ov1 : Option Value} {w1 : List zE} {ins : Instr} (h : zfd (zil i) pc = some ins) (h1 : zret ins (zrt i) st = none) (h2 : zps zN0 ins pc lv st = none) (h3 : zmem sc i ins pc st (false, w) = none) (h4 : zinv i ins st (false, w) = some (kd, j, as, rest)) (h5 : decide (8 < zsum rest) = false) (h6 : decide (kd < 6) = true)
    (k : Zc sc j as w ov1 w1 c1 s1) {c' s' : Nat} (k2 : Zr sc i (pc + 3) lv (ov1.toList ++ rest) w1 ov w' c s) (hc : c' = c1 + c) (hs : s' = s1 + s) : Zr sc i pc lv st w ov w' c' s' := by
  subst hc; subst hs
  exact Zr_call h h1 h2 h3 h4 h5 (of_decide_eq_true h6) k k2
-- longs
theorem rl_i2l {x : Int} {r : List Value} (h : zfd (zil i) pc = some .i2l) (k : Zr sc i (pc + 1) lv (.long (Int32.ofInt x).toInt64 :: r) w ov w' c s) : Zr sc i pc lv (zj x :: r) w ov w' c s :=
  Zr_st h rfl (q := (pc + 1, lv, .long (Int32.ofInt x).toInt64 :: r)) (by
    unfold zj
    simp only [zps, zfl_eq]) k
theorem rl_ladd {x y : Int64} {r : List Value} (h : zfd (zil i) pc = some .ladd) (k : Zr sc i (pc + 1) lv (.long (x + y) :: r) w ov w' c s) : Zr sc i pc lv (.long y :: .long x :: r) w ov w' c s :=
  Zr_st h rfl (q := (pc + 1, lv, .long (x + y) :: r)) (by simp only [zps, zbil, zfl_eq]) k
theorem rl_lmul {x y : Int64} {r : List Value} (h : zfd (zil i) pc = some .lmul) (k : Zr sc i (pc + 1) lv (.long (x * y) :: r) w ov w' c s) : Zr sc i pc lv (.long y :: .long x :: r) w ov w' c s :=
  Zr_st h rfl (q := (pc + 1, lv, .long (x * y) :: r)) (by simp only [zps, zbil, zfl_eq]) k
theorem rl_lcmp0 {x : Int64} {r : List Value} (h : zfd (zil i) pc = some .lcmp) (k : Zr sc i (pc + 1) lv (zj 0 :: r) w ov w' c s) : Zr sc i pc lv (.long x :: .long x :: r) w ov w' c s :=
  Zr_st h rfl (q := (pc + 1, lv, zj 0 :: r)) (by
    have : ¬ x < x := Int64.lt_irrefl
    simp only [zps, decide_eq_false this, decide_true, cond_false, cond_true]
    rfl) k
-- a virtual call, by the class of the receiver
theorem zinv_v {idx a cn : Nat} {fs st as rest : List Value} {q : Nat × Nat} {e : Nat × Nat × Nat × MethodName × String × Nat × Nat × Nat × Nat × Nat × Nat × Nat} (hw : w[a]? = some (zob cn fs)) (hn : zfd (zatL zN (zoc i)) idx = some q) (hp : zpop q.2 st [] = some (as, zp a :: rest)) (he : zfd2 (zatL zC (zoc i)) idx cn = some e) (hk : zkV e.1 = true) : zinv i (.invokevirtual idx) st (false, w) = some (e.1, e.2.1, zp a :: as, rest) := by
  unfold zp at hp ⊢
  unfold zob at hw
  simp only [zinv, hn, hp, zat_eq, hw, he, hk, cond_true]
theorem zinv_s {idx a : Nat} {st as rest : List Value} {q : Nat × Nat} {e : Nat × Nat × Nat × MethodName × String × Nat × Nat × Nat × Nat × Nat × Nat × Nat} (hn : zfd (zatL zN (zoc i)) idx = some q) (hp : zpop q.2 st [] = some (as, zp a :: rest)) (he : zfd2 (zatL zC (zoc i)) idx 0 = some e) (hk : zkI e.1 = true) : zinv i (.invokespecial idx) st (false, w) = some (e.1, e.2.1, zp a :: as, rest) := by
  unfold zp at hp ⊢
  simp only [zinv, hn, hp, he, hk, cond_true]
theorem zinv_t {idx : Nat} {st as rest : List Value} {q : Nat × Nat} {e : Nat × Nat × Nat × MethodName × String × Nat × Nat × Nat × Nat × Nat × Nat × Nat} (hn : zfd (zatL zN (zoc i)) idx = some q) (hp : zpop q.2 st [] = some (as, rest)) (he : zfd2 (zatL zC (zoc i)) idx 0 = some e) (hk : zkS e.1 = true) : zinv i (.invokestatic idx) st (false, w) = some (e.1, e.2.1, as, rest) := by
  simp only [zinv, hn, hp, he, hk, cond_true]
end ZRM
end
