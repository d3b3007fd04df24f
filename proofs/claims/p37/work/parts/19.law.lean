/-! ===== the law's own frame: what its start gives; a run of the small machine gives the claim's walk ===== -/
theorem z_selects {C : String} {x : MethodName} {s : State} {args : Array Value} {n : Nat} (hy : x.cls ≠ "java/lang/invoke/MethodHandle" ∧ x.cls ≠ "java/lang/invoke/VarHandle")
    (hins : (Cond.instantiable C n).before args s = true) (hpriv : (Cond.privateMethod x).before args s = true) (hinst : (Cond.instanceMethod x).before args s = true) (hsame : (Cond.sameMethod x.cls x.cls x.name x.desc).before args s = true) :
    (Cond.selects C x x).before args s = true := by
  obtain ⟨c, k, hc, hk, -, hniab, -, -⟩ := Cond.instantiable_spec hins
  obtain ⟨mk, methM, hnamed, hmethM, -, -⟩ := Cond.instanceMethod_spec hinst
  have hfound : s.methodFound? x.cls x.name x.desc = some mk := State.methodFound?_of_named hnamed hy
  obtain ⟨cn, ck, r1, hcn, hck, hni, hf, hn1⟩ := Cond.sameMethod_found hsame
  have hcls : mk.cls = cn := Option.some.inj ((findClass_of_methodNamed hnamed).symm.trans hcn)
  have hsel : selectMethod {} s.vm c mk = .method mk := selectMethod_private hmethM (Cond.privateMethod_at hpriv mk methM hnamed hmethM)
  simp only [Cond.before, Cond.holds, Cond.value, hc, hfound, hnamed, hsel, hcls, hck]
  simp; exact hni
def zwq (i : Nat) (w : Cond) : Bool := decide (zwd i = some w) && decide (1000 ≤ i)
theorem zBk_tl : lw_tbl = zBk.tail.flatten := by
  simp only [zBk, lw_tbl, tables_1, List.tail_cons, List.flatten_cons, List.flatten_nil, List.append_nil]
theorem zwq_mem {i : Nat} {w : Cond} (h : zwq i w = true) : w ∈ lw_tbl := by
  unfold zwq at h
  simp only [Bool.and_eq_true, decide_eq_true_eq] at h
  obtain ⟨h, hi⟩ := h
  unfold zwd at h
  rw [zat_eq] at h
  obtain ⟨l, hl, hw⟩ := zatL_mem (List.mem_of_getElem? h)
  obtain ⟨k, hk⟩ : ∃ k, i / 1000 = k + 1 := ⟨i / 1000 - 1, by omega⟩
  rw [hk] at hl
  have hl2 : zBk.tail[k]? = some l := by rw [List.getElem?_tail]; exact hl
  rw [zBk_tl]
  exact List.mem_flatten.mpr ⟨l, List.mem_of_getElem? hl2, hw⟩
set_option maxRecDepth 100000 in
theorem zXs_chk : zXs.all (fun q => znmh q.2.1.cls && zwq q.2.2.1 (.instantiable q.1 q.2.2.2.1) && zwq q.2.2.2.2.1 (.privateMethod q.2.1) && zwq q.2.2.2.2.2.1 (.instanceMethod q.2.1) && zwq q.2.2.2.2.2.2 (.sameMethod q.2.1.cls q.2.1.cls q.2.1.name q.2.1.desc)) = true := by decide +kernel
set_option maxRecDepth 100000 in
theorem zSt_chk : zSt.all (fun q => zwq q.2.2.2 (.stringRef q.1 q.2.1 q.2.2.1) && decide (Cond.exactly (.string q.1 q.2.1) "java/lang/String" ∈ flatC (Jvm.Cond.and given_1 narrow_1))) = true := by decide +kernel
set_option maxRecDepth 100000 in
theorem zcl_ins : zcl.all (fun q => zmemB (.instantiable q.1 q.2.2)) = true := by decide +kernel
set_option maxRecDepth 100000 in
theorem zlU : Cond.laysStatic Bundle.tN "UNASSIGNED_STACK" Bundle.steD ∈ lw_tbl := by decide +kernel
set_option maxRecDepth 100000 in
theorem zlN : Cond.laysStatic Bundle.tN "SUPPRESSED_SENTINEL" Bundle.listD ∈ lw_tbl := by decide +kernel
set_option maxRecDepth 100000 in
theorem zlI : Cond.initialized Bundle.tN ∈ lw_tbl := by decide +kernel
set_option maxRecDepth 100000 in
theorem zrU : Cond.isRef (.static Bundle.tN "UNASSIGNED_STACK" Bundle.steD) ∈ flatC (Jvm.Cond.and given_1 narrow_1) := by decide +kernel
set_option maxRecDepth 100000 in
theorem zrN : Cond.isRef (.static Bundle.tN "SUPPRESSED_SENTINEL" Bundle.listD) ∈ flatC (Jvm.Cond.and given_1 narrow_1) := by decide +kernel
theorem zlaw_own : zon (zoc zLaw) = R_law := by decide +kernel
theorem zlaw_ini : zini zLaw = false := by decide +kernel
/-- what the start gives -/
theorem zstart {p : Program} {s : State} {m : MethodId} {meth : Method} {c : Code} {b L : Nat} {xs : Nat → Int32} (C0 : lw_At p s m meth c b L xs) (ρ : Nat → Int32) (sc : List Value) (hlen : sc.length = L) (hsc : ∀ (j : Nat) (v : Value), sc[j]? = some v → zc (b, s.heap.size, ρ) v = .int (xs j)) :
    (∀ w ∈ zG, w.before #[Value.ref b] s = true) ∧ ∃ (D : va_G) (cI cL : ClassId), zInv D cI cL (b, s.heap.size, ρ) sc s := by
  obtain ⟨hx, hb, hr, hml, hown, hts, hX, hbl, hlocks, hgv⟩ := id C0
  have hfl := flat_of_before _ hgv
  have hall : ∀ w ∈ zT, w.before #[Value.ref b] s = true := by
    intro w hw
    unfold zT at hw
    rcases List.mem_append.mp hw with h | h
    · obtain ⟨q, hq, rfl⟩ := List.mem_map.mp h
      have h1 := List.all_eq_true.mp zXs_chk q hq
      simp only [Bool.and_eq_true] at h1
      obtain ⟨⟨⟨⟨g0, g1⟩, g2⟩, g3⟩, g4⟩ := h1
      exact z_selects (znmh_ok g0) (hts _ (zwq_mem g1)) (hts _ (zwq_mem g2)) (hts _ (zwq_mem g3)) (hts _ (zwq_mem g4))
    · exact hts w h
  have hG : ∀ w ∈ zG, w.before #[Value.ref b] s = true := fun w hw => hall w (List.mem_filter.mp hw).1
  refine ⟨hG, ?_⟩
  have hN : ∀ w ∈ zXw, va_Nw w s := fun w hw => va_Nw.of (zxw_tab (List.mem_filter.mp hw).2) (hall w (List.mem_filter.mp hw).1)
  have hD : ∀ k : Nat, ∃ (cC : ClassId) (iS : Nat → Nat), ∀ q, zcl[k]? = some q → u_Kn s q.1 q.2.1 q.2.2 cC iS := by
    intro k
    cases hq : zcl[k]? with
    | none => exact ⟨0, fun _ => 0, fun q h => by cases h⟩
    | some q =>
      have h1 := List.all_eq_true.mp zcl_ins q (List.mem_of_getElem? hq)
      have h2 : Cond.instantiable q.1 q.2.2 ∈ zG := by
        rcases zmemB_ok h1 with h | ⟨-, h⟩
        · exact h
        · cases h
      obtain ⟨cC, iS, h⟩ := u_known hG (zcl_in hq) (hG _ h2)
      exact ⟨cC, iS, fun q' h' => by cases h'; exact h⟩
  have harr : ∀ ty : FieldType, Cond.arrayClass ty ∈ zG → (∀ z, ty ≠ .object z) → ∃ cA, ArrOfT s cA ty ∧ va_RA s cA ty := by
    intro ty hty hno
    obtain ⟨cA, kA, comp, h1, h2, h3⟩ := Cond.arrayClass_spec (hG _ hty)
    refine ⟨cA, fun n z => ⟨fun k h => (by cases h), kA, h2, comp, h3⟩, ?_⟩
    cases ty with
    | object z => exact absurd rfl (hno z)
    | _ => exact h1
  obtain ⟨cI, hI⟩ := harr .int zAI_ok (fun z h => by cases h)
  obtain ⟨cL, hL⟩ : ∃ cL, Nat.beq zAL 0 = false → ArrOfT s cL .long ∧ va_RA s cL .long := by
    cases hz : Nat.beq zAL 0 with
    | true => exact ⟨0, fun h => by cases h⟩
    | false =>
      obtain ⟨cL, h⟩ := harr .long (zAL_ok hz) (fun z h => by cases h)
      exact ⟨cL, fun _ => h⟩
  have hA : ∀ a : Nat, a < s.heap.size → ¬ zA (b, s.heap.size, ρ) a := fun a ha => Nat.not_le.mpr ha
  refine ⟨(fun k => Classical.choose (hD k), fun k => Classical.choose (Classical.choose_spec (hD k))), cI, cL, ⟨fun k q hq => Classical.choose_spec (Classical.choose_spec (hD k)) q hq, fun k q hk => ?_⟩, ⟨xs, by rw [hlen]; exact hX, hsc⟩, hN, vx_Zqof (hts _ zlU) (hts _ zlI) (hfl _ zrU) hA, vx_Zqof (hts _ zlN) (hts _ zlI) (hfl _ zrN) hA, fun q hq => ?_, hbl, Nat.le_refl _⟩
  · unfold zTys at hk
    match k, hk with
    | 0, hk => cases hk; exact hI
    | k + 1, hk =>
      cases hz : Nat.beq zAL 0 with
      | true => rw [hz] at hk; simp at hk
      | false =>
        rw [hz] at hk
        match k, hk with
        | 0, hk => cases hk; exact hL hz
        | k + 1, hk => simp at hk
  · have h1 := List.all_eq_true.mp zSt_chk q hq
    simp only [Bool.and_eq_true, decide_eq_true_eq] at h1
    obtain ⟨a, c1, cell, k1, he, -⟩ := Cond.exactly_spec (hfl _ h1.2)
    exact ⟨a, vk_R.of (A := #[Value.ref b]) (hts _ (zwq_mem h1.1)) he⟩
def zok (r : Option zR) : Bool := match r with
  | some (.inl (some (.int x)), _, c, s) => decide (x = 1) && decide (c ≤ 600130) && decide (s ≤ 7301080)
  | _ => false
def zev (sc : List Value) (sy : zSz) : Option zR := zloop sc sy (zcall sc sy 1000000 60) 1000000 zLaw 0 (zent 20 [.ref 0]) [] (false, []) 0 0
theorem zlaw_run {p : Program} {e : Env} {s : State} {m : MethodId} {below : List Frame} {meth : Method} {c : Code} (l : Launch) (hflags : l.flags = flags0) {b L : Nat} {xs : Nat → Int32} (C0 : lw_At p s m meth c b L xs) {r : zR} (ρ : Nat → Int32) (sc : List Value) (sy : zSz) (N d : Nat)
    (hlen : sc.length = L) (hsc : ∀ (j : Nat) (v : Value), sc[j]? = some v → zc (b, s.heap.size, ρ) v = .int (xs j)) (hsy : ∀ z, zSyOk (b, z, ρ) sy)
    (h : zloop sc sy (zcall sc sy N d) N zLaw 0 (zent 20 [.ref 0]) [] (false, []) 0 0 = some r) (hr1 : r.1 = .inl (some (.int 1))) (hc : r.2.2.1 ≤ 600130) (hs : r.2.2.2 ≤ 7301080) :
    W p l e room_1 s m #[Value.ref b] below meth c s.heap [] 0 0 (lw_Z below #[Value.ref b] s) (entryFrame m ([Value.ref b] : List Value).toArray 20) := by
  obtain ⟨hG, D, cI, cL, hI⟩ := zstart C0 ρ sc hlen hsc
  obtain ⟨hx, hb, hr, hml, hown, hts, hX, hbl, hlocks, hgv⟩ := id C0
  have hlt : l.stackTraces = false := by
    unfold Launch.stackTraces
    rw [hflags]
    decide +kernel
  have hmt : zmt zLaw = zLawMt := zmt_law
  have C1 : zCtx p l s m #[Value.ref b] meth c D cI cL (b, s.heap.size, ρ) sc zLaw := ⟨hx, by rw [hmt]; exact hb, by unfold zml; rw [hmt]; exact hml, by rw [zlaw_own]; exact hown, hG, hlocks, fun hh hhh => (by rw [hmt] at hhh; cases hhh), fun h9 => absurd h9 (Nat.lt_irrefl _), fun h9 => (by rw [zlaw_ini] at h9; cases h9), hI, Nat.le_refl _, hlt⟩
  have hrt : zrt zLaw = some .boolean := by unfold zrt; rw [hmt]; rfl
  have hmlz : zml zLaw = 20 := by unfold zml; rw [hmt]; rfl
  have hH0 : zH D cI cL (b, s.heap.size, ρ) (false, []) s.heap := ⟨fun _ => rfl, Nat.le_refl _, fun k e9 h9 => by simp at h9⟩
  have hS : va_S (zA (b, s.heap.size, ρ)) s.heap s.heap [] := va_S.rf
  rw [lg_entry_eq]
  have hl0 := zent_L (b, s.heap.size, ρ) (as := [.ref 0]) (n := 20) (by decide)
  refine (zloop_sound (Q := lw_Z below #[Value.ref b] s) (R := room_1) (e := e) (below := below) C1 (hsy _) (fun j as w r' h' hj' => zcall_sound hlt (hsy _) N d j as w r' h' hj') hc hs (by decide +kernel) (by decide +kernel) ?_ ?_ ?_ N 0 (zent 20 [.ref 0]) [] (false, []) 0 0 h).2 s.heap _ [] (by rw [hmlz]; exact hl0) hH0 hS
  · intro ov hr2 pc ls H locs ins st h1 h2 h3 h4
    rw [hr1] at hr2
    cases hr2
    have hst := zret_c h2
    subst hst
    rw [hrt] at h2
    have hdc := zi_ok h1 (Nat.le_refl _)
    rw [hmt] at hdc
    refine va_forget (fun q hq => h4.2.2 q hq) (W.widen (k := 600130) (n := 7301080) hc hs ?_)
    cases ins
    case ireturn => exact lw_ret hx hb hr hlocks (hdc.plain rfl)
    all_goals (simp [zret] at h2)
  · intro E hr2
    rw [hr1] at hr2
    cases hr2
  · intro E hr2
    rw [hr1] at hr2
    cases hr2
theorem zok_spec {o : Option zR} (h : zok o = true) : ∃ r, o = some r ∧ r.1 = .inl (some (.int 1)) ∧ r.2.2.1 ≤ 600130 ∧ r.2.2.2 ≤ 7301080 := by
  unfold zok at h
  split at h
  · next x w c s =>
    simp only [Bool.and_eq_true, decide_eq_true_eq] at h
    obtain ⟨⟨rfl, h2⟩, h3⟩ := h
    exact ⟨_, rfl, rfl, h2, h3⟩
  · cases h
