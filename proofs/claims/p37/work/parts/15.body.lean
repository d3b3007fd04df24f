/-! ===== the words of the throws; the loop; a method's contract ===== -/
def zmemB (w : Cond) : Bool := zBk.any (fun l => l.any (fun x => decide (x = w))) && (goodWord w || zxw w)
theorem zmemB_ok {w : Cond} (h : zmemB w = true) : w ∈ zG ∨ (w ∈ zXw ∧ zxw w = true) := by
  unfold zmemB at h
  rw [Bool.and_eq_true, Bool.or_eq_true] at h
  obtain ⟨h1, h2⟩ := h
  obtain ⟨l, hl, h3⟩ := List.any_eq_true.mp h1
  obtain ⟨x, hx, h4⟩ := List.any_eq_true.mp h3
  have e := of_decide_eq_true h4
  subst e
  have hm : x ∈ zT := by
    rw [zT_eq]
    exact List.mem_flatten.mpr ⟨l, hl, hx⟩
  rcases h2 with h2 | h2
  · exact Or.inl (List.mem_filter.mpr ⟨hm, h2⟩)
  · exact Or.inr ⟨List.mem_filter.mpr ⟨hm, h2⟩, h2⟩
set_option maxRecDepth 100000 in
theorem zE0_chk : zE0.all (fun t => (vx_atS t.2.1 t.2.2 t.1 znames).all zmemB) = true := by decide +kernel
set_option maxRecDepth 100000 in
theorem zTl_chk : zTh.all (fun t => zE0.any (fun u => decide (u.1 = t.2.2.1)) && zmemB (.methodLink (zon (zoc t.1)) t.2.2.2.2.2.2.1 (Bundle.initS t.2.2.1))) = true := by decide +kernel
theorem zatS_in {own X : String} {ic : Nat} {names : List String} {w : Cond} (own0 : String) (ic0 : Nat) (h : w ∈ vx_atS own ic X names) : w = .methodLink own ic (Bundle.initS X) ∨ w ∈ vx_atS own0 ic0 X names := by
  unfold vx_atS at h ⊢
  obtain ⟨h1, h2⟩ := List.mem_filter.mp h
  unfold Bundle.ownAtoms at h1
  rcases List.mem_append.mp h1 with h3 | h3
  · exact Or.inr (List.mem_filter.mpr ⟨List.mem_append_left _ h3, h2⟩)
  · rcases List.mem_cons.mp h3 with h4 | h4
    · exact Or.inl h4
    · exact Or.inr (List.mem_filter.mpr ⟨List.mem_append_right _ (List.mem_cons_of_mem _ h4), h2⟩)
section ZBD
variable {p : Program} {l : Launch} {e : Env} {R : Room} {s : State} {m : MethodId} {args : Array Value} {below : List Frame} {meth : Method} {c : Code} {H : Heap} {locs : List Loc} {cells slots : Nat} {Q : State → Prop}
variable {pc i : Nat} {ls : Array Slot} {X : zX} {sc st : List Value} {sy : zSz} {w : zW} {D : va_G} {cI cL : ClassId}
/-- 'throw new E("text")', not caught in its method -/
theorem zthrow {E : String} {r : zR} {mc ms : Nat} (C0 : zCtx p l s m args meth c D cI cL X sc i) (h : zthr i pc = some E) (hh : zhas i = false) (hr1 : r.1 = .inr E) (hr2 : r.2.1 = (true, w.2)) (hH : zH D cI cL X w H) (hS : va_S (zA X) s.heap H locs) (hls : ls.size = c.maxLocals)
    (hRf : 6 < R.frames) (hRl : 90 ≤ R.locals) (hRc : cells + 1 ≤ R.cells) (hRs : slots + 6 ≤ R.slots) (hc : cells + 1 ≤ mc) (hs : slots + 6 ≤ ms) :
    W p l e R s m args below meth c H locs cells slots (vx_MQ below (zQr D cI cL X r) (zXr D cI cL X r) args s mc ms (zA X)) (F0 m pc ls []) := by
  obtain ⟨hx, hb, hml, hown, hts, hlk, -, htab, -, hI, hil, hst⟩ := C0
  obtain ⟨hK, hsc, hN, hU, hV, hstr, hX1, hX2⟩ := hI
  unfold zthr at h
  split at h
  · next t ht =>
    cases h
    have hm := zfd2_mem ht
    have hck := List.all_eq_true.mp zTh_chk _ hm
    have hck2 := List.all_eq_true.mp zTl_chk _ hm
    unfold zThok at hck
    simp only [Bool.and_eq_true, decide_eq_true_eq] at hck hck2
    obtain ⟨⟨⟨⟨⟨⟨⟨⟨⟨⟨g1, g2⟩, g3⟩, g4⟩, g5⟩, g6⟩, g7⟩, g8⟩, g9⟩, g10⟩, g11⟩ := hck
    obtain ⟨k1, k2⟩ := hck2
    have hot : ∀ w, (w ∈ zG ∨ (w ∈ zXw ∧ zxw w = true)) → w.before args s = true ∧ vx_ot w = true := by
      intro w hw
      rcases hw with hw | ⟨hw, hz⟩
      · exact ⟨hts w hw, by unfold vx_ot; rw [(List.mem_filter.mp hw).2, Bool.or_true]⟩
      · exact ⟨va_Nw.use (zxw_tab hz) (hN w hw), by unfold vx_ot; rw [zxw_tab hz, Bool.true_or]⟩
    have hall : ∀ w ∈ vx_atS (zon (zoc i)) t.2.2.2.2.1 t.1 znames, w.before args s = true ∧ vx_ot w = true := by
      intro w hw
      obtain ⟨u, hu1, hu2⟩ := List.any_eq_true.mp k1
      have hu2 : u.1 = t.1 := of_decide_eq_true hu2
      rcases zatS_in u.2.1 u.2.2 hw with rfl | hw
      · exact hot _ (zmemB_ok k2)
      · rw [← hu2] at hw
        exact hot _ (zmemB_ok (List.all_eq_true.mp (List.all_eq_true.mp zE0_chk u hu1) w hw))
    obtain ⟨sa, hsa⟩ := hstr _ g4
    have hout : ∀ x ∈ c.exceptionTable.toList, covers x (pc + 9) = false := fun x hx => (htab g1 (by unfold zhas at hh; cases hq : (zmt i).2.2.2.2.1 with
      | none => rfl
      | some y => rw [hq] at hh; cases hh) x hx).elim
    have dd : ∀ {pc' : Nat} {ins : Instr}, zfd (zil i) pc' = some ins → zisT ins = false → decode (zmt i).2.1 pc' = .ok (ins, zlen ins) := fun h1 h2 => (zi_ok h1 hil).plain h2
    refine vx_throwS (A := zA X) (names := znames) hx hb hst hown g5 (fun n hn => List.all_eq_true.mp g6 n hn) (hts _ (zin_mem g2)) (hts _ (zin_mem g3)) hsa (fun w hw => (hall w hw).1) (fun w hw => ?_) hU hV hS hls (dd g7 rfl) (dd g8 rfl) (dd g9 rfl) (dd g10 rfl) (dd g11 rfl) hout (by show 2 + 3 < _; omega) (by show 0 + (13 * 3 + 43) ≤ _; omega) hRc hRs hlk (fun t9 ha hz hk => ?_) hS.2.2 hc hs
    · rcases List.mem_cons.mp hw with rfl | hw
      · exact (hot _ (Or.inl (zin_mem g2))).2
      · rcases List.mem_cons.mp hw with rfl | hw
        · exact (hot _ (Or.inl (zin_mem g3))).2
        · exact (hall w hw).2
    · unfold zXr
      rw [hr1, hr2]
      refine ⟨rfl, ⟨fun z => by (cases z), Nat.le_trans hH.2.1 hz, fun k9 e9 hk9 => ?_⟩, Nat.le_trans hS.1 hz, fun q g1 g2 => (hk q (Nat.lt_of_lt_of_le g1 hS.1)).trans (hS.2.1 q g1 g2)⟩
      have hlt : k9 < w.2.length := (List.getElem?_eq_some_iff.mp hk9).1
      exact (hH.2.2 k9 e9 hk9).kept (hk _ (by have := hH.2.1; omega))
  · cases h
theorem zret_c {ins : Instr} {rt : Option FieldType} {ov : Option Value} (h : zret ins rt st = some ov) : st = ov.toList := by
  cases ins
  case ireturn =>
    simp only [zret] at h
    split at h
    · next v =>
      split at h
      · cases hc : zisI v <;> rw [hc] at h <;> cases h
        rfl
      · cases hc : ztv .boolean v <;> rw [hc] at h <;> cases h
        rfl
      · cases h
    · cases h
  case lreturn =>
    simp only [zret] at h
    split at h
    · next v =>
      split at h
      · cases hc : zisL v <;> rw [hc] at h <;> cases h
        rfl
      · cases h
    · cases h
  case dreturn =>
    simp only [zret] at h
    split at h
    · next v =>
      split at h
      · cases hc : zisD v <;> rw [hc] at h <;> cases h
        rfl
      · cases h
    · cases h
  case areturn =>
    simp only [zret] at h
    split at h
    · next v =>
      split at h
      · cases hc : zisA v <;> rw [hc] at h <;> cases h
        rfl
      · cases hc : zisA v <;> rw [hc] at h <;> cases h
        rfl
      · cases h
    · cases h
  case return_ =>
    simp only [zret] at h
    split at h
    · split at h
      · cases h
        rfl
      · cases h
    · cases h
  all_goals cases h
/-- a method's end -/
theorem zret_end {ins : Instr} {ov : Option Value} {r : zR} (C0 : zCtx p l s m args meth c D cI cL X sc i) (hrt : meth.sig.returnType = zrt i) (hins : zfd (zil i) pc = some ins) (h : zret ins (zrt i) st = some ov) (hr1 : r.1 = .inl ov) (hH : zH D cI cL X r.2.1 H) (hS : va_S (zA X) s.heap H locs) :
    W p l e R s m args below meth c H locs cells slots (vx_MQ below (zQr D cI cL X r) (zXr D cI cL X r) args s cells slots (zA X)) (F0 m pc ls (st.map (zc X))) := by
  obtain ⟨hx, hb, hml, hown, hts, hlk, -, -, -, hI, hil, -⟩ := C0
  refine vx_ret ?_
  have hst := zret_c h
  have hq : ∀ t : State, t.heap = H → s.WarmedH t.vm → zQr D cI cL X r args s (.returned (ov.map (zc X))) t := by
    intro t ht hW
    unfold zQr
    rw [hr1]
    exact ⟨rfl, by rw [ht]; exact hH, hS.F ht⟩
  have hdc := zi_ok hins hil
  cases ins
  case ireturn =>
    have hd := hdc.plain rfl
    simp only [zret] at h
    split at h
    · next v =>
      split at h
      · next hrt2 =>
        cases hc : zisI v <;> rw [hc] at h <;> cases h
        obtain ⟨x, hxv⟩ := zisI_c (X := X) hc
        have hq' := hq
        simp only [Option.map_some, hxv] at hq'
        show W p l e R s m args below meth c H locs cells slots _ (F0 m pc ls [zc X v])
        rw [hxv]
        exact W.iret hx hb (hrt.trans hrt2) hq' hS.2.2 hd hlk
      · next hrt2 =>
        cases hc : ztv .boolean v <;> rw [hc] at h <;> cases h
        obtain ⟨hn, hf⟩ := ztv_c (X := X) hc
        cases v with
        | int x => exact W.zret hx hb (hrt.trans hrt2) hn hq hS.2.2 hd hlk
        | _ => simp [ztv] at hc
      · cases h
    · cases h
  case lreturn =>
    have hd := hdc.plain rfl
    simp only [zret] at h
    split at h
    · next v =>
      split at h
      · next hrt2 =>
        cases hc : zisL v <;> rw [hc] at h <;> cases h
        obtain ⟨x, rfl, hxv⟩ := zisL_c (X := X) hc
        exact W.lret hx hb (hrt.trans hrt2) hq hS.2.2 hd hlk
      · cases h
    · cases h
  case dreturn =>
    have hd := hdc.plain rfl
    simp only [zret] at h
    split at h
    · next v =>
      split at h
      · next hrt2 =>
        cases hc : zisD v <;> rw [hc] at h <;> cases h
        obtain ⟨x, rfl, hxv⟩ := zisD_c (X := X) hc
        exact W.dret hx hb (hrt.trans hrt2) hq hS.2.2 hd hlk
      · cases h
    · cases h
  case areturn =>
    have hd := hdc.plain rfl
    simp only [zret] at h
    split at h
    · next v =>
      split at h
      · next nm hrt2 =>
        cases hc : zisA v <;> rw [hc] at h <;> cases h
        exact W.aret hx hb (hrt.trans hrt2) (Or.inl ⟨_, rfl⟩) ((zisA_c (X := X) hc).symm) hq hS.2.2 hd hlk
      · next nm hrt2 =>
        cases hc : zisA v <;> rw [hc] at h <;> cases h
        exact W.aret hx hb (hrt.trans hrt2) (Or.inr ⟨_, rfl⟩) ((zisA_c (X := X) hc).symm) hq hS.2.2 hd hlk
      · cases h
    · cases h
  case return_ =>
    have hd := hdc.plain rfl
    simp only [zret] at h
    split at h
    · split at h
      · next hrt2 =>
        cases h
        exact W.vret hx hb (hrt.trans hrt2) hq hS.2.2 hd hlk
      · cases h
    · cases h
  all_goals cases h
end ZBD
