/-! ===== each call meets its contract ===== -/
theorem zarg_len (as : List Value) : (zarg as).length = (lg_sl as).length := by
  induction as with
  | nil => rfl
  | cons v r ih =>
    have e : (lg_sl (v :: r)).length = (if v.category = 2 then [Slot.val v, .second] else [Slot.val v]).length + (lg_sl r).length := by
      unfold lg_sl
      rw [List.flatMap_cons, List.length_append]
    rw [e, ← ih]
    show (bif zcat2 v then v :: zmk :: zarg r else v :: zarg r).length = _
    cases hv : zcat2 v with
    | true =>
      rw [if_pos ((zcat2_iff v).mp hv)]
      simp only [cond_true, List.length_cons, List.length_nil]
      omega
    | false =>
      rw [if_neg (by rw [zcat2_f hv]; decide)]
      simp only [cond_false, List.length_cons, List.length_nil]
      omega
theorem zlg_len (X : zX) (as : List Value) : (lg_sl (as.map (zc X))).length = (zarg as).length := by
  rw [zarg_len]
  unfold lg_sl
  induction as with
  | nil => rfl
  | cons v r ih =>
    rw [List.map_cons, List.flatMap_cons, List.flatMap_cons, List.length_append, List.length_append, ih, zc_cat]
    split <;> rfl
theorem zarg_in (X : zX) (as : List Value) : ∀ (o i : Nat) (v : Value), (zarg as)[i]? = some v → v ≠ zmk → (o + i, zc X v) ∈ lv_args o (as.map (zc X)) := by
  induction as with
  | nil => intro o i v h; simp [zarg] at h
  | cons a r ih =>
    intro o i v h hv
    rw [List.map_cons]
    unfold lv_args
    unfold zarg at h
    cases ha : zcat2 a with
    | true =>
      rw [ha] at h
      simp only [cond_true] at h
      rw [if_pos (by rw [zc_cat]; exact (zcat2_iff a).mp ha)]
      match i, h with
      | 0, h =>
        cases h
        exact List.mem_cons_self
      | 1, h =>
        have h1 : some zmk = some v := h
        exact absurd (Option.some.inj h1).symm hv
      | j + 2, h =>
        have h1 : (zarg r)[j]? = some v := h
        have := ih (o + 2) j v h1 hv
        rw [show o + (j + 2) = o + 2 + j by omega]
        exact List.mem_cons_of_mem _ this
    | false =>
      rw [ha] at h
      simp only [cond_false] at h
      rw [if_neg (by rw [zc_cat, zcat2_f ha]; decide)]
      match i, h with
      | 0, h =>
        cases h
        exact List.mem_cons_self
      | j + 1, h =>
        have h1 : (zarg r)[j]? = some v := h
        have := ih (o + 1) j v h1 hv
        rw [show o + (j + 1) = o + 1 + j by omega]
        exact List.mem_cons_of_mem _ this
theorem zent_L (X : zX) {as : List Value} {n : Nat} (h : (zarg as).length ≤ n) : zL X ((lg_sl (as.map (zc X)) ++ List.replicate (n - (lg_sl (as.map (zc X))).length) Slot.unset).toArray) n (zent n as) := by
  have h1 := lv_entry (as.map (zc X)) (n := n) (by rw [zlg_len]; exact h)
  refine ⟨?_, h1.1, h1.2.1, fun i v hi hv => ?_⟩
  · unfold zent
    simp; omega
  · unfold zent at hi
    have hlt : i < (zarg as).length := by
      by_cases g : i < (zarg as).length
      · exact g
      · rw [List.getElem?_append_right (by omega), List.getElem?_replicate] at hi
        split at hi
        · cases hi
          exact absurd rfl hv
        · cases hi
    rw [List.getElem?_append_left hlt] at hi
    have := zarg_in X as 0 i v hi hv
    rw [Nat.zero_add] at this
    exact h1.2.2 _ this
theorem zcall_sound {l : Launch} {D : va_G} {cI cL : ClassId} {X : zX} {sc : List Value} {sy : zSz} (hl : l.stackTraces = false) (hsy : zSyOk X sy) (N : Nat) : ∀ (d j : Nat) (as : List Value) (w : zW) (r : zR), zcall sc sy N d j as w = some r → j < zLaw → zSpec l D cI cL X sc j as w r := by
  intro d
  induction d with
  | zero => intro j as w r h; cases h
  | succ d ih =>
    intro j as w r h hj
    simp only [zcall] at h
    cases hg : (decide ((zarg as).length ≤ zml j) && decide (j < zLaw)) with
    | false => rw [hg] at h; cases h
    | true =>
      rw [hg] at h
      simp only [cond_true] at h
      simp only [Bool.and_eq_true, decide_eq_true_eq] at hg
      obtain ⟨hw, hcls, hpl, -, -⟩ := zcw_ok hj
      have key : ∀ (p : Program) (e : Env) (s : State) (m : MethodId) (args : Array Value) (below : List Frame) (meth : Method) (c : Code) (s₁ : State), BodyLoose p l (zy j) (headSpec (zws j) (zRoom j r)) (zmt j).2.1 (zml j) (zrt j) e s m args below meth c s₁ → c.maxLocals = zml j →
          ((∀ hh, (zmt j).2.2.2.2.1 = some hh → c.exceptionTable.toList = tableOf hh) ∧ ((zmt j).2.2.2.2.1 = none → ∀ x ∈ c.exceptionTable.toList, False)) → zPre D cI cL X sc as w args s →
          W p l e (headSpec (zws j) (zRoom j r)).room s m args below meth c s.heap [] 0 0 (vx_MQ below (zQr D cI cL X r) (zXr D cI cL X r) args s r.2.2.1 r.2.2.2 (zA X)) (entryFrame m args (zml j)) := by
        intro p e s m args below meth c s₁ B hml htab hP
        obtain ⟨rfl, hH, hI⟩ := hP
        have hown : s.vm.findClass (zon (zoc j)) = some m.cls := by rw [hcls]; exact findClass_of_methodNamed B.named
        have hts0 := atoms_spec (ws := zws j) B.pre
        have hin : zini j = true → meth.name = "<init>" := fun z => by
          rw [(name_of_methodNamed B.named B.method).1]
          unfold zini at z
          exact eq_of_beq z
        have C0 : zCtx p l s m _ meth c D cI cL X sc j := ⟨B.exec, B.bytes, hml, hown, fun w9 hw9 => hts0 w9 (List.mem_cons_of_mem _ hw9), B.notSynchronized, htab.1, fun _ => htab.2, hin, hI, Nat.le_of_lt hj, hl⟩
        rw [lg_entry_eq]
        have hS : va_S (zA X) s.heap s.heap [] := va_S.rf
        refine (zloop_sound (Q := vx_MQ below (zQr D cI cL X r) (zXr D cI cL X r) _ s r.2.2.1 r.2.2.2 (zA X)) (R := (headSpec (zws j) (zRoom j r)).room) (e := e) (below := below) C0 hsy (fun j' as' w' r' h' hj' => ih j' as' w' r' h' hj') (Nat.le_refl _) (Nat.le_refl _) (Nat.le_refl _) (Nat.le_refl _) ?_ ?_ ?_ N 0 (zent (zml j) as) [] w 0 0 h).2 s.heap _ [] (zent_L X hg.1) hH hS
        · intro ov hr1 pc ls H locs ins st h1 h2 h3 h4
          exact zret_end C0 B.returns h1 h2 hr1 h3 h4
        · intro E hr1 hh pc ls H locs q ce rest h1 h2 h3 h4 h5
          refine vx_out (XC := zXr D cI cL X r) (E := E) (fun x hx => (htab.2 (by unfold zhas at hh; cases hq : (zmt j).2.2.2.2.1 with
            | none => rfl
            | some y => rw [hq] at hh; cases hh) x hx).elim) B.notSynchronized h3 h4 h5 (fun t ht ha => ?_) h2.2.2 (Nat.le_refl _) (Nat.le_refl _)
          unfold zXr
          rw [hr1]
          exact ⟨rfl, by rw [ht]; exact h1, h2.F ht⟩
        · intro E hr1 hh pc ls H locs w9 cells slots h1 h2 h3 h4 h5 h6 h7
          exact absurd h1 (by simp [zthr, zTh, zfd2])
      unfold zSpec
      have hzw : zws j = zcw j :: zG := rfl
      cases hh : (zmt j).2.2.2.2.1 with
      | none =>
        have hcw : zcw j = .code (zy j) (zmt j).2.1 (zml j) (zrt j) := by unfold zcw; rw [hh]; rfl
        rw [hcw] at hzw
        exact vx_ofW (cc := (zmt j).2.1) (maxL := zml j) (ret := zrt j) hpl hzw fun p e s m args below meth c s₁ B hml htab hP => key p e s m args below meth c s₁ B hml ⟨fun x hx => (by rw [hh] at hx; cases hx), fun _ => htab⟩ hP
      | some hs9 =>
        have hcw : zcw j = .codeWith (zy j) (zmt j).2.1 (zml j) (zrt j) hs9 := by unfold zcw; rw [hh]; rfl
        rw [hcw] at hzw
        refine vx_ofWH (cc := (zmt j).2.1) (maxL := zml j) (ret := zrt j) (hh := hs9) hpl hzw fun p e s m args below meth c s₁ B hml hP => key p e s m args below meth c s₁ B hml ⟨fun x hx => ?_, fun z => by rw [hh] at z; cases z⟩ hP
        rw [hh] at hx
        cases hx
        exact vx_table (x := zy j) B (atoms_spec (ws := zws j) B.pre _ (by rw [hzw]; exact List.mem_cons_self))
