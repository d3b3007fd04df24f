/-! ===== the invariant of all calls; a method's contract; the loop ===== -/
def zInv (D : va_G) (cI cL : ClassId) (X : zX) (sc : List Value) (U : State) : Prop :=
  va_K D zcl (zTys cI cL) U ∧ zScOk X sc U ∧ (∀ w ∈ zXw, va_Nw w U) ∧ vx_Zq Bundle.tN "UNASSIGNED_STACK" Bundle.steD (zA X) U U.heap ∧ vx_Zq Bundle.tN "SUPPRESSED_SENTINEL" Bundle.listD (zA X) U U.heap ∧
  (∀ q ∈ zSt, ∃ a, vk_R q.1 q.2.1 q.2.2.1 a U) ∧ X.1 < X.2.1 ∧ X.2.1 ≤ U.heap.size
theorem zInv.move {D : va_G} {cI cL : ClassId} {X : zX} {sc : List Value} {s U : State} (h : zInv D cI cL X sc s) (hW : s.WarmedH U.vm) (hz : s.heap.size ≤ U.heap.size) (hk : ∀ q : Nat, q < s.heap.size → ¬ zA X q → U.heap[q]? = s.heap[q]?) : zInv D cI cL X sc U := by
  obtain ⟨h1, ⟨xs, h2, h2'⟩, h3, h4, h5, h6, h7, h8⟩ := h
  refine ⟨va_K.moved hW.alike h1, ⟨xs, ?_, h2'⟩, fun w hw => zxw_warm (List.mem_filter.mp hw).2 hW (h3 w hw), vx_Zq.moved hW.alike (h4.kept hk), vx_Zq.moved hW.alike (h5.kept hk), fun q hq => ?_, h7, Nat.le_trans h8 hz⟩
  · exact va_X.moved hW.alike (h2.kept (hk X.1 (by omega) (Nat.not_le.mpr h7)))
  · obtain ⟨a, ha⟩ := h6 q hq
    exact ⟨a, vk_R.warm hW ha⟩
def zPre (D : va_G) (cI cL : ClassId) (X : zX) (sc as : List Value) (w : zW) : Array Value → State → Prop := fun v U => v = (as.map (zc X)).toArray ∧ zH D cI cL X w U.heap ∧ zInv D cI cL X sc U
def zQr (D : va_G) (cI cL : ClassId) (X : zX) (r : zR) : Array Value → State → Outcome → State → Prop := fun _ st o t => match r.1 with
  | .inl ov => o = .returned (ov.map (zc X)) ∧ zH D cI cL X r.2.1 t.heap ∧ va_F (zA X) st t
  | .inr _ => False
def zXr (D : va_G) (cI cL : ClassId) (X : zX) (r : zR) : String → State → State → Prop := fun E st t => match r.1 with
  | .inl _ => False
  | .inr E' => E = E' ∧ zH D cI cL X r.2.1 t.heap ∧ va_F (zA X) st t
def zRoom (j : Nat) (r : zR) : Room := { frames := zFr j, cells := r.2.2.1, slots := r.2.2.2, locals := zLo j }
def zws (j : Nat) : List Cond := zcw j :: zG
def zSpec (l : Launch) (D : va_G) (cI cL : ClassId) (X : zX) (sc : List Value) (j : Nat) (as : List Value) (w : zW) (r : zR) : Prop :=
  vx_Met l (zy j) (zws j) (zRoom j r) (zPre D cI cL X sc as w) (zQr D cI cL X r) (zXr D cI cL X r) r.2.2.1 r.2.2.2 (zA X)
theorem zPre_blind (D : va_G) (cI cL : ClassId) (X : zX) (sc as : List Value) (w : zW) : FrameBlind (zPre D cI cL X sc as w) := by
  intro a U g mk h
  obtain ⟨h1, h2, h3⟩ := h
  exact ⟨h1, h2, h3.move (State.WarmedH.refl U) (Nat.le_refl _) (fun _ _ _ => rfl)⟩
set_option maxRecDepth 100000 in
theorem zml_chk : (List.range zLaw).all (fun j => decide (zml j ≤ 40)) = true := by decide +kernel
theorem zml_le {j : Nat} (h : j < zLaw) : zml j ≤ 40 := of_decide_eq_true (List.all_eq_true.mp zml_chk j (List.mem_range.mpr h))
theorem zpop_spec {n : Nat} : ∀ {st acc as rest : List Value}, zpop n st acc = some (as, rest) → ∃ bs, as = bs ++ acc ∧ st = bs.reverse ++ rest ∧ bs.length = n := by
  induction n with
  | zero =>
    intro st acc as rest h
    cases h
    exact ⟨[], rfl, rfl, rfl⟩
  | succ n ih =>
    intro st acc as rest h
    cases st with
    | nil => cases h
    | cons v st =>
      obtain ⟨bs, h1, h2, h3⟩ := ih (show zpop n st (v :: acc) = some (as, rest) from h)
      refine ⟨bs ++ [v], by rw [h1]; simp, by rw [h2]; simp, by simp [h3]⟩
theorem znmh_ok {x : String} (h : znmh x = true) : x ≠ "java/lang/invoke/MethodHandle" ∧ x ≠ "java/lang/invoke/VarHandle" := by
  unfold znmh at h
  simpa using h
section ZLP
variable {p : Program} {l : Launch} {e : Env} {R : Room} {s : State} {m : MethodId} {args : Array Value} {below : List Frame} {meth : Method} {c : Code} {H : Heap} {locs : List Loc} {cells slots : Nat} {Q : State → Prop}
variable {pc i : Nat} {ls : Array Slot} {X : zX} {sc st : List Value} {sy : zSz} {w : zW} {D : va_G} {cI cL : ClassId}
/-- what a method's frame stands on -/
def zCtx (p : Program) (l : Launch) (s : State) (m : MethodId) (args : Array Value) (meth : Method) (c : Code) (D : va_G) (cI cL : ClassId) (X : zX) (sc : List Value) (i : Nat) : Prop :=
  p.tables.exec = Jvm.exec ∧ c.code = (zmt i).2.1 ∧ c.maxLocals = zml i ∧ s.vm.findClass (zon (zoc i)) = some m.cls ∧ (∀ w ∈ zG, w.before args s = true) ∧ meth.locks = false ∧
  (∀ hh, (zmt i).2.2.2.2.1 = some hh → c.exceptionTable.toList = tableOf hh) ∧ (i < zLaw → (zmt i).2.2.2.2.1 = none → ∀ x ∈ c.exceptionTable.toList, False) ∧ (zini i = true → meth.name = "<init>") ∧ zInv D cI cL X sc s ∧ i ≤ zLaw ∧ l.stackTraces = false
theorem zmap_app (X : zX) (as rest : List Value) : (as.reverse ++ rest).map (zc X) = (as.map (zc X)).reverse ++ rest.map (zc X) := by
  rw [List.map_append, List.map_reverse]
theorem zat_recv (hK : va_K D zcl (zTys cI cL) s) {k cn : Nat} {fs : List Value} {q : vw_C} (hq : zcl[cn]? = some q) (hH : zH D cI cL X w H) (hk : w.2[k]? = some (.inr (.inr (cn, fs)))) : ∃ cellB : Cell, H[X.2.1 + k]? = some cellB ∧ cellB.vm.isStatics = false ∧ s.vm.findClass q.1 = some cellB.cls :=
  va_recv (fs := fs.map (zc X)) hK (zP1 (show va_at D zcl (X.2.1 + k, .inr (cn, fs.map (zc X))) H from hH.2.2 k _ hk)) hq (q0 := 0) rfl
set_option maxHeartbeats 1000000 in
/-- the door of each call -/
theorem zinv_go {ins : Instr} {q : Nat × Nat × List Value × List Value} (C0 : zCtx p l s m args meth c D cI cL X sc i) (hins : zfd (zil i) pc = some ins) (h : zinv i ins st w = some q) (hH : zH D cI cL X w H) (h6 : q.1 ≠ 6) (h7 : q.1 ≠ 7) (h8 : q.1 ≠ 8) (h9 : q.1 ≠ 9) :
    q.2.1 < zLaw ∧ (Cond.initialized (zy q.2.1).cls).before args s = true ∧ (∃ ig, decode c.code pc = .ok (ig, 3)) ∧ zGo p l e R s m args below meth c H locs cells slots (F0 m pc ls (st.map (zc X))) (q.2.2.2.map (zc X)) (zy q.2.1) (q.2.2.1.map (zc X)) := by
  obtain ⟨hx, hb, hml, hown, hts, hlk, -, -, -, hI, hil, -⟩ := C0
  have hK := hI.1
  have hN := hI.2.2.1
  have hdc := zi_ok hins hil
  cases ins
  case invokestatic idx =>
    have hd : decode c.code pc = .ok (.invokestatic idx, 3) := by rw [hb]; exact hdc.plain rfl
    simp only [zinv] at h
    split at h
    · next q0 hq0 =>
      split at h
      · next as rest hpop =>
        split at h
        · next e0 he0 =>
          cases hkk : zkS e0.1 with
          | false => rw [hkk] at h; cases h
          | true =>
          rw [hkk] at h
          cases h
          obtain ⟨bs, h1, h2, h3⟩ := zpop_spec hpop
          rw [List.append_nil] at h1
          subst h1
          have hck := zC_ok he0
          unfold zCok at hck
          simp only [hq0] at hck
          rw [Bool.and_eq_true, Bool.and_eq_true, Bool.and_eq_true] at hck
          obtain ⟨⟨⟨k1, k2⟩, k3⟩, k4⟩ := hck
          have hn := Nat.eq_of_beq_eq_true k1
          have hlen : (parseMethodDescriptor e0.2.2.2.1.desc).map (fun d => d.parameters.length) = some (as.map (zc X)).length := by
            rw [List.length_map, h3, hn]
            exact of_decide_eq_true k2
          have hst : st.map (zc X) = (as.map (zc X)).reverse ++ rest.map (zc X) := by rw [h2, zmap_app]
          have hnm := znmh_ok k3
          obtain ⟨kd, j, n, x, ow, i0, i1, i2, i3, i4, i5, dj⟩ := e0
          match kd, k4, h6, h7, h8, h9 with
          | 0, k4, _, _, _, _ => cases hkk
          | 1, k4, _, _, _, _ => cases hkk
          | 2, k4, _, _, _, _ =>
            simp only [Bool.and_eq_true, decide_eq_true_eq] at k4
            obtain ⟨⟨⟨⟨g1, g2⟩, g3⟩, g4⟩, g5⟩ := k4
            subst g2
            exact ⟨g1, hts _ (zin_mem g5), ⟨_, hd⟩, zgo_stat hx hown (hts _ (zin_mem g3)) (hts _ (zin_mem g4)) (hts _ (zin_mem g5)) (hts _ (zcw_ok g1).1) hnm rfl hlen hst hd⟩
          | 3, k4, _, _, _, _ =>
            simp only [Bool.and_eq_true, decide_eq_true_eq] at k4
            obtain ⟨⟨⟨⟨⟨g1, g2⟩, g2'⟩, g3⟩, g4⟩, g5⟩ := k4
            subst g2
            exact ⟨g1, hts _ (zin_mem g5), ⟨_, hd⟩, zgo_statN hx hown (va_Nw.use rfl (hN _ (zxn_mem g3))) (hts _ (zin_mem g4)) (hts _ (zin_mem g5)) (hts _ (zcw_ok g1).1) hnm rfl hlen hst hd⟩
          | 4, k4, _, _, _, _ => cases hkk
          | 5, k4, _, _, _, _ => cases hkk
          | 6, k4, h6, _, _, _ => exact absurd rfl h6
          | 7, k4, _, h7, _, _ => exact absurd rfl h7
          | 8, k4, _, _, h8, _ => exact absurd rfl h8
          | 9, k4, _, _, _, h9 => exact absurd rfl h9
          | n + 10, k4, _, _, _, _ => cases k4
        · cases h
      · cases h
    · cases h
  case invokespecial idx =>
    have hd : decode c.code pc = .ok (.invokespecial idx, 3) := by rw [hb]; exact hdc.plain rfl
    simp only [zinv] at h
    split at h
    · next q0 hq0 =>
      split at h
      · next as k0 rest hpop =>
        split at h
        · next e0 he0 =>
          cases hkk : zkI e0.1 with
          | false => rw [hkk] at h; cases h
          | true =>
          rw [hkk] at h
          cases h
          obtain ⟨bs, h1, h2, h3⟩ := zpop_spec hpop
          rw [List.append_nil] at h1
          subst h1
          have hck := zC_ok he0
          unfold zCok at hck
          simp only [hq0] at hck
          rw [Bool.and_eq_true, Bool.and_eq_true, Bool.and_eq_true] at hck
          obtain ⟨⟨⟨k1, k2⟩, k3⟩, k4⟩ := hck
          have hn := Nat.eq_of_beq_eq_true k1
          have hlen : (parseMethodDescriptor e0.2.2.2.1.desc).map (fun d => d.parameters.length) = some (as.map (zc X)).length := by
            rw [List.length_map, h3, hn]
            exact of_decide_eq_true k2
          have hst : st.map (zc X) = (as.map (zc X)).reverse ++ .ref (X.2.1 + k0) :: rest.map (zc X) := by rw [h2, zmap_app]; rfl
          have hnm := znmh_ok k3
          obtain ⟨kd, j, n, x, ow, i0, i1, i2, i3, i4, i5, dj⟩ := e0
          match kd, k4, h6, h7, h8, h9 with
          | 0, k4, _, _, _, _ => cases hkk
          | 1, k4, _, _, _, _ => cases hkk
          | 2, k4, _, _, _, _ => cases hkk
          | 3, k4, _, _, _, _ => cases hkk
          | 4, k4, _, _, _, _ =>
            simp only [Bool.and_eq_true, decide_eq_true_eq, Bool.not_eq_true'] at k4
            obtain ⟨⟨⟨⟨⟨⟨⟨g0, g1⟩, g2⟩, g2'⟩, g2''⟩, g3⟩, g4⟩, g5⟩ := k4
            subst g2
            have hcode := hts _ (zcw_ok g1).1
            rw [zcw_plain g2', show (zmt j).2.2.2.1 = none from g0] at hcode
            exact ⟨g1, hts _ (zin_mem g5), ⟨_, hd⟩, zgo_init hx hown g2'' (hts _ (zin_mem g3)) (hts _ (zin_mem g4)) hcode hnm rfl hlen hst hd⟩
          | 5, k4, _, _, _, _ =>
            simp only [Bool.and_eq_true, decide_eq_true_eq, Bool.not_eq_true'] at k4
            obtain ⟨⟨⟨⟨⟨⟨⟨g0, g1⟩, g2⟩, g2'⟩, g2''⟩, g3⟩, g4⟩, g5⟩ := k4
            subst g2
            have hcode := hts _ (zcw_ok g1).1
            rw [zcw_plain g2', show (zmt j).2.2.2.1 = none from g0] at hcode
            exact ⟨g1, hts _ (zin_mem g5), ⟨_, hd⟩, zgo_initN hx hown g2'' (va_Nw.use rfl (hN _ (zxn_mem g3))) (hts _ (zin_mem g4)) hcode hnm rfl hlen hst hd⟩
          | 6, k4, h6, _, _, _ => exact absurd rfl h6
          | 7, k4, _, h7, _, _ => exact absurd rfl h7
          | 8, k4, _, _, h8, _ => exact absurd rfl h8
          | 9, k4, _, _, _, h9 => exact absurd rfl h9
          | n + 10, k4, _, _, _, _ => cases k4
        · cases h
      · cases h
    · cases h
  case invokevirtual idx =>
    have hd : decode c.code pc = .ok (.invokevirtual idx, 3) := by rw [hb]; exact hdc.plain rfl
    simp only [zinv] at h
    split at h
    · next q0 hq0 =>
      split at h
      · next as k0 rest hpop =>
        rw [zat_eq] at h
        split at h
        · next cn fs hk =>
          split at h
          · next e0 he0 =>
            cases hkk : zkV e0.1 with
            | false => rw [hkk] at h; cases h
            | true =>
            rw [hkk] at h
            cases h
            obtain ⟨bs, h1, h2, h3⟩ := zpop_spec hpop
            rw [List.append_nil] at h1
            subst h1
            have hck := zC_ok he0
            unfold zCok at hck
            simp only [hq0] at hck
            rw [Bool.and_eq_true, Bool.and_eq_true, Bool.and_eq_true] at hck
            obtain ⟨⟨⟨k1, k2⟩, k3⟩, k4⟩ := hck
            have hn := Nat.eq_of_beq_eq_true k1
            have hlen : (parseMethodDescriptor e0.2.2.2.1.desc).map (fun d => d.parameters.length) = some (as.map (zc X)).length := by
              rw [List.length_map, h3, hn]
              exact of_decide_eq_true k2
            have hst : st.map (zc X) = (as.map (zc X)).reverse ++ .ref (X.2.1 + k0) :: rest.map (zc X) := by rw [h2, zmap_app]; rfl
            have hnm := znmh_ok k3
            obtain ⟨kd, j, n, x, ow, i0, i1, i2, i3, i4, i5, dj⟩ := e0
            match kd, k4, h6, h7, h8, h9 with
            | 0, k4, _, _, _, _ =>
              cases hq : zcl[cn]? with
              | none => simp [zat_eq, hq] at k4
              | some qc =>
                simp only [zat_eq, hq, Bool.and_eq_true, decide_eq_true_eq, Bool.not_eq_true'] at k4
                obtain ⟨⟨⟨⟨⟨⟨⟨g1, g2⟩, g2'⟩, g2''⟩, g3⟩, g4⟩, g5⟩, g6⟩ := k4
                subst g2
                refine ⟨g1, hts _ (zin_mem g6), ⟨_, hd⟩, zgo_virt hx hown (hts _ (zin_mem g3)) (hts _ (zin_mem g4)) (hts _ (zin_mem g5)) (hts _ (zcw_ok g1).1) hnm ?_ rfl hlen hst hd⟩
                rw [← g2'']
                exact zat_recv hK hq hH hk
            | 1, k4, _, _, _, _ =>
              cases hq : zcl[cn]? with
              | none => simp [zat_eq, hq] at k4
              | some qc =>
                simp only [zat_eq, hq, Bool.and_eq_true, decide_eq_true_eq, Bool.not_eq_true'] at k4
                obtain ⟨⟨⟨⟨⟨⟨⟨⟨g1, g2⟩, g2'⟩, g3⟩, g4⟩, g5⟩, g6⟩, g7⟩, g8⟩ := k4
                have hdecl : va_Decl s ⟨ow, x.name, x.desc⟩ := by
                  cases dj with
                  | zero => exact va_Decl.abs (hN _ (zxn_mem g8))
                  | succ k9 =>
                    simp only [Bool.and_eq_true, decide_eq_true_eq, Bool.not_eq_true'] at g8
                    obtain ⟨⟨⟨b1, b2⟩, b3⟩, b4⟩ := g8
                    have hcode := hts _ (zcw_ok b2).1
                    rw [zcw_plain b3] at hcode
                    rw [← b4]
                    exact va_Decl.of (by rw [b4]; exact hts _ (zin_mem b1)) hcode
                exact ⟨g1, hts _ (zin_mem g7), ⟨_, hd⟩, zgo_up hx hown (hts _ (zin_mem g3)) (hts _ (zin_mem g4)) hdecl (znmh_ok g2') (hts _ (zin_mem g6)) (hts _ (zin_mem g5)) (zat_recv hK hq hH hk) rfl hlen hst hd⟩
            | 2, k4, _, _, _, _ => cases hkk
            | 3, k4, _, _, _, _ => cases hkk
            | 4, k4, _, _, _, _ => cases hkk
            | 5, k4, _, _, _, _ => cases hkk
            | 6, k4, h6, _, _, _ => exact absurd rfl h6
            | 7, k4, _, h7, _, _ => exact absurd rfl h7
            | 8, k4, _, _, h8, _ => exact absurd rfl h8
            | 9, k4, _, _, _, h9 => exact absurd rfl h9
            | n + 10, k4, _, _, _, _ => cases k4
          · cases h
        · cases h
      · cases h
    · cases h
  all_goals cases h
theorem zkS_le {k : Nat} (h : zkS k = true) : k ≤ 9 := by
  unfold zkS at h
  simp only [Bool.or_eq_true] at h
  rcases h with (((h | h) | h) | h) | h <;> (have := Nat.eq_of_beq_eq_true h; omega)
theorem zkI_le {k : Nat} (h : zkI k = true) : k ≤ 9 := by
  unfold zkI at h
  simp only [Bool.or_eq_true] at h
  rcases h with (h | h) | h <;> (have := Nat.eq_of_beq_eq_true h; omega)
theorem zkV_le {k : Nat} (h : zkV k = true) : k ≤ 9 := by
  unfold zkV at h
  simp only [Bool.or_eq_true] at h
  rcases h with h | h <;> (have := Nat.eq_of_beq_eq_true h; omega)
/-- what a call needs of frames and locals is in the caller's row -/
theorem zinv_fl {ins : Instr} {q : Nat × Nat × List Value × List Value} (hins : zfd (zil i) pc = some ins) (hil : i ≤ zLaw) (h : zinv i ins st w = some q) : (6 ≤ q.1 → 1 ≤ zFr i ∧ 40 ≤ zLo i) ∧ (¬ 6 ≤ q.1 → zFr q.2.1 + 1 ≤ zFr i ∧ zml q.2.1 + 19 + zLo q.2.1 ≤ zLo i) ∧ q.1 ≤ 9 := by
  have hF := List.all_eq_true.mp (List.all_eq_true.mp zFR_chk i (List.mem_range.mpr (Nat.lt_succ_of_le hil))) _ (zfd_mem hins)
  dsimp only at hF
  cases ins
  case invokestatic idx =>
    simp only [zinv] at h
    split at h
    · split at h
      · split at h
        · next e0 he0 =>
          cases hkk : zkS e0.1 with
          | false => rw [hkk] at h; cases h
          | true =>
          rw [hkk] at h
          cases h
          exact ⟨(zFR_ok hF he0).1, (zFR_ok hF he0).2, zkS_le hkk⟩
        · cases h
      · cases h
    · cases h
  case invokespecial idx =>
    simp only [zinv] at h
    split at h
    · split at h
      · split at h
        · next e0 he0 =>
          cases hkk : zkI e0.1 with
          | false => rw [hkk] at h; cases h
          | true =>
          rw [hkk] at h
          cases h
          exact ⟨(zFR_ok hF he0).1, (zFR_ok hF he0).2, zkI_le hkk⟩
        · cases h
      · cases h
    · cases h
  case invokevirtual idx =>
    simp only [zinv] at h
    split at h
    · split at h
      · split at h
        · split at h
          · next e0 he0 =>
            cases hkk : zkV e0.1 with
            | false => rw [hkk] at h; cases h
            | true =>
            rw [hkk] at h
            cases h
            exact ⟨(zFR_ok hF he0).1, (zFR_ok hF he0).2, zkV_le hkk⟩
          · cases h
        · cases h
      · cases h
    · cases h
  all_goals cases h
end ZLP
