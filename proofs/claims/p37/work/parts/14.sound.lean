/-! ===== handlers, throws, native calls; the loop is sound; each method meets its contract ===== -/
def zHdok (t : Nat × Nat × Nat × Nat × Nat × String × Nat × Nat) : Bool := match (zmt t.1).2.2.2.2.1 with
  | some (x :: _) => decide (x = (t.2.1, t.2.2.1, t.2.2.2.1, t.2.2.2.2.1)) && !decide (t.2.2.2.2.1 = 0) && zin t.2.2.2.2.2.2.1 (.classLink (zon (zoc t.1)) t.2.2.2.2.1 t.2.2.2.2.2.1) && zxn t.2.2.2.2.2.2.2 (.castable t.2.2.2.2.2.1 t.2.2.2.2.2.1)
  | _ => false
set_option maxRecDepth 100000 in
theorem zHd_chk : zHd.all zHdok = true := by decide +kernel
def znames : List String := ["java/lang/RuntimeException", "java/lang/Exception"]
/-- a throw: its words, its five instructions -/
def zThok (t : Nat × Nat × String × String × Nat × Nat × Nat × Nat × Nat × Nat) : Bool :=
  let i := t.1
  let pc := t.2.1
  let E := t.2.2.1
  let u := t.2.2.2.2
  decide (i < zLaw) && zin u.2.2.2.1 (.classLink (zon (zoc i)) u.1 E) && zin u.2.2.2.2.1 (.initialized E) && decide ((zon (zoc i), u.2.1, t.2.2.2.1, u.2.2.2.2.2) ∈ zSt) && Bundle.fit E && znames.all Bundle.fit &&
  decide (zfd (zil i) pc = some (.new u.1)) && decide (zfd (zil i) (pc + 3) = some .dup) && decide (zfd (zil i) (pc + 4) = some (.ldc u.2.1)) && decide (zfd (zil i) (pc + 6) = some (.invokespecial u.2.2.1)) && decide (zfd (zil i) (pc + 9) = some .athrow)
set_option maxRecDepth 100000 in
theorem zTh_chk : zTh.all zThok = true := by decide +kernel
/-- the words of the throws: each a good one, or one that is kept -/
def zgx (w : Cond) : Bool := decide (w ∈ zT) && (goodWord w || zxw w)
section ZTH
variable {p : Program} {l : Launch} {e : Env} {R : Room} {s : State} {m : MethodId} {args : Array Value} {below : List Frame} {meth : Method} {c : Code} {H : Heap} {locs : List Loc} {cells slots : Nat} {Q : State → Prop}
variable {pc i : Nat} {ls : Array Slot} {X : zX} {sc st : List Value} {sy : zSz} {w : zW} {D : va_G} {cI cL : ClassId}
theorem zinv_S {ins : Instr} {q : Nat × Nat × List Value × List Value} (h : zinv i ins st w = some q) (hk : zkS q.1 = true) (hk2 : zkI q.1 = false) (hk3 : zkV q.1 = false) : ∃ idx e0, ins = .invokestatic idx ∧ zfd2 (zatL zC (zoc i)) idx 0 = some e0 ∧ e0.1 = q.1 ∧ st = q.2.2.1.reverse ++ q.2.2.2 := by
  cases ins
  case invokestatic idx =>
    simp only [zinv] at h
    split at h
    · next q0 hq0 =>
      split at h
      · next as rest hpop =>
        split at h
        · next e0 he0 =>
          cases hkk : zkS e0.1 with
          | false => rw [hkk] at h; cases h
          | true =>
            rw [hkk] at h
            cases h
            obtain ⟨bs, h1, h2, h3⟩ := zpop_spec hpop
            rw [List.append_nil] at h1
            subst h1
            exact ⟨idx, e0, rfl, he0, rfl, h2⟩
        · cases h
      · cases h
    · cases h
  case invokespecial idx =>
    simp only [zinv] at h
    split at h
    · split at h
      · split at h
        · next e0 he0 =>
          cases hkk : zkI e0.1 with
          | false => rw [hkk] at h; cases h
          | true =>
            rw [hkk] at h
            cases h
            have hk2 : zkI e0.1 = false := hk2
            rw [hkk] at hk2
            cases hk2
        · cases h
      · cases h
    · cases h
  case invokevirtual idx =>
    simp only [zinv] at h
    split at h
    · split at h
      · split at h
        · split at h
          · next e0 he0 =>
            cases hkk : zkV e0.1 with
            | false => rw [hkk] at h; cases h
            | true =>
              rw [hkk] at h
              cases h
              have hk3 : zkV e0.1 = false := hk3
              rw [hkk] at hk3
              cases hk3
          · cases h
        · cases h
      · cases h
    · cases h
  all_goals cases h
theorem zinv_I {ins : Instr} {q : Nat × Nat × List Value × List Value} (h : zinv i ins st w = some q) (hk : q.1 = 6) : ∃ (idx : Nat) (e0 : zCe) (k0 : Nat) (as : List Value), ins = .invokespecial idx ∧ zfd2 (zatL zC (zoc i)) idx 0 = some e0 ∧ e0.1 = 6 ∧ st = as.reverse ++ .ref (k0 + 1) :: q.2.2.2 ∧ as.length = e0.2.2.1 := by
  cases ins
  case invokestatic idx =>
    simp only [zinv] at h
    split at h
    · split at h
      · split at h
        · next e0 he0 =>
          cases hkk : zkS e0.1 with
          | false => rw [hkk] at h; cases h
          | true =>
            rw [hkk] at h
            cases h
            rw [show e0.1 = 6 from hk] at hkk
            cases hkk
        · cases h
      · cases h
    · cases h
  case invokespecial idx =>
    simp only [zinv] at h
    split at h
    · next q0 hq0 =>
      split at h
      · next as k0 rest hpop =>
        split at h
        · next e0 he0 =>
          cases hkk : zkI e0.1 with
          | false => rw [hkk] at h; cases h
          | true =>
            rw [hkk] at h
            cases h
            obtain ⟨bs, h1, h2, h3⟩ := zpop_spec hpop
            rw [List.append_nil] at h1
            subst h1
            have hck := zC_ok he0
            unfold zCok at hck
            simp only [hq0] at hck
            rw [Bool.and_eq_true, Bool.and_eq_true, Bool.and_eq_true] at hck
            exact ⟨idx, e0, k0, as, rfl, he0, hk, h2, h3.trans (Nat.eq_of_beq_eq_true hck.1.1.1)⟩
        · cases h
      · cases h
    · cases h
  case invokevirtual idx =>
    simp only [zinv] at h
    split at h
    · split at h
      · split at h
        · split at h
          · next e0 he0 =>
            cases hkk : zkV e0.1 with
            | false => rw [hkk] at h; cases h
            | true =>
              rw [hkk] at h
              cases h
              rw [show e0.1 = 6 from hk] at hkk
              cases hkk
          · cases h
        · cases h
      · cases h
    · cases h
  all_goals cases h
/-- Object.<init> -/
theorem zobj {ins : Instr} {q : Nat × Nat × List Value × List Value} (C0 : zCtx p l s m args meth c D cI cL X sc i) (hins : zfd (zil i) pc = some ins) (h : zinv i ins st w = some q) (hk : q.1 = 6) (hls : ls.size = c.maxLocals) (hsum : zsum q.2.2.2 ≤ 8) (hRf : 1 ≤ R.frames) (hRl : 40 ≤ R.locals)
    (kk : W p l e R s m args below meth c H locs cells slots Q (F0 m (pc + 3) ls (q.2.2.2.map (zc X)))) : W p l e R s m args below meth c H locs cells slots Q (F0 m pc ls (st.map (zc X))) := by
  obtain ⟨hx, hb, hml, hown, hts, hlk, -, -, -, hI, hil, -⟩ := C0
  obtain ⟨idx, e0, k0, as, rfl, he0, hk0, hst, hlen⟩ := zinv_I h hk
  have hd : decode c.code pc = .ok (.invokespecial idx, 3) := by rw [hb]; exact (zi_ok hins hil).plain rfl
  have hck := zC_ok he0
  unfold zCok at hck
  rw [Bool.and_eq_true, Bool.and_eq_true, Bool.and_eq_true] at hck
  obtain ⟨⟨⟨-, k2⟩, -⟩, k4⟩ := hck
  obtain ⟨kd, j, n, x, ow, i0, i1, i2, i3, i4, i5, dj⟩ := e0
  have hk0 : kd = 6 := hk0
  subst hk0
  simp only [Bool.and_eq_true, decide_eq_true_eq] at k4
  obtain ⟨⟨g1, g2⟩, g3⟩ := k4
  have hn : n = 0 := by
    have h1 : (parseMethodDescriptor x.desc).map (fun d => d.parameters.length) = some n := of_decide_eq_true k2
    rw [g1] at h1
    have h2 : (parseMethodDescriptor Lib.objectInit.desc).map (fun d => d.parameters.length) = some 0 := by decide +kernel
    exact Option.some.inj (h1.symm.trans h2)
  have has : as = [] := List.eq_nil_of_length_eq_zero (hlen.trans hn)
  subst has
  rw [hst]
  show W p l e R s m args below meth c H locs cells slots Q (F0 m pc ls (.ref (X.2.1 + k0) :: q.2.2.2.map (zc X)))
  refine W.objInit hx rfl hown (hts _ (zin_mem g2)) (hts _ (zin_mem g3)) (hts _ zObj_ok) rfl hls rfl hd hRf ?_ (W.eq (g2 := F0 m (pc + 3) ls (q.2.2.2.map (zc X))) rfl kk)
  show 2 * 0 + ((q.2.2.2.map (zc X)).map fun v => v.category).sum + 12 ≤ R.locals
  rw [zsum_cat]
  omega
theorem zmx_max {ins : Instr} {q : Nat × Nat × List Value × List Value} {v : Value} (C0 : zCtx p l s m args meth c D cI cL X sc i) (hins : zfd (zil i) pc = some ins) (h : zinv i ins st w = some q) (hk : q.1 = 8) (hsy : zSyOk X sy) (hv : zmx true sy q.2.2.1 = some v) (hls : ls.size = c.maxLocals) (hsum : zsum q.2.2.2 ≤ 8) (hRf : 1 ≤ R.frames) (hRl : 40 ≤ R.locals) (hc : cells ≤ R.cells) (hs : slots ≤ R.slots)
    (kk : W p l e R s m args below meth c H locs cells slots Q (F0 m (pc + 3) ls ((v :: q.2.2.2).map (zc X)))) : W p l e R s m args below meth c H locs cells slots Q (F0 m pc ls (st.map (zc X))) := by
  obtain ⟨hx, hb, hml, hown, hts, hlk, -, -, -, hI, hil, -⟩ := C0
  obtain ⟨idx, e0, rfl, he0, hk0, hst⟩ := zinv_S h (by rw [hk]; rfl) (by rw [hk]; rfl) (by rw [hk]; rfl)
  have hd : decode c.code pc = .ok (.invokestatic idx, 3) := by rw [hb]; exact (zi_ok hins hil).plain rfl
  have hck := zC_ok he0
  unfold zCok at hck
  rw [Bool.and_eq_true, Bool.and_eq_true, Bool.and_eq_true] at hck
  obtain ⟨⟨⟨-, k2⟩, -⟩, k4⟩ := hck
  obtain ⟨kd, j, n, x, ow, i0, i1, i2, i3, i4, i5, dj⟩ := e0
  have hk0 : kd = 8 := hk0.trans hk
  subst hk0
  simp only [Bool.and_eq_true, decide_eq_true_eq] at k4
  obtain ⟨⟨⟨⟨g1, g2⟩, g3⟩, g4⟩, g5⟩ := k4
  obtain ⟨a1, a2, a, b, has, e1, e2, e3⟩ := zmx_spec hsy hv
  rw [has] at hst
  rw [hst]
  show W p l e R s m args below meth c H locs cells slots Q (F0 m pc ls (zc X a2 :: zc X a1 :: q.2.2.2.map (zc X)))
  rw [e1, e2]
  refine va_mmax hx rfl (hls.symm) hown (hts _ (zin_mem g2)) (hts _ (zin_mem g3)) (hts _ (zin_mem g4)) (hts _ (zin_mem g5)) hRf ?_ hc hs (x := a) (y := b) (rest := q.2.2.2.map (zc X)) hd ?_
  · rw [zsum_cat]; omega
  · simp only [List.map_cons] at kk
    rw [e3] at kk
    exact kk
theorem zmx_min {ins : Instr} {q : Nat × Nat × List Value × List Value} {v : Value} (C0 : zCtx p l s m args meth c D cI cL X sc i) (hins : zfd (zil i) pc = some ins) (h : zinv i ins st w = some q) (hk : q.1 = 9) (hsy : zSyOk X sy) (hv : zmx false sy q.2.2.1 = some v) (hls : ls.size = c.maxLocals) (hsum : zsum q.2.2.2 ≤ 8) (hRf : 1 ≤ R.frames) (hRl : 40 ≤ R.locals) (hc : cells ≤ R.cells) (hs : slots ≤ R.slots)
    (kk : W p l e R s m args below meth c H locs cells slots Q (F0 m (pc + 3) ls ((v :: q.2.2.2).map (zc X)))) : W p l e R s m args below meth c H locs cells slots Q (F0 m pc ls (st.map (zc X))) := by
  obtain ⟨hx, hb, hml, hown, hts, hlk, -, -, -, hI, hil, -⟩ := C0
  obtain ⟨idx, e0, rfl, he0, hk0, hst⟩ := zinv_S h (by rw [hk]; rfl) (by rw [hk]; rfl) (by rw [hk]; rfl)
  have hd : decode c.code pc = .ok (.invokestatic idx, 3) := by rw [hb]; exact (zi_ok hins hil).plain rfl
  have hck := zC_ok he0
  unfold zCok at hck
  rw [Bool.and_eq_true, Bool.and_eq_true, Bool.and_eq_true] at hck
  obtain ⟨⟨⟨-, k2⟩, -⟩, k4⟩ := hck
  obtain ⟨kd, j, n, x, ow, i0, i1, i2, i3, i4, i5, dj⟩ := e0
  have hk0 : kd = 9 := hk0.trans hk
  subst hk0
  simp only [Bool.and_eq_true, decide_eq_true_eq] at k4
  obtain ⟨⟨⟨⟨g1, g2⟩, g3⟩, g4⟩, g5⟩ := k4
  obtain ⟨a1, a2, a, b, has, e1, e2, e3⟩ := zmx_spec hsy hv
  rw [has] at hst
  rw [hst]
  show W p l e R s m args below meth c H locs cells slots Q (F0 m pc ls (zc X a2 :: zc X a1 :: q.2.2.2.map (zc X)))
  rw [e1, e2]
  refine va_mmin hx rfl (hls.symm) hown (hts _ (zin_mem g2)) (hts _ (zin_mem g3)) (hts _ (zin_mem g4)) (hts _ (zin_mem g5)) hRf ?_ hc hs (x := a) (y := b) (rest := q.2.2.2.map (zc X)) hd ?_
  · rw [zsum_cat]; omega
  · simp only [List.map_cons] at kk
    rw [e3] at kk
    exact kk
theorem zcpy_at {X : zX} {la lb : List Value} {sp dp n : Nat} (h1 : sp + n ≤ la.length) (j : Nat) (hj : j < lb.length) : va_cpy (fun j => zc X (la.getD j .null)) (fun j => zc X (lb.getD j .null)) sp dp n j = zc X ((zcpy la lb sp dp n).getD j .null) := by
  unfold va_cpy zcpy
  cases hn : Nat.beq n 0 with
  | true =>
    have := Nat.eq_of_beq_eq_true hn
    subst this
    rw [if_neg (by omega)]
    rfl
  | false =>
    simp only [cond_false]
    rw [List.getD_eq_getElem?_getD (l := List.map _ _), List.getElem?_map, List.getElem?_range hj]
    by_cases g : dp ≤ j ∧ j < dp + n
    · rw [if_pos g]
      have e : (decide (dp ≤ j) && decide (j < dp + n)) = true := by simpa using g
      simp only [Option.map_some, Option.getD_some, e, cond_true]
    · rw [if_neg g]
      have e : (decide (dp ≤ j) && decide (j < dp + n)) = false := by
        rw [Bool.eq_false_iff]
        intro q9
        rw [Bool.and_eq_true, decide_eq_true_eq, decide_eq_true_eq] at q9
        exact g q9
      simp only [Option.map_some, Option.getD_some, e, cond_false]
theorem zcpy_len (la lb : List Value) (sp dp n : Nat) : (zcpy la lb sp dp n).length = lb.length := by
  unfold zcpy
  cases Nat.beq n 0 <;> simp
theorem zarr_congr {cA : ClassId} {n : Nat} {f g : Nat → Value} (h : ∀ j, j < n → f j = g j) : arrV cA n f = arrV cA n g := by
  unfold arrV
  congr 1
  exact Array.ext (by simp) fun j h1 h2 => by
    have hj : j < n := by simpa using h1
    simp [h j hj]
/-- System.arraycopy -/
theorem zcp_sound {ins : Instr} {q : Nat × Nat × List Value × List Value} {w' : zW} (C0 : zCtx p l s m args meth c D cI cL X sc i) (hins : zfd (zil i) pc = some ins) (h : zinv i ins st w = some q) (hk : q.1 = 7) (hv : zcp q.2.2.1 w = some w') (hls : ls.size = c.maxLocals) (hsum : zsum q.2.2.2 ≤ 8) (hRf : 1 ≤ R.frames) (hRl : 40 ≤ R.locals)
    (hH : zH D cI cL X w H) (hS : va_S (zA X) s.heap H locs)
    (kk : ∀ (H1 : Heap) (locs1 : List Loc), zH D cI cL X w' H1 → va_S (zA X) s.heap H1 locs1 → W p l e R s m args below meth c H1 locs1 cells slots Q (F0 m (pc + 3) ls (q.2.2.2.map (zc X)))) : W p l e R s m args below meth c H locs cells slots Q (F0 m pc ls (st.map (zc X))) := by
  obtain ⟨hx, hb, hml, hown, hts, hlk, -, -, -, hI, hil, -⟩ := C0
  have hK := hI.1
  obtain ⟨idx, e0, rfl, he0, hk0, hst⟩ := zinv_S h (by rw [hk]; rfl) (by rw [hk]; rfl) (by rw [hk]; rfl)
  have hd : decode c.code pc = .ok (.invokestatic idx, 3) := by rw [hb]; exact (zi_ok hins hil).plain rfl
  have hck := zC_ok he0
  unfold zCok at hck
  rw [Bool.and_eq_true, Bool.and_eq_true, Bool.and_eq_true] at hck
  obtain ⟨⟨⟨-, k2⟩, -⟩, k4⟩ := hck
  obtain ⟨kd, j, n, x, ow, i0, i1, i2, i3, i4, i5, dj⟩ := e0
  have hk0 : kd = 7 := hk0.trans hk
  subst hk0
  simp only [Bool.and_eq_true, decide_eq_true_eq] at k4
  obtain ⟨⟨⟨⟨g1, g2⟩, g3⟩, g4⟩, g5⟩ := k4
  unfold zcp at hv
  split at hv
  · next a sp b dp nn has =>
    rw [zat_eq] at hv
    split at hv
    · next la hla =>
      rw [zat_eq] at hv
      split at hv
      · next lb hlb =>
        cases hcond : ((decide (sp < 0) || decide (dp < 0) || decide (nn < 0) || !decide (sp.toNatClampNeg + nn.toNatClampNeg ≤ la.length) || !decide (dp.toNatClampNeg + nn.toNatClampNeg ≤ lb.length)) || !(la.all zisI)) with
        | true => rw [hcond] at hv; cases hv
        | false =>
          rw [hcond] at hv
          obtain ⟨hz1, hz2⟩ := zset_spec (show zset w.2 b (.inl (zcpy la lb sp.toNatClampNeg dp.toNatClampNeg nn.toNatClampNeg)) (fun w' => some (w.1, w')) = some w' from hv)
          cases hz2
          simp only [Bool.or_eq_false_iff, decide_eq_false_iff_not, Bool.not_eq_false', decide_eq_true_eq] at hcond
          obtain ⟨⟨⟨⟨⟨h1, h2⟩, h3⟩, h4⟩, h5⟩, hall⟩ := hcond
          rw [has] at hst
          have hst' : st.map (zc X) = .int nn :: .int dp :: .ref (X.2.1 + b) :: .int sp :: .ref (X.2.1 + a) :: q.2.2.2.map (zc X) := by rw [hst]; rfl
          rw [hst']
          have nn9 : ∀ z : Int32, ¬ z < 0 → z.toInt = (z.toNatClampNeg : Int) := by
            intro z hz
            have hz0 : (0 : Int) ≤ z.toInt := by
              have := Int32.not_lt.mp hz
              simpa using Int32.le_iff_toInt_le.mp this
            show z.toInt = ((z.toInt.toNat : Nat) : Int)
            omega
          have hc0 : H[X.2.1 + a]? = some (arrV cI la.length fun j => zc X (la.getD j .null)) := hH.2.2 a _ hla
          have hc1 : H[X.2.1 + b]? = some (arrV cI lb.length fun j => zc X (lb.getD j .null)) := hH.2.2 b _ hlb
          obtain ⟨-, y0, hy0, cm0, hyy0⟩ := (zTys_I hK).1 la.length (fun j => zc X (la.getD j .null))
          obtain ⟨-, y1, hy1, cm1, hyy1⟩ := (zTys_I hK).1 lb.length (fun j => zc X (lb.getD j .null))
          have hfit : ∀ k9 : Nat, k9 < la.length → ∃ x9, zc X (la.getD k9 .null) = .int x9 := by
            intro k9 hk9
            refine zisI_c (List.all_eq_true.mp hall _ ?_)
            rw [List.getD_eq_getElem?_getD, List.getElem?_eq_getElem hk9]
            exact List.getElem_mem hk9
          intro T hT X9
          obtain ⟨vm', X', step⟩ := X9.arraycopy hx hown (hts _ (zin_mem g2)) (hts _ (zin_mem g3)) (hts _ (zin_mem g4)) (hts _ (zin_mem g5)) (src := X.2.1 + a) (dst := X.2.1 + b) (cs := arrV cI la.length fun j => zc X (la.getD j .null)) (cd := arrV cI lb.length fun j => zc X (lb.getD j .null)) (srcPos := sp) (destPos := dp) (n := nn) (by rw [hT]; exact hc0) (by rw [hT]; exact hc1)
            (fun _ h => by cases h) (fun _ h => by cases h) (fun h => by cases h) (fun h => by cases h) hy0 hy1 hyy0 hyy1 (by simp [show refKind .int = false from rfl]) h1 h2 h3
            (by rw [nn9 sp h1, nn9 nn h3, arrV_size]; omega)
            (by rw [nn9 dp h2, nn9 nn h3, arrV_size]; omega)
            (fun vm₁ _ k9 hk9 => by
              have hk9' : k9 < nn.toNatClampNeg := hk9
              have e9 : (arrV cI la.length fun j => zc X (la.getD j .null)).slots.getD (sp.toNatClampNeg + k9) .null = zc X (la.getD (sp.toNatClampNeg + k9) .null) := by
                rw [Array.getD_eq_getD_getElem?, arrV_read _ _ (by omega)]
                rfl
              obtain ⟨x9, hx9⟩ := hfit (sp.toNatClampNeg + k9) (by omega)
              refine ⟨?_, ?_⟩
              · rw [e9, hx9]
                rfl
              · rw [e9, hx9]
                exact trivial)
            (g := F0 m pc ls (.int nn :: .int dp :: .ref (X.2.1 + b) :: .int sp :: .ref (X.2.1 + a) :: q.2.2.2.map (zc X))) rfl hls (rest := q.2.2.2.map (zc X)) rfl hd hRf (by
              show 2 * 0 + ((q.2.2.2.map (zc X)).map fun v => v.category).sum + 18 ≤ _
              rw [zsum_cat]
              omega)
          have e1 : copied (arrV cI la.length fun j => zc X (la.getD j .null)) (arrV cI lb.length fun j => zc X (lb.getD j .null)) sp dp nn = arrV cI lb.length (fun j => va_cpy (fun j => zc X (la.getD j .null)) (fun j => zc X (lb.getD j .null)) sp.toNatClampNeg dp.toNatClampNeg nn.toNatClampNeg j) := va_copied (fun z => z) cI cI _ _ h4
          rw [e1, zarr_congr (fun j hj => zcpy_at (X := X) (dp := dp.toNatClampNeg) h4 j hj)] at X' step
          have hl9 : X.2.1 + b < H.size := (Array.getElem?_eq_some_iff.mp hc1).1
          have oq : ∀ (ce : Cell) (q9 : Nat), q9 ≠ X.2.1 + b → (H.setIfInBounds (X.2.1 + b) ce)[q9]? = H[q9]? := fun ce q9 hq9 => by simp [Array.getElem?_setIfInBounds, Ne.symm hq9]
          have hat : zAt D cI cL X b (.inl (zcpy la lb sp.toNatClampNeg dp.toNatClampNeg nn.toNatClampNeg)) (H.setIfInBounds (X.2.1 + b) (arrV cI lb.length fun j => zc X ((zcpy la lb sp.toNatClampNeg dp.toNatClampNeg nn.toNatClampNeg).getD j .null))) := by
            show (H.setIfInBounds (X.2.1 + b) _)[X.2.1 + b]? = _
            rw [zcpy_len]
            simp [Array.getElem?_setIfInBounds, hl9]
          obtain ⟨t, a1, b1⟩ := kk _ _ (hH.put (by simp) (oq _) hat) ⟨by simp; exact hS.1, fun q9 g1 g2 => by
              rw [oq _ q9 (fun e => g2 (by rw [e]; exact Nat.le_add_right _ _))]
              exact hS.2.1 q9 g1 g2, fun q9 hq9 => by
              rcases List.mem_append.mp hq9 with h | h
              · exact hS.2.2 q9 h
              · obtain ⟨z, -, hz⟩ := List.mem_map.mp h
                rw [← hz]
                exact Nat.le_add_right _ _⟩ _ (by rw [← hT]; rfl) X'
          exact ⟨t, step t a1, b1⟩
      · cases hv
    · cases hv
  · cases hv
end ZTH
