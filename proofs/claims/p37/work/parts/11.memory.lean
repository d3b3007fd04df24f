/-! ===== soundness of fields, arrays, new things ===== -/
abbrev zA (X : zX) : Nat → Prop := fun q => X.2.1 ≤ q
def zTys (cI cL : ClassId) : List (ClassId × FieldType) := (cI, .int) :: (bif Nat.beq zAL 0 then [] else [(cL, .long)])
def zAt (D : va_G) (cI cL : ClassId) (X : zX) (k : Nat) (e : zE) (H : Heap) : Prop := match e with
  | .inl l => H[X.2.1 + k]? = some (arrV cI l.length fun j => zc X (l.getD j .null))
  | .inr (.inl l) => H[X.2.1 + k]? = some (arrV cL l.length fun j => zc X (l.getD j .null))
  | .inr (.inr o) => va_at D zcl (X.2.1 + k, .inr (o.1, o.2.map (zc X))) H
def zH (D : va_G) (cI cL : ClassId) (X : zX) (w : zW) (H : Heap) : Prop := (w.1 = false → H.size = X.2.1 + w.2.length) ∧ X.2.1 + w.2.length ≤ H.size ∧ ∀ (k : Nat) (e : zE), w.2[k]? = some e → zAt D cI cL X k e H
theorem zAt.kept {D : va_G} {cI cL : ClassId} {X : zX} {k : Nat} {e : zE} {H H1 : Heap} (h : zAt D cI cL X k e H) (hq : H1[X.2.1 + k]? = H[X.2.1 + k]?) : zAt D cI cL X k e H1 := by
  match e, h with
  | .inl l, h => exact hq.trans h
  | .inr (.inl l), h => exact hq.trans h
  | .inr (.inr o), h => exact va_at.kept (D := D) (cl := zcl) (q := (X.2.1 + k, Sum.inr (o.1, o.2.map (zc X)))) h hq
theorem zH.put {D : va_G} {cI cL : ClassId} {X : zX} {w : zW} {H H1 : Heap} {k : Nat} {e : zE} (h : zH D cI cL X w H) (hz : H1.size = H.size) (oq : ∀ q : Nat, q ≠ X.2.1 + k → H1[q]? = H[q]?) (he : zAt D cI cL X k e H1) : zH D cI cL X (w.1, w.2.set k e) H1 := by
  refine ⟨fun z => ?_, ?_, fun j e2 hj => ?_⟩
  · show H1.size = X.2.1 + (w.2.set k e).length
    rw [hz, List.length_set]
    exact h.1 z
  · show X.2.1 + (w.2.set k e).length ≤ H1.size
    rw [hz, List.length_set]
    exact h.2.1
  · have hj : (w.2.set k e)[j]? = some e2 := hj
    rw [List.getElem?_set] at hj
    by_cases hkj : k = j
    · subst hkj
      rw [if_pos rfl] at hj
      split at hj
      · cases hj
        exact he
      · cases hj
    · rw [if_neg hkj] at hj
      exact (h.2.2 j e2 hj).kept (oq _ (by omega))
theorem zH.push {D : va_G} {cI cL : ClassId} {X : zX} {w : zW} {H H1 : Heap} {e : zE} (h : zH D cI cL X w H) (hw : w.1 = false) (hz : H1.size = H.size + 1) (oq : ∀ q : Nat, q < H.size → H1[q]? = H[q]?) (he : zAt D cI cL X w.2.length e H1) : zH D cI cL X (w.1, w.2 ++ [e]) H1 := by
  have h0 := h.1 hw
  refine ⟨fun z => ?_, ?_, fun j e2 hj => ?_⟩
  · show H1.size = X.2.1 + (w.2 ++ [e]).length
    rw [hz, List.length_append, h0]
    rfl
  · show X.2.1 + (w.2 ++ [e]).length ≤ H1.size
    rw [hz, List.length_append, h0]
    exact Nat.le_refl _
  · have hj : (w.2 ++ [e])[j]? = some e2 := hj
    by_cases hl : j < w.2.length
    · rw [List.getElem?_append_left hl] at hj
      exact (h.2.2 j e2 hj).kept (oq _ (by omega))
    · rw [List.getElem?_append_right (by omega)] at hj
      have hz1 : j - w.2.length < 1 := (List.getElem?_eq_some_iff.mp hj).1
      have hjl : j = w.2.length := by omega
      subst hjl
      rw [Nat.sub_self] at hj
      cases hj
      exact he
theorem zP1 {D : va_G} {q : Nat × va_E} {H : Heap} (h : va_at D zcl q H) : va_P D zcl [q] H := by
  intro k x hk
  have hz : k < 1 := (List.getElem?_eq_some_iff.mp hk).1
  rw [show k = 0 by omega] at hk
  cases hk
  exact h
theorem zarr_set {X : zX} {cA : ClassId} {l : List Value} {j : Nat} {v : Value} (hj : j < l.length) : (arrV cA l.length fun j => zc X (l.getD j .null)).setSlot j (zc X v) = arrV cA (l.set j v).length fun j' => zc X ((l.set j v).getD j' .null) := by
  rw [arrV_store, List.length_set]
  congr 1
  funext q
  unfold updV
  rw [List.getD_eq_getElem?_getD, List.getElem?_set]
  by_cases hq : q = j
  · subst hq
    rw [if_pos rfl, if_pos rfl, if_pos hj]
    rfl
  · rw [if_neg hq, if_neg (Ne.symm hq)]
    show zc X (l.getD q .null) = _
    rw [List.getD_eq_getElem?_getD]
theorem zix_spec {l : List Value} {x : Int32} {v : Value} (h : zix l x = some v) : ¬ x < 0 ∧ l[x.toNatClampNeg]? = some v ∧ x.toNatClampNeg < l.length := by
  unfold zix at h
  by_cases hx : x < 0
  · simp [hx] at h
  · simp only [hx, decide_false, cond_false] at h
    rw [zat_eq] at h
    exact ⟨hx, h, (List.getElem?_eq_some_iff.mp h).1⟩
theorem ztv_c {X : zX} {ty : FieldType} {v : Value} (h : ztv ty v = true) : narrow ty (zc X v) = zc X v ∧ fits ty (zc X v) = true := by
  cases ty with
  | int =>
    obtain ⟨x, hx⟩ := zisI_c (X := X) (show zisI v = true from h)
    rw [hx]
    exact ⟨rfl, rfl⟩
  | boolean =>
    cases v with
    | int x =>
      have h1 : (decide (x = 0) || decide (x = 1)) = true := h
      simp only [Bool.or_eq_true, decide_eq_true_eq] at h1
      rcases h1 with rfl | rfl <;> exact ⟨rfl, rfl⟩
    | _ => simp [ztv] at h
  | object _ =>
    rcases zisA_c (X := X) (show zisA v = true from h) with ⟨x, hx⟩ | hx <;> rw [hx] <;> exact ⟨rfl, rfl⟩
  | array _ =>
    rcases zisA_c (X := X) (show zisA v = true from h) with ⟨x, hx⟩ | hx <;> rw [hx] <;> exact ⟨rfl, rfl⟩
  | long =>
    obtain ⟨x, -, hx⟩ := zisL_c (X := X) (show zisL v = true from h)
    rw [hx]
    exact ⟨rfl, rfl⟩
  | _ => simp [ztv] at h
/-- the script as the small machine has it -/
def zScOk (X : zX) (sc : List Value) (U : State) : Prop := ∃ xs : Nat → Int32, va_X X.1 sc.length xs U U.heap ∧ ∀ (j : Nat) (v : Value), sc[j]? = some v → zc X v = .int (xs j)
section ZMEM
variable {p : Program} {l : Launch} {e : Env} {R : Room} {s : State} {m : MethodId} {args : Array Value} {below : List Frame} {meth : Method} {c : Code} {H : Heap} {locs : List Loc} {cells slots : Nat} {Q : State → Prop}
variable {cc : ByteArray} {pc i : Nat} {ls : Array Slot} {X : zX} {sc st : List Value} {w : zW} {q : Nat × List Value × zW × Nat × Nat} {D : va_G} {cI cL : ClassId}
theorem zmem_get {idx : Nat} (hx : p.tables.exec = Jvm.exec) (hb : c.code = cc) (hd : decode cc pc = .ok (.getfield idx, 3)) (hts : ∀ w ∈ zG, w.before args s = true) (hown : s.vm.findClass (zon (zoc i)) = some m.cls) (hK : va_K D zcl (zTys cI cL) s)
    {k cn : Nat} {fs : List Value} {v : Value} {en : Nat × Bool × Bool × String × Nat × Nat} {r : List Value} (hH : zH D cI cL X w H) (hk : w.2[k]? = some (.inr (.inr (cn, fs)))) (hq : zfd2 (zatL zF (zoc i)) idx cn = some en) (hv : fs[en.1]? = some v)
    (kk : W p l e R s m args below meth c H locs cells slots Q (F0 m (pc + 3) ls (zc X v :: r.map (zc X)))) : W p l e R s m args below meth c H locs cells slots Q (F0 m pc ls ((Value.ref (k + 1) :: r).map (zc X))) := by
  obtain ⟨q, h1, h2, h3, h4, h5, -⟩ := zF_ok hq
  have hat : va_at D zcl (X.2.1 + k, .inr (cn, fs.map (zc X))) H := hH.2.2 k _ hk
  refine va_get (D := D) (cl := zcl) (tys := zTys cI cL) (ws := [(X.2.1 + k, .inr (cn, fs.map (zc X)))]) (T := q.2.1) (N := q.2.2) (C := q.1) (ref := en.2.2.2.1) hx hb hts (zcl_in h1) hown hK (zP1 hat) 0 rfl h1 en.1 h2 (hts _ h3) (fun x hx9 => ?_) (v := zc X v) ?_ hd kk
  · rcases h4 with h4 | h4
    · rw [← h4]; exact hx9
    · exact u_same (hts _ h4) x hx9
  · rw [List.getElem?_map, hv]
    rfl
set_option maxHeartbeats 1000000 in
theorem zmem_put {idx : Nat} (hx : p.tables.exec = Jvm.exec) (hb : c.code = cc) (hd : decode cc pc = .ok (.putfield idx, 3)) (hts : ∀ w ∈ zG, w.before args s = true) (hown : s.vm.findClass (zon (zoc i)) = some m.cls) (hK : va_K D zcl (zTys cI cL) s) (hin : zini i = true → meth.name = "<init>")
    {k cn : Nat} {fs : List Value} {v : Value} {en : Nat × Bool × Bool × String × Nat × Nat} {r : List Value} (hH : zH D cI cL X w H) (hS : va_S (zA X) s.heap H locs) (hk : w.2[k]? = some (.inr (.inr (cn, fs)))) (hq : zfd2 (zatL zF (zoc i)) idx cn = some en)
    (hf : en.2.1 = false ∨ (en.2.2.1 = true ∧ zini i = true)) (hv : ztv (zty cn en.1) v = true) (hl : en.1 < fs.length)
    (kk : ∀ (H1 : Heap) (locs1 : List Loc), zH D cI cL X (w.1, w.2.set k (.inr (.inr (cn, fs.set en.1 v)))) H1 → va_S (zA X) s.heap H1 locs1 → W p l e R s m args below meth c H1 locs1 cells slots Q (F0 m (pc + 3) ls (r.map (zc X)))) : W p l e R s m args below meth c H locs cells slots Q (F0 m pc ls ((v :: Value.ref (k + 1) :: r).map (zc X))) := by
  obtain ⟨q, hc, hj, h3, h4, h5, h6⟩ := zF_ok hq
  have hat : va_at D zcl (X.2.1 + k, .inr (cn, fs.map (zc X))) H := hH.2.2 k _ hk
  have hty := zcl_ty hc
  obtain ⟨hn, hfit⟩ := ztv_c (X := X) hv
  have hap := va_apart (own := zon (zoc i)) hts (zcl_in hc) (zty cn) hty (zcl_nm hc) hK hc
  obtain ⟨r0, g1, cell, q1, q2, q3, q4⟩ := hat
  have hr : r0 = q := Option.some.inj (g1.symm.trans hc)
  subst hr
  obtain ⟨hSl, hfc, kC, hkC, hkind⟩ := hK.1 cn _ hc
  obtain ⟨cf, kf, fi, f, hi, hsl⟩ := hSl en.1 hj
  have hsame : s.fieldFound? en.2.2.2.1 (r0.2.1 en.1).2.1 (r0.2.1 en.1).2.2.1 = some (cf, kf, fi, f) := by
    rcases h4 with h4 | h4
    · rw [← h4]; exact hi
    · exact u_same (hts _ h4) _ hi
  have hlay := hts _ (zcl_in hc _ (u_in_lay hj))
  have hst := (u_facts hfc hkC (u_lays hts (zcl_in hc) hj) hi).1
  have hl' : en.1 < (fs.map (zc X)).length := by rw [List.length_map]; exact hl
  have fin : ∀ H' : Heap, H'[X.2.1 + k]? = some (cell.setSlot f.slot (zc X v)) → H'.size = H.size → (∀ q : Nat, q ≠ X.2.1 + k → H'[q]? = H[q]?) → W p l e R s m args below meth c H' (locs ++ [⟨X.2.1 + k, f.slot⟩]) cells slots Q (F0 m (pc + 3) ls (r.map (zc X))) := by
    intro H' e1 e2 e3
    rw [hsl] at e1
    refine kk H' _ (hH.put e2 e3 ?_) (hS.put e2 e3 (Nat.le_add_right _ _))
    show va_at D zcl (X.2.1 + k, .inr (cn, (fs.set en.1 v).map (zc X))) H'
    refine ⟨r0, hc, ?_⟩
    rw [List.map_set]
    exact t_OB.to (V := updV (vp_V (fs.map (zc X))) en.1 (zc X v)) ⟨_, e1, q2, q3, t_set q4 hap hj (zc X v)⟩ (fun j _ => vp_updV_set hl' (zc X v) j)
  by_cases hfin : (r0.2.1 en.1).2.2.2 = true
  · have hz : en.2.2.1 = true ∧ zini i = true := hf.resolve_left (fun z => by rw [h5, z] at hfin; cases hfin)
    unfold u_lay at hlay
    rw [if_pos hfin] at hlay
    have hcf : m.cls = cf := by
      obtain ⟨_, _, c', _, _, _, -, -, hf', -, -, -, hown2, -⟩ := Cond.laysFinal_spec hlay
      have e1 : c' = cf := by have := hi.symm.trans hf'; simp at this; exact this.1.symm
      rw [h6 hz.1] at hown2
      rw [← e1]; exact Option.some.inj (hown.symm.trans hown2)
    have hs6 := u_fits hfc hkC hkind (Or.inr hlay) hi (hty _ hj) hn hfit
    exact W.putFinK hx hb hown (hts _ h3) hsame hst hcf (hin hz.2) (by rw [q2]; exact hs6) q1 q3 (by rw [hsl]; exact k2_hasslot (q4 en.1 hj)) rfl rfl hd fin
  · unfold u_lay at hlay
    rw [if_neg hfin] at hlay
    have hs6 := u_store hfc hkC hkind hlay hi (hty _ hj) hn hfit
    exact W.putK hx hb (f := f) ⟨hown, hts _ h3, ⟨_, _, _, hsame⟩, hst⟩ (by rw [q2]; exact hs6) q1 q3 (by rw [hsl]; exact k2_hasslot (q4 en.1 hj)) rfl rfl hd fin
theorem zmem_arrL {cA : ClassId} {ty : FieldType} (hA : ArrOfT s cA ty) {n : Nat} {f : Nat → Value} : s.isArrayOf (arrV cA n f) ty := hA n f
theorem zTys_I (hK : va_K D zcl (zTys cI cL) s) : ArrOfT s cI .int ∧ va_RA s cI .int := hK.2 0 _ rfl
theorem zTys_L (hK : va_K D zcl (zTys cI cL) s) (h : Nat.beq zAL 0 = false) : ArrOfT s cL .long ∧ va_RA s cL .long := hK.2 1 (cL, .long) (by unfold zTys; rw [h]; rfl)
set_option maxHeartbeats 4000000 in
theorem zmem_sound {ins : Instr} (hx : p.tables.exec = Jvm.exec) (hb : c.code = cc) (hd : zDc cc pc ins) (hts : ∀ w ∈ zG, w.before args s = true) (hown : s.vm.findClass (zon (zoc i)) = some m.cls) (hK : va_K D zcl (zTys cI cL) s) (hin : zini i = true → meth.name = "<init>")
    (hsc : zScOk X sc s) (hbX : X.1 < X.2.1) (hbs : X.2.1 ≤ s.heap.size)
    (h : zmem sc i ins pc st w = some q) (hH : zH D cI cL X w H) (hS : va_S (zA X) s.heap H locs) (hRc : cells + q.2.2.2.1 ≤ R.cells) (hRs : slots + q.2.2.2.2 ≤ R.slots)
    (k : ∀ (H1 : Heap) (locs1 : List Loc), zH D cI cL X q.2.2.1 H1 → va_S (zA X) s.heap H1 locs1 → W p l e R s m args below meth c H1 locs1 (cells + q.2.2.2.1) (slots + q.2.2.2.2) Q (F0 m q.1 ls (q.2.1.map (zc X)))) : W p l e R s m args below meth c H locs cells slots Q (F0 m pc ls (st.map (zc X))) := by
  have hbl : X.1 < s.heap.size := Nat.lt_of_lt_of_le hbX hbs
  have hbA : ¬ zA X X.1 := Nat.not_le.mpr hbX
  cases ins
  case getfield idx =>
    have hd := hd.plain rfl
    simp only [zmem] at h
    split at h
    · next k0 r =>
      rw [zat_eq] at h
      split at h
      · next c0 fs hk =>
        split at h
        · next en hq =>
          rw [zat_eq] at h
          split at h
          · next v hv =>
            cases h
            exact zmem_get (X := X) hx hb hd hts hown hK hH hk hq hv (k H locs hH hS)
          · cases h
        · cases h
      · cases h
    · cases h
  case putfield idx =>
    have hd := hd.plain rfl
    simp only [zmem] at h
    split at h
    · next v k0 r =>
      rw [zat_eq] at h
      split at h
      · next c0 fs hk =>
        split at h
        · next en hq =>
          cases hg : ((!en.2.1 || (en.2.2.1 && zini i)) && ztv (zty c0 en.1) v) with
          | false => rw [hg] at h; cases h
          | true =>
            rw [hg] at h
            obtain ⟨h1, h2⟩ := zset_spec (show zset fs en.1 v (fun fs' => zset w.2 k0 (.inr (.inr (c0, fs'))) fun w' => some (pc + 3, r, (w.1, w'), 0, 0)) = some q from h)
            obtain ⟨h3, h4⟩ := zset_spec h2
            cases h4
            simp only [Bool.and_eq_true, Bool.or_eq_true, Bool.not_eq_true'] at hg
            exact zmem_put (X := X) hx hb hd hts hown hK hin hH hS hk hq hg.1 hg.2 h1 (fun H1 locs1 a b => k H1 locs1 a b)
        · cases h
      · cases h
    · cases h
  case iaload =>
    have hd := hd.plain rfl
    simp only [zmem] at h
    split at h
    · next x a r =>
      split at h
      · split at h
        · next v hv =>
          cases hi : zisI v with
          | false => rw [hi] at h; cases h
          | true =>
            rw [hi] at h
            cases h
            obtain ⟨h1, h2, h3⟩ := zix_spec hv
            obtain ⟨xs, hX, hxs⟩ := hsc
            have e1 := hxs _ _ h2
            refine va_sld hx hb hX hbl hbA hS (i := x) (fun z => ?_) hd ?_
            · rcases z with z | z
              · exact h1 z
              · omega
            · rw [← e1]
              exact k H locs hH hS
        · cases h
      · next k0 =>
        rw [zat_eq] at h
        split at h
        · next l0 hk =>
          split at h
          · next v hv =>
            cases h
            obtain ⟨h1, h2, h3⟩ := zix_spec hv
            have hat : H[X.2.1 + k0]? = some (arrV cI l0.length fun j => zc X (l0.getD j .null)) := hH.2.2 k0 _ hk
            refine W.iald (v := zc X v) hx hb hat ((zTys_I hK).1 _ _) (fun q => by cases q) (fun z => ?_) ?_ rfl rfl hd (k H locs hH hS)
            · rw [arrV_size] at z
              rcases z with z | z
              · exact h1 z
              · omega
            · rw [arrV_read _ _ h3, List.getD_eq_getElem?_getD, h2]
              rfl
          · cases h
        · cases h
    · cases h
  case iastore =>
    have hd := hd.plain rfl
    simp only [zmem] at h
    split at h
    · next v x k0 r =>
      rw [zat_eq] at h
      split at h
      · next l0 hk =>
        cases hg : (zisI v && !decide (x < 0)) with
        | false => rw [hg] at h; cases h
        | true =>
          rw [hg] at h
          obtain ⟨h1, h2⟩ := zset_spec (show zset l0 x.toNatClampNeg v (fun l' => zset w.2 k0 (.inl l') fun w' => some (pc + 1, r, (w.1, w'), 0, 0)) = some q from h)
          obtain ⟨h3, h4⟩ := zset_spec h2
          cases h4
          simp only [Bool.and_eq_true, Bool.not_eq_true', decide_eq_false_iff_not] at hg
          obtain ⟨y, hy⟩ := zisI_c (X := X) hg.1
          have hat : H[X.2.1 + k0]? = some (arrV cI l0.length fun j => zc X (l0.getD j .null)) := hH.2.2 k0 _ hk
          show W p l e R s m args below meth c H locs cells slots Q (F0 m pc ls (zc X v :: .int x :: .ref (X.2.1 + k0) :: r.map (zc X)))
          rw [hy]
          refine W.iast hx hb hat ((zTys_I hK).1 _ _) (fun q => by cases q) (fun z => ?_) rfl rfl hd fun H1 e1 z1 oq => ?_
          · rw [arrV_size] at z
            rcases z with z | z
            · exact hg.2 z
            · omega
          · rw [← hy, zarr_set h1] at e1
            exact k H1 _ (hH.put z1 oq e1) (hS.put z1 oq (Nat.le_add_right _ _))
      · cases h
    · cases h
  case laload =>
    have hd := hd.plain rfl
    simp only [zmem] at h
    split at h
    · next x k0 r =>
      rw [zat_eq] at h
      split at h
      · next l0 hk =>
        cases hz : Nat.beq zAL 0 with
        | true => rw [hz] at h; cases h
        | false =>
          rw [hz] at h
          simp only [cond_false] at h
          split at h
          · next v hv =>
            cases h
            obtain ⟨h1, h2, h3⟩ := zix_spec hv
            have hat : H[X.2.1 + k0]? = some (arrV cL l0.length fun j => zc X (l0.getD j .null)) := hH.2.2 k0 _ hk
            refine W.lald (v := zc X v) hx hb hat ((zTys_L hK hz).1 _ _) (fun q => by cases q) (fun z => ?_) ?_ rfl rfl hd (k H locs hH hS)
            · rw [arrV_size] at z
              rcases z with z | z
              · exact h1 z
              · omega
            · rw [arrV_read _ _ h3, List.getD_eq_getElem?_getD, h2]
              rfl
          · cases h
      · cases h
    · cases h
  case lastore =>
    have hd := hd.plain rfl
    simp only [zmem] at h
    split at h
    · next v x k0 r =>
      rw [zat_eq] at h
      split at h
      · next l0 hk =>
        cases hg : (!Nat.beq zAL 0 && zisL v && !decide (x < 0)) with
        | false => rw [hg] at h; cases h
        | true =>
            rw [hg] at h
            obtain ⟨h1, h2⟩ := zset_spec (show zset l0 x.toNatClampNeg v (fun l' => zset w.2 k0 (.inr (.inl l')) fun w' => some (pc + 1, r, (w.1, w'), 0, 0)) = some q from h)
            obtain ⟨h3, h4⟩ := zset_spec h2
            cases h4
            simp only [Bool.and_eq_true, Bool.not_eq_true', decide_eq_false_iff_not] at hg
            obtain ⟨⟨hz, hgl⟩, hg2⟩ := hg
            obtain ⟨y, -, hy⟩ := zisL_c (X := X) hgl
            have hat : H[X.2.1 + k0]? = some (arrV cL l0.length fun j => zc X (l0.getD j .null)) := hH.2.2 k0 _ hk
            show W p l e R s m args below meth c H locs cells slots Q (F0 m pc ls (zc X v :: .int x :: .ref (X.2.1 + k0) :: r.map (zc X)))
            rw [hy]
            refine W.last hx hb hat ((zTys_L hK hz).1 _ _) (fun q => by cases q) (fun z => ?_) rfl rfl hd fun H1 e1 z1 oq => ?_
            · rw [arrV_size] at z
              rcases z with z | z
              · exact hg2 z
              · omega
            · rw [← hy, zarr_set h1] at e1
              exact k H1 _ (hH.put z1 oq e1) (hS.put z1 oq (Nat.le_add_right _ _))
      · cases h
    · cases h
  case arraylength =>
    have hd := hd.plain rfl
    simp only [zmem] at h
    split at h
    · next a r =>
      split at h
      · rw [zfi_eq] at h
        cases h
        obtain ⟨xs, hX, -⟩ := hsc
        exact va_slen hx hb hX hbl hbA hS hd (k H locs hH hS)
      · next k0 =>
        rw [zat_eq] at h
        split at h
        · next l0 hk =>
          rw [zfi_eq] at h
          cases h
          have hat : H[X.2.1 + k0]? = some (arrV cI l0.length fun j => zc X (l0.getD j .null)) := hH.2.2 k0 _ hk
          exact W.alen (n := Int32.ofNat l0.length) hx hb hat ((zTys_I hK).1 _ _) (by rw [arrV_size] <;> rfl) rfl rfl hd (k H locs hH hS)
        · next l0 hk =>
          cases hz : Nat.beq zAL 0 with
          | true => rw [hz] at h; cases h
          | false =>
            rw [hz] at h
            simp only [cond_false] at h
            rw [zfi_eq] at h
            cases h
            have hat : H[X.2.1 + k0]? = some (arrV cL l0.length fun j => zc X (l0.getD j .null)) := hH.2.2 k0 _ hk
            exact W.alen (n := Int32.ofNat l0.length) hx hb hat ((zTys_L hK hz).1 _ _) (by rw [arrV_size] <;> rfl) rfl rfl hd (k H locs hH hS)
        · cases h
    · cases h
  case new idx =>
    have hd := hd.plain rfl
    simp only [zmem] at h
    split at h
    · next en hq =>
      cases hw : w.1 with
      | true => rw [hw] at h; cases h
      | false =>
        rw [hw] at h
        simp only [cond_false] at h
        rw [zfrc_eq, zapp_eq] at h
        cases h
        obtain ⟨q, h1, h2, h3, h4⟩ := zNw_ok hq
        have hcn : zcn en.1 = q.2.2 := by unfold zcn; rw [zat_eq, h1]
        have hKn := hK.1 en.1 _ h1
        have h0 := hH.1 hw
        refine W.newcK hx hb hown (hts _ h2) (hts _ h3) (hts _ h4) rfl hd (Nat.le_trans (Nat.le_refl _) hRc) (by rw [← hcn]; exact hRs) hKn.2.1 rfl fun H1 kC hkC e1 z1 o1 => ?_
        have hat : zAt D cI cL X w.2.length (.inr (.inr (en.1, zdf en.1))) H1 := by
          refine ⟨q, h1, ?_⟩
          show t_OB (X.2.1 + w.2.length) _ _ _ H1 _
          rw [← h0]
          refine (u_born (zty en.1) hts (zcl_in h1) hKn hkC e1 (zcl_ty h1)).to fun j hj => ?_
          have hj2 : j < zcn en.1 := by rw [hcn]; exact hj
          show _ = ((zdf en.1).map (zc X)).getD j .null
          rw [List.getD_eq_getElem?_getD]
          unfold zdf
          rw [List.getElem?_map, List.getElem?_map, List.getElem?_range hj2]
          exact (zc_def (zcl_nf h1 j hj)).symm
        have := k H1 locs (by have := hH.push hw z1 o1 hat; rw [hw] at this; exact this) ⟨Nat.le_trans hS.1 (by omega), fun x g1 g2 => (o1 x (Nat.lt_of_lt_of_le g1 hS.1)).trans (hS.2.1 x g1 g2), hS.2.2⟩
        rw [h0]
        rw [hcn] at this
        exact this
    · cases h
  case newarray ty =>
    have hd := hd.plain rfl
    simp only [zmem] at h
    split at h
    · next x r =>
      cases hg : (w.1 || decide (x < 0) || decide (60000 < x)) with
      | true => rw [hg] at h; cases h
      | false =>
        rw [hg] at h
        simp only [cond_false] at h
        simp only [Bool.or_eq_false_iff, decide_eq_false_iff_not] at hg
        obtain ⟨⟨hw, hx0⟩, hx6⟩ := hg
        have h0 := hH.1 hw
        have hle : x.toNatClampNeg ≤ 60000 := by
          have h1 : x.toInt ≤ 60000 := by
            have := Int32.not_lt.mp hx6
            exact Int32.le_iff_toInt_le.mp this
          show x.toInt.toNat ≤ 60000
          omega
        split at h
        · rw [zfrc_eq, zrep_eq, zfrc_eq, zapp_eq] at h
          cases h
          refine va_newaK (atype := .int) hx hb (hts _ zAI_ok) rfl hd rfl hx0 rfl (by show x.toNatClampNeg * 4 ≤ 536870912; omega) hRc hRs h0 fun H1 cA e1 z1 o1 hAr hNm => ?_
          have hcA : cA = cI := Option.some.inj (hNm.symm.trans (zTys_I hK).2)
          subst hcA
          have hat : zAt D cA cL X w.2.length (.inl (List.replicate x.toNatClampNeg (.int 0))) H1 := by
            show H1[X.2.1 + w.2.length]? = some (arrV cA (List.replicate x.toNatClampNeg (Value.int 0)).length fun j => zc X ((List.replicate x.toNatClampNeg (Value.int 0)).getD j .null))
            rw [e1, List.length_replicate]
            refine congrArg some ?_
            unfold arrV
            congr 1
            refine Array.ext (by simp) fun j g1 g2 => ?_
            have g3 : j < x.toNatClampNeg := by simpa using g1
            simp [List.getD_eq_getElem?_getD, g3, defaultValue, newarray.typeOf, zc]
          have hz : H1.size = H.size + 1 := by rw [z1, h0]
          have := k H1 locs (hH.push hw hz (fun q9 g9 => o1 q9 (by omega)) hat) ⟨Nat.le_trans hS.1 (by omega), fun x g1 g2 => (o1 x (by have := hS.1; omega)).trans (hS.2.1 x g1 g2), hS.2.2⟩
          exact this
        · cases hz : Nat.beq zAL 0 with
          | true => rw [hz] at h; cases h
          | false =>
            rw [hz] at h
            simp only [cond_false] at h
            rw [zfrc_eq, zrep_eq, zfrc_eq, zapp_eq] at h
            cases h
            refine va_newaK (atype := .long) hx hb (hts _ (zAL_ok hz)) rfl hd rfl hx0 rfl (by show x.toNatClampNeg * 8 ≤ 536870912; omega) hRc hRs h0 fun H1 cA e1 z1 o1 hAr hNm => ?_
            have hcA : cA = cL := Option.some.inj (hNm.symm.trans (zTys_L hK hz).2)
            subst hcA
            have hat : zAt D cI cA X w.2.length (.inr (.inl (List.replicate x.toNatClampNeg (.long 0)))) H1 := by
              show H1[X.2.1 + w.2.length]? = some (arrV cA (List.replicate x.toNatClampNeg (Value.long 0)).length fun j => zc X ((List.replicate x.toNatClampNeg (Value.long 0)).getD j .null))
              rw [e1, List.length_replicate]
              refine congrArg some ?_
              unfold arrV
              congr 1
              refine Array.ext (by simp) fun j g1 g2 => ?_
              have g3 : j < x.toNatClampNeg := by simpa using g1
              simp [List.getD_eq_getElem?_getD, g3, defaultValue, newarray.typeOf, zc]
            have hz : H1.size = H.size + 1 := by rw [z1, h0]
            have := k H1 locs (hH.push hw hz (fun q9 g9 => o1 q9 (by omega)) hat) ⟨Nat.le_trans hS.1 (by omega), fun x g1 g2 => (o1 x (by have := hS.1; omega)).trans (hS.2.1 x g1 g2), hS.2.2⟩
            exact this
        · cases h
    · cases h
  case ldc2_w idx =>
    have hd := hd.plain rfl
    simp only [zmem] at h
    split at h
    · next en hq =>
      rw [zfl_eq] at h
      cases h
      exact lv_ldc2 hx hb hown (hts _ (zLg_ok hq)) hd (k H locs hH hS)
    · cases h
  case ldc idx =>
    have hd := hd.plain rfl
    simp only [zmem] at h
    split at h
    · next en hq =>
      rw [zfi_eq] at h
      cases h
      exact lv_ldc hx hb hown (hts _ (zIn_ok hq)) hd (k H locs hH hS)
    · cases h
  all_goals cases h
end ZMEM
