/-! ===== soundness of what moves on the stack alone ===== -/
section ZPS
variable {p : Program} {l : Launch} {e : Env} {R : Room} {s : State} {m : MethodId} {args : Array Value} {below : List Frame} {meth : Method} {c : Code} {H : Heap} {locs : List Loc} {cells slots : Nat} {Q : State → Prop}
variable {cc : ByteArray} {pc nL : Nat} {ls : Array Slot} {X : zX} {sy : zSz} {lv st : List Value} {q : Nat × List Value × List Value}
theorem zps_ld {i j : Nat} {pr : Value → Bool} (h : zld pr lv st i j = some q) (hpr : ∀ v, pr v = true → v ≠ zmk) (hl : zL X ls nL lv)
    (kk : ∀ v, lv[i]? = some v → pr v = true → ls[i]? = some (.val (zc X v)) → W p l e R s m args below meth c H locs cells slots Q (F0 m j ls (zc X v :: st.map (zc X))) → W p l e R s m args below meth c H locs cells slots Q (F0 m pc ls (st.map (zc X))))
    (k : ∀ ls', zL X ls' nL q.2.1 → W p l e R s m args below meth c H locs cells slots Q (F0 m q.1 ls' (q.2.2.map (zc X)))) : W p l e R s m args below meth c H locs cells slots Q (F0 m pc ls (st.map (zc X))) := by
  obtain ⟨v, h1, h2, rfl⟩ := zld_spec h
  exact kk v h1 h2 (hl.2.2.2 _ _ h1 (hpr _ h2)) (k ls hl)
theorem zps_ldI {i j : Nat} (h : zld zisI lv st i j = some q) (hl : zL X ls nL lv)
    (kk : ∀ x : Int32, ls[i]? = some (.val (.int x)) → W p l e R s m args below meth c H locs cells slots Q (F0 m j ls (.int x :: st.map (zc X))) → W p l e R s m args below meth c H locs cells slots Q (F0 m pc ls (st.map (zc X))))
    (k : ∀ ls', zL X ls' nL q.2.1 → W p l e R s m args below meth c H locs cells slots Q (F0 m q.1 ls' (q.2.2.map (zc X)))) : W p l e R s m args below meth c H locs cells slots Q (F0 m pc ls (st.map (zc X))) := by
  refine zps_ld h (fun v hv => (zisI_m hv).1) hl (fun v h1 h2 h3 h4 => ?_) k
  obtain ⟨x, hx⟩ := zisI_c (X := X) h2
  rw [hx] at h3 h4
  exact kk x h3 h4
theorem zps_ldA {i j : Nat} (h : zld zisA lv st i j = some q) (hl : zL X ls nL lv)
    (kk : ∀ x : Nat, ls[i]? = some (.val (.ref x)) → W p l e R s m args below meth c H locs cells slots Q (F0 m j ls (.ref x :: st.map (zc X))) → W p l e R s m args below meth c H locs cells slots Q (F0 m pc ls (st.map (zc X))))
    (kn : ls[i]? = some (.val (.null)) → W p l e R s m args below meth c H locs cells slots Q (F0 m j ls (.null :: st.map (zc X))) → W p l e R s m args below meth c H locs cells slots Q (F0 m pc ls (st.map (zc X))))
    (k : ∀ ls', zL X ls' nL q.2.1 → W p l e R s m args below meth c H locs cells slots Q (F0 m q.1 ls' (q.2.2.map (zc X)))) : W p l e R s m args below meth c H locs cells slots Q (F0 m pc ls (st.map (zc X))) := by
  refine zps_ld h (fun v hv => (zisA_m hv).1) hl (fun v h1 h2 h3 h4 => ?_) k
  rcases zisA_c (X := X) h2 with ⟨x, hx⟩ | hx
  · rw [hx] at h3 h4
    exact kk x h3 h4
  · rw [hx] at h3 h4
    exact kn h3 h4
theorem zps_ldL {i j : Nat} (h : zld zisL lv st i j = some q) (hl : zL X ls nL lv)
    (kk : ∀ x : Int64, ls[i]? = some (.val (.long x)) → W p l e R s m args below meth c H locs cells slots Q (F0 m j ls (.long x :: st.map (zc X))) → W p l e R s m args below meth c H locs cells slots Q (F0 m pc ls (st.map (zc X))))
    (k : ∀ ls', zL X ls' nL q.2.1 → W p l e R s m args below meth c H locs cells slots Q (F0 m q.1 ls' (q.2.2.map (zc X)))) : W p l e R s m args below meth c H locs cells slots Q (F0 m pc ls (st.map (zc X))) := by
  refine zps_ld h (fun v hv => (zisL_m hv).1) hl (fun v h1 h2 h3 h4 => ?_) k
  obtain ⟨x, -, hx⟩ := zisL_c (X := X) h2
  rw [hx] at h3 h4
  exact kk x h3 h4
theorem zps_ldD {i j : Nat} (h : zld zisD lv st i j = some q) (hl : zL X ls nL lv)
    (kk : ∀ x : UInt64, ls[i]? = some (.val (.double x)) → W p l e R s m args below meth c H locs cells slots Q (F0 m j ls (.double x :: st.map (zc X))) → W p l e R s m args below meth c H locs cells slots Q (F0 m pc ls (st.map (zc X))))
    (k : ∀ ls', zL X ls' nL q.2.1 → W p l e R s m args below meth c H locs cells slots Q (F0 m q.1 ls' (q.2.2.map (zc X)))) : W p l e R s m args below meth c H locs cells slots Q (F0 m pc ls (st.map (zc X))) := by
  refine zps_ld h (fun v hv => (zisD_m hv).1) hl (fun v h1 h2 h3 h4 => ?_) k
  obtain ⟨x, -, hx⟩ := zisD_c (X := X) h2
  rw [hx] at h3 h4
  exact kk x h3 h4
/-- a store of one slot -/
theorem zps_so {i j : Nat} {pr : Value → Bool} (h : zso pr lv st i j = some q) (hl : zL X ls nL lv)
    (kk : ∀ (v : Value) (r : List Value), pr v = true → i < nL → (∀ ls', lv_has ls' nL ((i, zc X v) :: (zPl X lv).filter (fun q => !(q.1 == i) && !(q.1 + 1 == i && q.2.category == 2))) → W p l e R s m args below meth c H locs cells slots Q (F0 m j ls' (r.map (zc X)))) → W p l e R s m args below meth c H locs cells slots Q (F0 m pc ls (zc X v :: r.map (zc X))))
    (k : ∀ ls', zL X ls' nL q.2.1 → W p l e R s m args below meth c H locs cells slots Q (F0 m q.1 ls' (q.2.2.map (zc X)))) : W p l e R s m args below meth c H locs cells slots Q (F0 m pc ls (st.map (zc X))) := by
  obtain ⟨v, r, rfl, h1, h2, h3, rfl⟩ := zso_spec h
  exact kk v r h1 (by rw [← hl.1]; exact h3) fun ls' h' => k ls' (hl.st1 h2 (Or.inr rfl) h')
theorem zps_so2 {i j : Nat} {pr : Value → Bool} (h : zso2 pr lv st i j = some q) (hl : zL X ls nL lv)
    (kk : ∀ (v : Value) (r : List Value), pr v = true → i + 1 < nL → (∀ ls', lv_has ls' nL ((i, zc X v) :: (zPl X lv).filter (fun q => !(q.1 == i) && (!(q.1 == i + 1) && !(q.1 + 1 == i && q.2.category == 2)))) → W p l e R s m args below meth c H locs cells slots Q (F0 m j ls' (r.map (zc X)))) → W p l e R s m args below meth c H locs cells slots Q (F0 m pc ls (zc X v :: r.map (zc X))))
    (k : ∀ ls', zL X ls' nL q.2.1 → W p l e R s m args below meth c H locs cells slots Q (F0 m q.1 ls' (q.2.2.map (zc X)))) : W p l e R s m args below meth c H locs cells slots Q (F0 m pc ls (st.map (zc X))) := by
  obtain ⟨v, r, rfl, h1, h2, h3, rfl⟩ := zso2_spec h
  exact kk v r h1 (by rw [← hl.1]; exact h3) fun ls' h' => k ls' (hl.st2 h2 h')
set_option maxHeartbeats 4000000 in
theorem zps_sound {ins : Instr} (hs : zSyOk X sy) (hx : p.tables.exec = Jvm.exec) (hb : c.code = cc) (hd : zDc cc pc ins) (h : zps sy ins pc lv st = some q) (hl : zL X ls nL lv)
    (k : ∀ ls', zL X ls' nL q.2.1 → W p l e R s m args below meth c H locs cells slots Q (F0 m q.1 ls' (q.2.2.map (zc X)))) : W p l e R s m args below meth c H locs cells slots Q (F0 m pc ls (st.map (zc X))) := by
  cases ins
  case iconst n =>
    have hd := hd.plain rfl
    simp only [zps] at h
    rw [zfi_eq] at h; cases h
    exact lv_iconst hx hb hd rfl (k ls hl)
  case bipush n =>
    have hd := hd.plain rfl
    simp only [zps] at h
    rw [zfi_eq] at h; cases h
    exact lv_bipush hx hb hd rfl (k ls hl)
  case sipush n =>
    have hd := hd.plain rfl
    simp only [zps] at h
    rw [zfi_eq] at h; cases h
    exact lv_sipush hx hb hd rfl (k ls hl)
  case lconst n =>
    have hd := hd.plain rfl
    simp only [zps] at h
    rw [zfl_eq] at h; cases h
    exact lv_lconst hx hb hd rfl (k ls hl)
  case iload i =>
    have hd := hd.plain rfl
    exact zps_ldI h hl (fun x h1 k1 => lv_iload hx hb hd h1 k1) k
  case iload_n i =>
    have hd := hd.plain rfl
    exact zps_ldI h hl (fun x h1 k1 => lv_iload_n hx hb hd rfl h1 k1) k
  case lload i =>
    have hd := hd.plain rfl
    exact zps_ldL h hl (fun x h1 k1 => lv_lload hx hb hd h1 k1) k
  case lload_n i =>
    have hd := hd.plain rfl
    exact zps_ldL h hl (fun x h1 k1 => lv_lload_n hx hb hd rfl h1 k1) k
  case dload i =>
    have hd := hd.plain rfl
    exact zps_ldD h hl (fun x h1 k1 => lv_dload hx hb hd h1 k1) k
  case aload i =>
    have hd := hd.plain rfl
    exact zps_ldA h hl (fun x h1 k1 => lv_aload hx hb hd h1 k1) (fun h1 k1 => lv_aloadN hx hb hd h1 k1) k
  case aload_n i =>
    have hd := hd.plain rfl
    exact zps_ldA h hl (fun x h1 k1 => lv_aload_n hx hb hd rfl h1 k1) (fun h1 k1 => lv_aload_nN hx hb hd rfl h1 k1) k
  case istore i =>
    have hd := hd.plain rfl
    refine zps_so h hl (fun v r h1 h2 k1 => ?_) k
    obtain ⟨x, hv⟩ := zisI_c (X := X) h1
    rw [hv] at k1 ⊢
    exact lv_istore hx hb hd hl.has h2 rfl k1
  case istore_n i =>
    have hd := hd.plain rfl
    refine zps_so h hl (fun v r h1 h2 k1 => ?_) k
    obtain ⟨x, hv⟩ := zisI_c (X := X) h1
    rw [hv] at k1 ⊢
    exact lv_istore_n hx hb hd rfl hl.has h2 rfl k1
  case astore i =>
    have hd := hd.plain rfl
    refine zps_so h hl (fun v r h1 h2 k1 => ?_) k
    rcases zisA_c (X := X) h1 with ⟨x, hv⟩ | hv
    · rw [hv] at k1 ⊢
      exact lv_astore hx hb hd hl.has h2 rfl k1
    · rw [hv] at k1 ⊢
      exact lv_astoreN hx hb hd hl.has h2 rfl k1
  case astore_n i =>
    have hd := hd.plain rfl
    refine zps_so h hl (fun v r h1 h2 k1 => ?_) k
    rcases zisA_c (X := X) h1 with ⟨x, hv⟩ | hv
    · rw [hv] at k1 ⊢
      exact lv_astore_n hx hb hd rfl hl.has h2 rfl k1
    · rw [hv] at k1 ⊢
      exact lv_astore_nN hx hb hd rfl hl.has h2 rfl k1
  case lstore i =>
    have hd := hd.plain rfl
    refine zps_so2 h hl (fun v r h1 h2 k1 => ?_) k
    obtain ⟨x, -, hv⟩ := zisL_c (X := X) h1
    rw [hv] at k1 ⊢
    exact lv_lstore hx hb hd hl.has h2 rfl k1
  case lstore_n i =>
    have hd := hd.plain rfl
    refine zps_so2 h hl (fun v r h1 h2 k1 => ?_) k
    obtain ⟨x, -, hv⟩ := zisL_c (X := X) h1
    rw [hv] at k1 ⊢
    exact lv_lstore_n hx hb hd rfl hl.has h2 rfl k1
  case dstore i =>
    have hd := hd.plain rfl
    refine zps_so2 h hl (fun v r h1 h2 k1 => ?_) k
    obtain ⟨x, -, hv⟩ := zisD_c (X := X) h1
    rw [hv] at k1 ⊢
    exact lv_dstore hx hb hd hl.has h2 rfl k1
  case iinc i n =>
    have hd := hd.plain rfl
    simp only [zps] at h
    rw [zat_eq] at h
    split at h
    · next x hxv =>
      rw [zfi_eq] at h
      obtain ⟨h1, h2, h3⟩ := zst1_spec h
      cases h3
      have h4 := zPl_in (X := X) hxv (by simp [zmk])
      obtain ⟨k9, hk9⟩ := List.getElem?_of_mem h4
      have k1 : ∀ ls' : Array Slot, lv_has ls' nL ((i, zc X (.int (x + Int32.ofInt n))) :: (zPl X lv).filter (fun q => !(q.1 == i) && !(q.1 + 1 == i && q.2.category == 2))) → W p l e R s m args below meth c H locs cells slots Q (F0 m (pc + zlen (.iinc i n)) ls' (st.map (zc X))) := fun ls' h' => k ls' (hl.st1 h1 (Or.inr rfl) h')
      by_cases hz : (-128 : Int) ≤ n ∧ n ≤ 127
      · have e : zlen (.iinc i n) = 3 := by simp [zlen, hz.1, hz.2]
        rw [e] at hd k1
        exact lv_iinc hx hb hd hl.has hk9 rfl (by rw [← hl.1]; exact h2) rfl k1
      · have e : zlen (.iinc i n) = 6 := by
          have : (decide ((-128 : Int) ≤ n) && decide (n ≤ 127)) = false := by
            rw [Bool.eq_false_iff]
            intro q9
            rw [Bool.and_eq_true, decide_eq_true_eq, decide_eq_true_eq] at q9
            exact hz q9
          simp only [zlen, this, cond_false]
        rw [e] at hd k1
        exact lv_iincW hx hb hd hl.has hk9 rfl (by rw [← hl.1]; exact h2) rfl k1
    · cases h
  case iadd =>
    have hd := hd.plain rfl
    simp only [zps] at h
    obtain ⟨a, b, v, r, x, y, z, rfl, h1, h2, h3, h4, rfl⟩ := zbin_spec hs h
    show W p l e R s m args below meth c H locs cells slots Q (F0 m pc ls (zc X b :: zc X a :: r.map (zc X)))
    have kk := k ls hl
    simp only [List.map_cons] at kk
    rw [h3] at kk
    rw [h1, h2]
    cases h4
    exact lv_iadd hx hb hd kk
  case isub =>
    have hd := hd.plain rfl
    simp only [zps] at h
    obtain ⟨a, b, v, r, x, y, z, rfl, h1, h2, h3, h4, rfl⟩ := zbin_spec hs h
    show W p l e R s m args below meth c H locs cells slots Q (F0 m pc ls (zc X b :: zc X a :: r.map (zc X)))
    have kk := k ls hl
    simp only [List.map_cons] at kk
    rw [h3] at kk
    rw [h1, h2]
    cases h4
    exact lv_isub hx hb hd kk
  case imul =>
    have hd := hd.plain rfl
    simp only [zps] at h
    obtain ⟨a, b, v, r, x, y, z, rfl, h1, h2, h3, h4, rfl⟩ := zbin_spec hs h
    show W p l e R s m args below meth c H locs cells slots Q (F0 m pc ls (zc X b :: zc X a :: r.map (zc X)))
    have kk := k ls hl
    simp only [List.map_cons] at kk
    rw [h3] at kk
    rw [h1, h2]
    cases h4
    exact lv_imul hx hb hd kk
  case idiv =>
    have hd := hd.plain rfl
    simp only [zps] at h
    obtain ⟨a, b, v, r, x, y, z, rfl, h1, h2, h3, h4, rfl⟩ := zbin_spec hs h
    show W p l e R s m args below meth c H locs cells slots Q (F0 m pc ls (zc X b :: zc X a :: r.map (zc X)))
    have kk := k ls hl
    simp only [List.map_cons] at kk
    rw [h3] at kk
    rw [h1, h2]
    by_cases hy : y = 0
    · simp [zopf, hy] at h4
    · simp only [zopf, hy, decide_false, cond_false, Option.some.injEq] at h4
      subst h4
      exact lv_idiv hx hb hd hy kk
  case irem =>
    have hd := hd.plain rfl
    simp only [zps] at h
    obtain ⟨a, b, v, r, x, y, z, rfl, h1, h2, h3, h4, rfl⟩ := zbin_spec hs h
    show W p l e R s m args below meth c H locs cells slots Q (F0 m pc ls (zc X b :: zc X a :: r.map (zc X)))
    have kk := k ls hl
    simp only [List.map_cons] at kk
    rw [h3] at kk
    rw [h1, h2]
    by_cases hy : y = 0
    · simp [zopf, hy] at h4
    · simp only [zopf, hy, decide_false, cond_false, Option.some.injEq] at h4
      subst h4
      exact lv_irem hx hb hd hy kk
  case ishl =>
    have hd := hd.plain rfl
    simp only [zps] at h
    obtain ⟨a, b, v, r, x, y, z, rfl, h1, h2, h3, h4, rfl⟩ := zbin_spec hs h
    show W p l e R s m args below meth c H locs cells slots Q (F0 m pc ls (zc X b :: zc X a :: r.map (zc X)))
    have kk := k ls hl
    simp only [List.map_cons] at kk
    rw [h3] at kk
    rw [h1, h2]
    cases h4
    exact lv_ishl hx hb hd kk
  case ishr =>
    have hd := hd.plain rfl
    simp only [zps] at h
    obtain ⟨a, b, v, r, x, y, z, rfl, h1, h2, h3, h4, rfl⟩ := zbin_spec hs h
    show W p l e R s m args below meth c H locs cells slots Q (F0 m pc ls (zc X b :: zc X a :: r.map (zc X)))
    have kk := k ls hl
    simp only [List.map_cons] at kk
    rw [h3] at kk
    rw [h1, h2]
    cases h4
    exact lv_ishr hx hb hd kk
  case iand =>
    have hd := hd.plain rfl
    simp only [zps] at h
    obtain ⟨a, b, v, r, x, y, z, rfl, h1, h2, h3, h4, rfl⟩ := zand_spec hs h
    show W p l e R s m args below meth c H locs cells slots Q (F0 m pc ls (zc X b :: zc X a :: r.map (zc X)))
    have kk := k ls hl
    simp only [List.map_cons] at kk
    rw [h3] at kk
    rw [h1, h2]
    cases h4
    exact lv_iand hx hb hd kk
  case ineg =>
    have hd := hd.plain rfl
    simp only [zps] at h
    split at h
    · next x r =>
      rw [zfi_eq] at h; cases h
      exact lv_ineg hx hb hd (k ls hl)
    · cases h
  case ladd =>
    have hd := hd.plain rfl
    simp only [zps] at h
    obtain ⟨x, y, r, rfl, rfl⟩ := zbil_spec h
    exact lv_ladd hx hb hd (k ls hl)
  case lsub =>
    have hd := hd.plain rfl
    simp only [zps] at h
    obtain ⟨x, y, r, rfl, rfl⟩ := zbil_spec h
    exact lv_lsub hx hb hd (k ls hl)
  case lmul =>
    have hd := hd.plain rfl
    simp only [zps] at h
    obtain ⟨x, y, r, rfl, rfl⟩ := zbil_spec h
    exact lv_lmul hx hb hd (k ls hl)
  case i2l =>
    have hd := hd.plain rfl
    simp only [zps] at h
    split at h
    · next x r =>
      rw [zfl_eq] at h; cases h
      exact lv_i2l hx hb hd rfl (k ls hl)
    · cases h
  case lcmp =>
    have hd := hd.plain rfl
    simp only [zps] at h
    split at h
    · next y x r =>
      cases h
      have e : lg_cmp x y = (bif decide (y < x) then (1 : Int32) else bif decide (x = y) then 0 else -1) := by
        unfold lg_cmp
        by_cases g1 : y < x
        · simp [g1]
        · by_cases g2 : x = y
          · simp [g2]
          · simp [g1, g2]
      refine W.lcmp hx hb hd ?_
      rw [e]
      exact k ls hl
    · cases h
  case i2d =>
    have hd := hd.plain rfl
    simp only [zps] at h
    split at h
    · next x r =>
      cases h
      exact lv_i2d hx hb hd (k ls hl)
    · cases h
  case ddiv =>
    have hd := hd.plain rfl
    simp only [zps] at h
    split at h
    · next y x r =>
      cases hn : znan (FP.ddiv x y) with
      | false => simp [hn] at h
      | true =>
        simp only [hn, cond_true, Option.some.injEq] at h
        subst h
        exact lv_ddiv hx hb hd (by unfold vf_n64; unfold znan at hn; exact of_decide_eq_true hn) (k ls hl)
    · cases h
  case dcmp op =>
    have hd := hd.plain rfl
    simp only [zps] at h
    split at h
    · next y x r =>
      rw [zfi_eq] at h; cases h
      exact lv_dcmp hx hb hd (k ls hl)
    · cases h
  case dconst n =>
    have hd := hd.plain rfl
    match n, h, hd with
    | 0, h, hd => cases h; exact lv_dconst0 hx hb hd (k ls hl)
    | 1, h, hd => cases h; exact lv_dconst1 hx hb hd (k ls hl)
  case dup =>
    have hd := hd.plain rfl
    simp only [zps] at h
    split at h
    · next v r =>
      cases hv : zcat2 v with
      | true => simp [hv] at h
      | false =>
        simp only [hv, cond_false, Option.some.injEq] at h
        subst h
        exact lv_dup hx hb hd (by rw [zc_cat]; exact zcat2_f hv) (k ls hl)
    · cases h
  case pop =>
    have hd := hd.plain rfl
    simp only [zps] at h
    split at h
    · next v r =>
      cases hv : zcat2 v with
      | true => simp [hv] at h
      | false =>
        simp only [hv, cond_false, Option.some.injEq] at h
        subst h
        exact lv_pop hx hb hd (by rw [zc_cat]; exact zcat2_f hv) (k ls hl)
    · cases h
  case dup_x1 =>
    have hd := hd.plain rfl
    simp only [zps] at h
    split at h
    · next v u r =>
      cases hv : zcat2 v with
      | true => simp [hv] at h
      | false =>
        cases hu : zcat2 u with
        | true => simp [hu] at h
        | false =>
          simp only [hv, hu, Bool.or_self, cond_false, Option.some.injEq] at h
          subst h
          exact lv_dup_x1 hx hb hd (by rw [zc_cat]; exact zcat2_f hv) (by rw [zc_cat]; exact zcat2_f hu) (k ls hl)
    · cases h
  case dup2 =>
    have hd := hd.plain rfl
    simp only [zps] at h
    split at h
    · next v u r =>
      cases hv : zcat2 v with
      | true => simp [hv] at h
      | false =>
        cases hu : zcat2 u with
        | true => simp [hu] at h
        | false =>
          simp only [hv, hu, Bool.or_self, cond_false, Option.some.injEq] at h
          subst h
          exact lv_dup2_11 hx hb hd (by rw [zc_cat]; exact zcat2_f hv) (by rw [zc_cat]; exact zcat2_f hu) (k ls hl)
    · cases h
  case goto off =>
    have hd := hd.plain rfl
    simp only [zps] at h
    split at h
    · next t ht =>
      cases h
      exact lv_goto hx hb hd (ztg_spec ht) (k ls hl)
    · cases h
  case tableswitch dflt lo hi offs =>
    obtain ⟨len, hd, -⟩ := hd
    simp only [zps] at h
    split at h
    · next x r =>
      split at h
      · next t ht =>
        cases h
        rcases zsw_spec ht with ⟨h1, h2⟩ | ⟨h1, h2, o, h3, h4⟩
        · exact lv_tableOut hx hb hd h1 h2 (k ls hl)
        · exact lv_tableIn hx hb hd h1 h2 h3 h4 (k ls hl)
      · cases h
    · cases h
  case ifCond cnd off =>
    have hd := hd.plain rfl
    simp only [zps] at h
    split at h
    · next v r =>
      cases hv : zisI v with
      | false => simp [hv] at h
      | true =>
        simp only [hv, cond_true] at h
        obtain ⟨x, hxv⟩ := zisI_c (X := X) hv
        show W p l e R s m args below meth c H locs cells slots Q (F0 m pc ls (zc X v :: r.map (zc X)))
        rw [hxv]
        have hiv := ziv_ok hs hxv hv
        have h0 : (0 : Int32).toInt = 0 := rfl
        obtain ⟨t, ht, ⟨ho, rfl⟩ | ⟨ho, rfl⟩⟩ := zbr_spec h
        · have hh := (zcmp_ok (y := 0) ho hiv ⟨Int.le_of_eq h0.symm, Int.le_of_eq h0⟩).mp rfl
          have ht := ztg_spec ht
          cases cnd with
          | eq => exact lv_if_eq hx hb hd ht (fun _ => k ls hl) (fun n => absurd hh n)
          | ne => exact lv_if_ne hx hb hd ht (fun _ => k ls hl) (fun n => absurd n hh)
          | lt => exact lv_if_lt hx hb hd ht (fun _ => k ls hl) (fun n => absurd hh n)
          | ge => exact lv_if_ge hx hb hd ht (fun _ => k ls hl) (fun n => absurd hh n)
          | gt => exact lv_if_gt hx hb hd ht (fun _ => k ls hl) (fun n => absurd hh n)
          | le => exact lv_if_le hx hb hd ht (fun _ => k ls hl) (fun n => absurd hh n)
        · have hh : ¬ zhold cnd x 0 := fun q9 => by
            have := (zcmp_ok (y := 0) ho hiv ⟨Int.le_of_eq h0.symm, Int.le_of_eq h0⟩).mpr q9
            cases this
          have hto := ztg_spec ht
          cases cnd with
          | eq => exact lv_if_eq hx hb hd hto (fun n => absurd n hh) (fun _ => k ls hl)
          | ne => exact lv_if_ne hx hb hd hto (fun n => absurd n hh) (fun _ => k ls hl)
          | lt => exact lv_if_lt hx hb hd hto (fun n => absurd n hh) (fun _ => k ls hl)
          | ge => exact lv_if_ge hx hb hd hto (fun n => absurd n hh) (fun _ => k ls hl)
          | gt => exact lv_if_gt hx hb hd hto (fun n => absurd n hh) (fun _ => k ls hl)
          | le => exact lv_if_le hx hb hd hto (fun n => absurd n hh) (fun _ => k ls hl)
    · cases h
  case if_icmp cnd off =>
    have hd := hd.plain rfl
    simp only [zps] at h
    split at h
    · next v u r =>
      cases hv : zisI v with
      | false => simp [hv] at h
      | true =>
        cases hu : zisI u with
        | false => simp [hu] at h
        | true =>
          simp only [hv, hu, Bool.and_self, cond_true] at h
          obtain ⟨y, hyv⟩ := zisI_c (X := X) hv
          obtain ⟨x, hxv⟩ := zisI_c (X := X) hu
          show W p l e R s m args below meth c H locs cells slots Q (F0 m pc ls (zc X v :: zc X u :: r.map (zc X)))
          rw [hxv, hyv]
          have hiv := ziv_ok hs hxv hu
          have hiy := ziv_ok hs hyv hv
          obtain ⟨t, ht, ⟨ho, rfl⟩ | ⟨ho, rfl⟩⟩ := zbr_spec h
          · have hh := (zcmp_ok ho hiv hiy).mp rfl
            have ht := ztg_spec ht
            cases cnd with
            | eq => exact lv_icmp_eq hx hb hd ht (fun _ => k ls hl) (fun n => absurd hh n)
            | ne => exact lv_icmp_ne hx hb hd ht (fun _ => k ls hl) (fun n => absurd n hh)
            | lt => exact lv_icmp_lt hx hb hd ht (fun _ => k ls hl) (fun n => absurd hh n)
            | ge => exact lv_icmp_ge hx hb hd ht (fun _ => k ls hl) (fun n => absurd hh n)
            | gt => exact lv_icmp_gt hx hb hd ht (fun _ => k ls hl) (fun n => absurd hh n)
            | le => exact lv_icmp_le hx hb hd ht (fun _ => k ls hl) (fun n => absurd hh n)
          · have hh : ¬ zhold cnd x y := fun q9 => by
              have := (zcmp_ok ho hiv hiy).mpr q9
              cases this
            have hto := ztg_spec ht
            cases cnd with
            | eq => exact lv_icmp_eq hx hb hd hto (fun n => absurd n hh) (fun _ => k ls hl)
            | ne => exact lv_icmp_ne hx hb hd hto (fun n => absurd n hh) (fun _ => k ls hl)
            | lt => exact lv_icmp_lt hx hb hd hto (fun n => absurd n hh) (fun _ => k ls hl)
            | ge => exact lv_icmp_ge hx hb hd hto (fun n => absurd n hh) (fun _ => k ls hl)
            | gt => exact lv_icmp_gt hx hb hd hto (fun n => absurd n hh) (fun _ => k ls hl)
            | le => exact lv_icmp_le hx hb hd hto (fun n => absurd n hh) (fun _ => k ls hl)
    · cases h
  all_goals cases h
end ZPS
