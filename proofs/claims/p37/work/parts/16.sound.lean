/-! ===== the loop is sound; so is each call ===== -/
section ZLS
variable {p : Program} {l : Launch} {e : Env} {R : Room} {s : State} {m : MethodId} {args : Array Value} {below : List Frame} {meth : Method} {c : Code} {Q : State → Prop}
variable {i : Nat} {X : zX} {sc : List Value} {sy : zSz} {D : va_G} {cI cL : ClassId}
theorem ztoList (X : zX) (ov : Option Value) (rest : List Value) : (ov.map (zc X)).toList ++ rest.map (zc X) = (ov.toList ++ rest).map (zc X) := by
  cases ov <;> rfl
theorem zhnd_spec {i pc : Nat} {E : String} {h : Nat × Nat} (hh : zhnd i pc E = some h) : ∃ t, (i, t) ∈ zHd ∧ t.1 ≤ pc ∧ pc < t.2.1 ∧ t.2.2.2.2.1 = E ∧ ((zfd (zil i) t.2.2.1 = some (.astore h.2) ∧ h.1 = t.2.2.1 + 2) ∨ (∃ k : Fin 4, zfd (zil i) t.2.2.1 = some (.astore_n k) ∧ h = (t.2.2.1 + 1, (k : Nat)))) := by
  unfold zhnd at hh
  split at hh
  · next t ht =>
    have hm := zfd_mem ht
    cases hc : (decide (t.1 ≤ pc) && decide (pc < t.2.1) && decide (t.2.2.2.2.1 = E)) with
    | false => rw [hc] at hh; cases hh
    | true =>
      rw [hc] at hh
      simp only [cond_true] at hh
      simp only [Bool.and_eq_true, decide_eq_true_eq] at hc
      split at hh
      · next k hk =>
        cases hh
        exact ⟨t, hm, hc.1.1, hc.1.2, hc.2, Or.inl ⟨hk, rfl⟩⟩
      · next k hk =>
        cases hh
        exact ⟨t, hm, hc.1.1, hc.1.2, hc.2, Or.inr ⟨k, hk, rfl⟩⟩
      · cases hh
  · cases hh
/-- an exception of a callee, caught by the first row of the method's table -/
theorem zcatch {pc : Nat} {E : String} {h : Nat × Nat} {lv lv' : List Value} {ls : Array Slot} {H : Heap} {locs : List Loc} {cells slots : Nat} {q9 : Addr} {ce : Cell} {rest : List Value} (C0 : zCtx p l s m args meth c D cI cL X sc i) (hh : zhnd i pc E = some h) (hl : zL X ls (zml i) lv) (hb9 : zbad lv h.2 = false) (hlt : h.2 < lv.length) (hlv : lv' = lv.set h.2 zmk)
    (hce : H[q9]? = some ce) (hcv : ce.vm = .none) (hcl : s.vm.findClass E = some ce.cls)
    (kk : ∀ ls', zL X ls' (zml i) lv' → W p l e R s m args below meth c H locs cells slots Q (F0 m h.1 ls' [])) : vx_W p l e R s m args below meth c H locs cells slots Q (F0 m pc ls rest) q9 := by
  obtain ⟨hx, hb, hml, hown, hts, hlk, htb, -, -, hI, hil, -⟩ := C0
  have hN := hI.2.2.1
  obtain ⟨t, hm, h1, h2, h3, h4⟩ := zhnd_spec hh
  have hck := List.all_eq_true.mp zHd_chk _ hm
  unfold zHdok at hck
  split at hck
  · next x xs hxs =>
    simp only [Bool.and_eq_true, decide_eq_true_eq, Bool.not_eq_true', decide_eq_false_iff_not] at hck
    obtain ⟨⟨⟨g1, g2⟩, g3⟩, g4⟩ := hck
    have htab : c.exceptionTable.toList = [] ++ (⟨t.1, t.2.1, t.2.2.1, t.2.2.2.1⟩ : ExceptionTableEntry) :: tableOf xs := by
      rw [htb _ hxs, g1]
      rfl
    refine vx_catch (name := t.2.2.2.2.1) (E := E) hown [] ⟨t.1, t.2.1, t.2.2.1, t.2.2.2.1⟩ (tableOf xs) htab (fun z hz => by cases hz) ?_ g2 (hts _ (zin_mem g3)) ?_ hce hcv hcl ?_
    · show (decide (t.1 ≤ pc) && decide (pc < t.2.1)) = true
      simp [h1, h2]
    · have := va_Nw.use (A := args) rfl (hN _ (zxn_mem g4))
      rw [h3] at this ⊢
      exact this
    · show W p l e R s m args below meth c H locs cells slots Q (F0 m t.2.2.1 ls [.ref q9])
      have hL := hl.1
      subst hlv
      rcases h4 with ⟨h5, h6⟩ | ⟨k, h5, rfl⟩
      · have hd := (zi_ok h5 hil).plain rfl
        refine lv_astore hx hb hd hl.has (by rw [← hL]; exact hlt) rfl fun ls' h' => ?_
        rw [← h6]
        exact kk ls' (hl.st1 hb9 (Or.inl rfl) h')
      · have hd := (zi_ok h5 hil).plain rfl
        exact lv_astore_n hx hb hd rfl hl.has (by rw [← hL]; exact hlt) rfl fun ls' h' => kk ls' (hl.st1 hb9 (Or.inl rfl) h')
  · cases hck
set_option maxHeartbeats 4000000 in
theorem zloop_sound {r : zR} {call : Nat → List Value → zW → Option zR} (C0 : zCtx p l s m args meth c D cI cL X sc i) (hsy : zSyOk X sy) (hcall : ∀ j as w r', call j as w = some r' → j < zLaw → zSpec l D cI cL X sc j as w r')
    (hRc : r.2.2.1 ≤ R.cells) (hRs : r.2.2.2 ≤ R.slots) (hRf : zFr i ≤ R.frames) (hRl : zLo i ≤ R.locals)
    (hE : ∀ ov, r.1 = .inl ov → ∀ pc ls H locs ins st, zfd (zil i) pc = some ins → zret ins (zrt i) st = some ov → zH D cI cL X r.2.1 H → va_S (zA X) s.heap H locs → W p l e R s m args below meth c H locs r.2.2.1 r.2.2.2 Q (F0 m pc ls (st.map (zc X))))
    (hT : ∀ E, r.1 = .inr E → zhas i = false → ∀ pc ls H locs q ce rest, zH D cI cL X r.2.1 H → va_S (zA X) s.heap H locs → H[q]? = some ce → ce.vm = .none → s.vm.findClass E = some ce.cls → vx_W p l e R s m args below meth c H locs r.2.2.1 r.2.2.2 Q (F0 m pc ls rest) q)
    (hD : ∀ E, r.1 = .inr E → zhas i = false → ∀ pc ls H locs w cells slots, zthr i pc = some E → ls.size = c.maxLocals → r.2.1 = (true, (w : zW).2) → r.2.2.1 = cells + 1 → r.2.2.2 = slots + 6 → zH D cI cL X w H → va_S (zA X) s.heap H locs → W p l e R s m args below meth c H locs cells slots Q (F0 m pc ls [])) :
    ∀ (n pc : Nat) (lv st : List Value) (w : zW) (c0 s0 : Nat), zloop sc sy call n i pc lv st w c0 s0 = some r → (c0 ≤ r.2.2.1 ∧ s0 ≤ r.2.2.2) ∧ ∀ (H : Heap) (ls : Array Slot) (locs : List Loc), zL X ls (zml i) lv → zH D cI cL X w H → va_S (zA X) s.heap H locs → W p l e R s m args below meth c H locs c0 s0 Q (F0 m pc ls (st.map (zc X))) := by
  obtain ⟨hx, hb, hml, hown, hts, hlk, htb, hnt, hin, hI, hil, hstk⟩ := id C0
  intro n
  induction n with
  | zero => intro pc lv st w c0 s0 h; cases h
  | succ n ih =>
    intro pc lv st w c0 s0 h
    simp only [zloop] at h
    rw [zfrc_eq] at h
    split at h
    · cases h
    · next ins hins =>
      have hdc := zi_ok hins hil
      split at h
      · next ov hov =>
        have he := (Option.some.inj h).symm
        subst he
        exact ⟨⟨Nat.le_refl _, Nat.le_refl _⟩, fun H ls locs hl hH hS => hE ov rfl pc ls H locs ins st hins hov hH hS⟩
      · split at h
        · next q hq =>
          obtain ⟨h1, h2⟩ := ih _ _ _ _ _ _ h
          exact ⟨h1, fun H ls locs hl hH hS => zps_sound hsy hx hb hdc hq hl fun ls' hl' => h2 H ls' locs hl' hH hS⟩
        · split at h
          · next q hq =>
            rw [zfrc_eq, zfrc_eq] at h
            obtain ⟨h1, h2⟩ := ih _ _ _ _ _ _ h
            refine ⟨⟨by omega, by omega⟩, fun H ls locs hl hH hS => ?_⟩
            exact zmem_sound hx hb hdc hts hown hI.1 hin hI.2.1 hI.2.2.2.2.2.2.1 hI.2.2.2.2.2.2.2 hq hH hS (Nat.le_trans h1.1 hRc) (Nat.le_trans h1.2 hRs) fun H1 locs1 hH1 hS1 => h2 H1 ls locs1 hl hH1 hS1
          · split at h
            · next q hq =>
              have hfl := zinv_fl hins hil hq
              by_cases hsum : 8 < zsum q.2.2.2
              · simp [hsum] at h
              · simp only [hsum, decide_false, cond_false] at h
                have hsum : zsum q.2.2.2 ≤ 8 := by omega
                split at h
                · next h6 =>
                  obtain ⟨h1, h2⟩ := ih _ _ _ _ _ _ h
                  exact ⟨h1, fun H ls locs hl hH hS => zobj C0 hins hq h6 (hl.2.1.trans hml.symm) hsum (Nat.le_trans (hfl.1 (by omega)).1 hRf) (Nat.le_trans (hfl.1 (by omega)).2 hRl) (h2 H ls locs hl hH hS)⟩
                · next h8 =>
                  split at h
                  · next v hv =>
                    obtain ⟨h1, h2⟩ := ih _ _ _ _ _ _ h
                    exact ⟨h1, fun H ls locs hl hH hS => zmx_max C0 hins hq h8 hsy hv (hl.2.1.trans hml.symm) hsum (Nat.le_trans (hfl.1 (by omega)).1 hRf) (Nat.le_trans (hfl.1 (by omega)).2 hRl) (Nat.le_trans h1.1 hRc) (Nat.le_trans h1.2 hRs) (h2 H ls locs hl hH hS)⟩
                  · cases h
                · next h9 =>
                  split at h
                  · next v hv =>
                    obtain ⟨h1, h2⟩ := ih _ _ _ _ _ _ h
                    exact ⟨h1, fun H ls locs hl hH hS => zmx_min C0 hins hq h9 hsy hv (hl.2.1.trans hml.symm) hsum (Nat.le_trans (hfl.1 (by omega)).1 hRf) (Nat.le_trans (hfl.1 (by omega)).2 hRl) (Nat.le_trans h1.1 hRc) (Nat.le_trans h1.2 hRs) (h2 H ls locs hl hH hS)⟩
                  · cases h
                · next h7 =>
                  split at h
                  · next w' hw' =>
                    obtain ⟨h1, h2⟩ := ih _ _ _ _ _ _ h
                    exact ⟨h1, fun H ls locs hl hH hS => zcp_sound C0 hins hq h7 hw' (hl.2.1.trans hml.symm) hsum (Nat.le_trans (hfl.1 (by omega)).1 hRf) (Nat.le_trans (hfl.1 (by omega)).2 hRl) hH hS fun H1 locs1 hH1 hS1 => h2 H1 ls locs1 hl hH1 hS1⟩
                  · cases h
                · next h6 h8 h9 h7 =>
                  have door : ∀ (H : Heap) (locs : List Loc) (ls : Array Slot), zH D cI cL X w H → va_S (zA X) s.heap H locs → ls.size = c.maxLocals → ∀ r', call q.2.1 q.2.2.1 w = some r' → c0 + r'.2.2.1 ≤ R.cells → s0 + r'.2.2.2 ≤ R.slots → vx_Run p l e R s m args below meth c H locs c0 s0 r'.2.2.1 r'.2.2.2 (F0 m pc ls (st.map (zc X))) (q.2.2.2.map (zc X)) (zQr D cI cL X r' (q.2.2.1.map (zc X)).toArray) (zXr D cI cL X r') (zA X) := by
                    intro H locs ls hH hS hls r' hr' hc9 hs9
                    obtain ⟨k1, k2, ⟨ig, k3⟩, k4⟩ := zinv_go (H := H) (locs := locs) (cells := c0) (slots := s0) (R := R) (e := e) (below := below) (ls := ls) C0 hins hq hH h6 h7 h8 h9
                    have hM := hcall _ _ _ _ hr' k1
                    have hmlj := zml_le k1
                    have hlt6 : ¬ 6 ≤ q.1 := by
                      have a5 := hfl.2.2
                      have a6 : q.1 ≠ 6 := h6
                      have a7 : q.1 ≠ 7 := h7
                      have a8 : q.1 ≠ 8 := h8
                      have a9 : q.1 ≠ 9 := h9
                      omega
                    have hfj := hfl.2.1 hlt6
                    refine zrun k4 hM (zPre_blind D cI cL X sc q.2.2.1 w) rfl rfl (by show zFr q.2.1 + 1 ≤ _; omega) (by show 8 + (zml q.2.1 + 11) + zLo q.2.1 ≤ _; omega) (pay_in hts (fun w9 hw9 => ?_)) List.mem_cons_self k2 (fun U hU hW => ⟨rfl, by rw [hU]; exact hH, hI.move hW (by rw [hU]; exact hS.1) (fun q9 g1 g2 => by rw [hU]; exact hS.2.1 q9 g1 g2)⟩) hls (by rw [zsum_cat]; exact hsum) k3 ⟨hc9, hs9⟩
                    rcases List.mem_cons.mp hw9 with rfl | hw9
                    · exact zG_good (zcw_ok k1).1
                    · exact zG_good hw9
                  split at h
                  · cases h
                  · next ov w' dc ds hr' =>
                    rw [zfrc_eq, zfrc_eq] at h
                    obtain ⟨h1, h2⟩ := ih _ _ _ _ _ _ h
                    refine ⟨⟨by omega, by omega⟩, fun H ls locs hl hH hS => ?_⟩
                    have hrun := door H locs ls hH hS (hl.2.1.trans hml.symm) _ hr' (Nat.le_trans h1.1 hRc) (Nat.le_trans h1.2 hRs)
                    intro T hT9 X9
                    rcases hrun T hT9 X9 with ⟨v, st₀, t, T', L, g0, X', hL, e1, e2, hq9, stp⟩ | ⟨q9, st₀, t, T', L, E, ce, g0, X', hL, e1, e2, hq9, hce, hcv, hcl, stp⟩
                    · obtain ⟨hv, hH', hF⟩ : Outcome.returned v = .returned (ov.map (zc X)) ∧ zH D cI cL X w' t.heap ∧ va_F (zA X) st₀ t := hq9
                      cases hv
                      obtain ⟨z1, z2, z3⟩ := vx_keep g0 e1 hS (fun _ _ h => h) (fun _ h => h) hL hF
                      obtain ⟨t2, a1, b1⟩ := h2 T'.heap ls (locs ++ L) hl (by rw [e1]; exact hH') z3 T' rfl X'
                      refine ⟨t2, stp t2 ?_, b1⟩
                      rw [← ztoList] at a1
                      exact a1
                    · exact hq9.elim
                  · next E w' dc ds hr' =>
                    split at h
                    · next hd' hhd =>
                      obtain ⟨hb9, hlt9, h⟩ := zst1_spec h
                      rw [zfrc_eq, zfrc_eq] at h
                      obtain ⟨h1, h2⟩ := ih _ _ _ _ _ _ h
                      refine ⟨⟨by omega, by omega⟩, fun H ls locs hl hH hS => ?_⟩
                      have hrun := door H locs ls hH hS (hl.2.1.trans hml.symm) _ hr' (Nat.le_trans h1.1 hRc) (Nat.le_trans h1.2 hRs)
                      intro T hT9 X9
                      rcases hrun T hT9 X9 with ⟨v, st₀, t, T', L, g0, X', hL, e1, e2, hq9, stp⟩ | ⟨q9, st₀, t, T', L, E2, ce, g0, X', hL, e1, e2, hq9, hce, hcv, hcl, stp⟩
                      · exact hq9.elim
                      · obtain ⟨hv, hH', hF⟩ : E2 = E ∧ zH D cI cL X w' t.heap ∧ va_F (zA X) st₀ t := hq9
                        subst hv
                        obtain ⟨z1, z2, z3⟩ := vx_keep g0 e1 hS (fun _ _ h => h) (fun _ h => h) hL hF
                        have hk := zcatch (R := R) (e := e) (below := below) (Q := Q) (locs := locs ++ L) (cells := c0 + dc) (slots := s0 + ds) (rest := q.2.2.2.map (zc X)) C0 hhd hl hb9 hlt9 rfl (show T'.heap[q9]? = some ce by rw [e1]; exact hce) hcv hcl (fun ls' hl' => h2 T'.heap ls' (locs ++ L) hl' (by rw [e1]; exact hH') z3)
                        obtain ⟨t2, a1, b1⟩ := hk T' rfl X'
                        exact ⟨t2, stp.trans a1, b1⟩
                    · cases hhs : zhas i with
                      | true => rw [hhs] at h; cases h
                      | false =>
                        rw [hhs] at h
                        have he := (Option.some.inj h).symm
                        subst he
                        refine ⟨⟨Nat.le_add_right _ _, Nat.le_add_right _ _⟩, fun H ls locs hl hH hS => ?_⟩
                        have hrun := door H locs ls hH hS (hl.2.1.trans hml.symm) _ hr' hRc hRs
                        intro T hT9 X9
                        rcases hrun T hT9 X9 with ⟨v, st₀, t, T', L, g0, X', hL, e1, e2, hq9, stp⟩ | ⟨q9, st₀, t, T', L, E2, ce, g0, X', hL, e1, e2, hq9, hce, hcv, hcl, stp⟩
                        · exact hq9.elim
                        · obtain ⟨hv, hH', hF⟩ : E2 = E ∧ zH D cI cL X w' t.heap ∧ va_F (zA X) st₀ t := hq9
                          subst hv
                          obtain ⟨z1, z2, z3⟩ := vx_keep g0 e1 hS (fun _ _ h => h) (fun _ h => h) hL hF
                          obtain ⟨t2, a1, b1⟩ := hT E2 rfl hhs pc ls T'.heap (locs ++ L) q9 ce (q.2.2.2.map (zc X)) (by rw [e1]; exact hH') z3 (by rw [e1]; exact hce) hcv hcl T' rfl X'
                          exact ⟨t2, stp.trans a1, b1⟩
            · split at h
              · next E hthr =>
                split at h
                · cases hhs : zhas i with
                  | true => rw [hhs] at h; cases h
                  | false =>
                    rw [hhs] at h
                    have he := (Option.some.inj h).symm
                    subst he
                    exact ⟨⟨Nat.le_add_right _ _, Nat.le_add_right _ _⟩, fun H ls locs hl hH hS => hD E rfl hhs pc ls H locs w c0 s0 hthr (hl.2.1.trans hml.symm) rfl rfl rfl hH hS⟩
                · cases h
              · cases h
end ZLS
