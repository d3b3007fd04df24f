/-! ===== holes of Fits do not touch ===== -/
theorem hole_one {H : List hl_T} (hs : H.Pairwise fun x y => x.1 + x.2 ≤ y.1) {x y : hl_T} (hx : x ∈ H) (hy : y ∈ H) {u : Int} (h1 : x.1 ≤ u ∧ u < x.1 + x.2) (h2 : y.1 ≤ u ∧ u < y.1 + y.2) : x = y := by
  obtain ⟨X, Y, rfl⟩ := List.append_of_mem hx
  rw [List.pairwise_append, List.pairwise_cons] at hs
  rcases List.mem_append.mp hy with h | h
  · have := hs.2.2 y h x List.mem_cons_self
    omega
  · rcases List.mem_cons.mp h with h | h
    · exact h.symm
    · have := hs.2.1.1 y h
      omega
theorem gapL_end {f t : Int} (h0 : 0 ≤ f) (h : f < t) (ht : t ≤ 1024) {x : hl_T} (hx : x ∈ gapL parF 128 f t) : x.1 + x.2 = t := by
  have e := (pgood_F.2 f t trivial trivial h0 h ht).2
  have ep : parF f t = t - f := rfl
  rw [e, ep, show f + (t - f) = t by omega, gapL_e parF 128 (Int.le_refl t)] at hx
  rw [List.mem_singleton.mp hx]
  show f + (t - f) = t
  omega
theorem hol_apart {B : List bk_T} (hok : okB B) {x y : hl_T} (hx : x ∈ holF 2 B) (hy : y ∈ holF 2 B) : x.1 + x.2 ≠ y.1 := fun e => by
  have hs := hol_sorted (c := 2) (by omega) hok (show gcB 2 B from trivial)
  have dx := hol_dis (c := 2) (by omega) hok (show gcB 2 B from trivial) hx
  have dy := hol_dis (c := 2) (by omega) hok (show gcB 2 B from trivial) hy
  obtain ⟨f', t', z, q1, q2, q3, q4, q5, q6, q7, q8, q9, q10⟩ := hol_cover (c := 2) (by omega) hok (show gcB 2 B from trivial) (u := y.1 - 1) (by omega) (by omega) (fun b hb hc => by
    have := dx.2.2.2 b hb
    omega)
  have ez := gapL_end q2 (by omega) (QF_rg (c := 2) (by omega) q1).2.2 q7
  have zx := hole_one hs q8 hx ⟨q9, q10⟩ ⟨by omega, by omega⟩
  rw [zx] at ez
  rcases q6 with h | ⟨b, hb, h⟩
  · omega
  · have gb := hok.2 b hb
    have := dy.2.2.2 b hb
    omega
