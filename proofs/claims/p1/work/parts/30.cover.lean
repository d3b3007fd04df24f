def zBall : List zBx := zBx0 ++ zBx1 ++ zBx2 ++ zBx3 ++ zBx4 ++ zBx5 ++ zBx6 ++ zBx7 ++ zBx8 ++ zBx9 ++ zBx10 ++ zBx11 ++ zBx12 ++ zBx13 ++ zBx14 ++ zBx15 ++ zBx16 ++ zBx17 ++ zBx18
theorem zBall_ok : ∀ q ∈ zBall, zbg q = true := by
  intro q hq
  unfold zBall at hq
  simp only [List.mem_append] at hq
  rcases hq with (((((((((((((((((h | h) | h) | h) | h) | h) | h) | h) | h) | h) | h) | h) | h) | h) | h) | h) | h) | h) | h
  · exact List.all_eq_true.mp zBx0_ok q h
  · exact List.all_eq_true.mp zBx1_ok q h
  · exact List.all_eq_true.mp zBx2_ok q h
  · exact List.all_eq_true.mp zBx3_ok q h
  · exact List.all_eq_true.mp zBx4_ok q h
  · exact List.all_eq_true.mp zBx5_ok q h
  · exact List.all_eq_true.mp zBx6_ok q h
  · exact List.all_eq_true.mp zBx7_ok q h
  · exact List.all_eq_true.mp zBx8_ok q h
  · exact List.all_eq_true.mp zBx9_ok q h
  · exact List.all_eq_true.mp zBx10_ok q h
  · exact List.all_eq_true.mp zBx11_ok q h
  · exact List.all_eq_true.mp zBx12_ok q h
  · exact List.all_eq_true.mp zBx13_ok q h
  · exact List.all_eq_true.mp zBx14_ok q h
  · exact List.all_eq_true.mp zBx15_ok q h
  · exact List.all_eq_true.mp zBx16_ok q h
  · exact List.all_eq_true.mp zBx17_ok q h
  · exact List.all_eq_true.mp zBx18_ok q h
theorem zfor_in (k : Nat) : ∀ q, q ∈ zBall.filter (fun q => Nat.beq q.1 k) → q ∈ zBall := fun q h => (List.mem_filter.mp h).1
theorem zbx {p : Program} {e : Env} {s : State} {m : MethodId} {below : List Frame} {meth : Method} {c : Code} (l : Launch) (hflags : l.flags = flags0) {b : Nat} {xs : Nat → Int32} (C0 : lw_At p s m meth c b 4 xs) (k : Nat) (a1 b1 a2 b2 a3 b3 : Int) (hm : zBall.any (fun r => decide (r = (k, (a1, b1), (a2, b2), (a3, b3)))) = true) (h0 : xs 0 &&& 63 = Int32.ofNat k) (h1 : a1 ≤ (xs 1).toInt) (h2 : (xs 1).toInt ≤ b1) (h3 : a2 ≤ (xs 2).toInt) (h4 : (xs 2).toInt ≤ b2) (h5 : a3 ≤ (xs 3).toInt) (h6 : (xs 3).toInt ≤ b3) :
    W p l e room_1 s m #[Value.ref b] below meth c s.heap [] 0 0 (lw_Z below #[Value.ref b] s) (entryFrame m ([Value.ref b] : List Value).toArray 9) := by
  obtain ⟨r, g1, g2⟩ := List.any_eq_true.mp hm
  have g3 := of_decide_eq_true g2
  subst g3
  exact zbox l hflags C0 (zBall_ok _ g1) ⟨h0, ⟨h1, h2⟩, ⟨h3, h4⟩, ⟨h5, h6⟩⟩
theorem zcover {p : Program} {e : Env} {s : State} {m : MethodId} {below : List Frame} {meth : Method} {c : Code} (l : Launch) (hflags : l.flags = flags0) {b : Nat} {xs : Nat → Int32} (C0 : lw_At p s m meth c b 4 xs) (k : Nat) (hk : k < 64) (h0 : xs 0 &&& 63 = Int32.ofNat k) :
    W p l e room_1 s m #[Value.ref b] below meth c s.heap [] 0 0 (lw_Z below #[Value.ref b] s) (entryFrame m ([Value.ref b] : List Value).toArray 9) := by
  have l1 : -2147483648 ≤ (xs 1).toInt := zi32lo _
  have l2 : -2147483648 ≤ (xs 2).toInt := zi32lo _
  have l3 : -2147483648 ≤ (xs 3).toInt := zi32lo _
  have g1 : (xs 1).toInt ≤ 2147483647 := zi32hi _
  have g2 : (xs 2).toInt ≤ 2147483647 := zi32hi _
  have g3 : (xs 3).toInt ≤ 2147483647 := zi32hi _
  have B := zbx (e := e) (below := below) l hflags C0
  match k, hk with
  | 0, _ =>
    have hc1 : ((xs 1).toInt ≤ (-1)) ∨ (6 ≤ (xs 1).toInt) ∨ (0 ≤ (xs 1).toInt ∧ (xs 1).toInt ≤ 5) := by omega
    rcases hc1 with h1 | h1 | h1
    · exact B 0 (-2147483648) (-1) (-2147483648) 2147483647 (-2147483648) 2147483647 (by decide +kernel) h0 (by omega) (by omega) (by omega) (by omega) (by omega) (by omega)
    · exact B 0 6 2147483647 (-2147483648) 2147483647 (-2147483648) 2147483647 (by decide +kernel) h0 (by omega) (by omega) (by omega) (by omega) (by omega) (by omega)
    · have hc2 : ((xs 2).toInt ≤ 0) ∨ (3 ≤ (xs 2).toInt ∧ (xs 2).toInt ≤ 3) ∨ (5 ≤ (xs 2).toInt ∧ (xs 2).toInt ≤ 7) ∨ (9 ≤ (xs 2).toInt) ∨ (1 ≤ (xs 2).toInt ∧ (xs 2).toInt ≤ 1) ∨ (2 ≤ (xs 2).toInt ∧ (xs 2).toInt ≤ 2) ∨ (4 ≤ (xs 2).toInt ∧ (xs 2).toInt ≤ 4) ∨ (8 ≤ (xs 2).toInt ∧ (xs 2).toInt ≤ 8) := by omega
      rcases hc2 with h2 | h2 | h2 | h2 | h2 | h2 | h2 | h2
      · exact B 0 0 5 (-2147483648) 0 (-2147483648) 2147483647 (by decide +kernel) h0 (by omega) (by omega) (by omega) (by omega) (by omega) (by omega)
      · exact B 0 0 5 3 3 (-2147483648) 2147483647 (by decide +kernel) h0 (by omega) (by omega) (by omega) (by omega) (by omega) (by omega)
      · exact B 0 0 5 5 7 (-2147483648) 2147483647 (by decide +kernel) h0 (by omega) (by omega) (by omega) (by omega) (by omega) (by omega)
      · exact B 0 0 5 9 2147483647 (-2147483648) 2147483647 (by decide +kernel) h0 (by omega) (by omega) (by omega) (by omega) (by omega) (by omega)
      · have hc3 : ((xs 3).toInt ≤ (-1)) ∨ (9 ≤ (xs 3).toInt) ∨ (0 ≤ (xs 3).toInt ∧ (xs 3).toInt ≤ 8) := by omega
        rcases hc3 with h3 | h3 | h3
        · exact B 0 0 5 1 1 (-2147483648) (-1) (by decide +kernel) h0 (by omega) (by omega) (by omega) (by omega) (by omega) (by omega)
        · exact B 0 0 5 1 1 9 2147483647 (by decide +kernel) h0 (by omega) (by omega) (by omega) (by omega) (by omega) (by omega)
        · exact B 0 0 5 1 1 0 8 (by decide +kernel) h0 (by omega) (by omega) (by omega) (by omega) (by omega) (by omega)
      · have hc3 : ((xs 3).toInt ≤ (-1)) ∨ (9 ≤ (xs 3).toInt) ∨ (0 ≤ (xs 3).toInt ∧ (xs 3).toInt ≤ 8) := by omega
        rcases hc3 with h3 | h3 | h3
        · exact B 0 0 5 2 2 (-2147483648) (-1) (by decide +kernel) h0 (by omega) (by omega) (by omega) (by omega) (by omega) (by omega)
        · exact B 0 0 5 2 2 9 2147483647 (by decide +kernel) h0 (by omega) (by omega) (by omega) (by omega) (by omega) (by omega)
        · exact B 0 0 5 2 2 0 8 (by decide +kernel) h0 (by omega) (by omega) (by omega) (by omega) (by omega) (by omega)
      · have hc3 : ((xs 3).toInt ≤ (-1)) ∨ (9 ≤ (xs 3).toInt) ∨ (0 ≤ (xs 3).toInt ∧ (xs 3).toInt ≤ 8) := by omega
        rcases hc3 with h3 | h3 | h3
        · exact B 0 0 5 4 4 (-2147483648) (-1) (by decide +kernel) h0 (by omega) (by omega) (by omega) (by omega) (by omega) (by omega)
        · exact B 0 0 5 4 4 9 2147483647 (by decide +kernel) h0 (by omega) (by omega) (by omega) (by omega) (by omega) (by omega)
        · exact B 0 0 5 4 4 0 8 (by decide +kernel) h0 (by omega) (by omega) (by omega) (by omega) (by omega) (by omega)
      · have hc3 : ((xs 3).toInt ≤ (-1)) ∨ (9 ≤ (xs 3).toInt) ∨ (0 ≤ (xs 3).toInt ∧ (xs 3).toInt ≤ 8) := by omega
        rcases hc3 with h3 | h3 | h3
        · exact B 0 0 5 8 8 (-2147483648) (-1) (by decide +kernel) h0 (by omega) (by omega) (by omega) (by omega) (by omega) (by omega)
        · exact B 0 0 5 8 8 9 2147483647 (by decide +kernel) h0 (by omega) (by omega) (by omega) (by omega) (by omega) (by omega)
        · exact B 0 0 5 8 8 0 8 (by decide +kernel) h0 (by omega) (by omega) (by omega) (by omega) (by omega) (by omega)
  | 1, _ =>
    have hc1 : ((xs 1).toInt ≤ 0) ∨ (301 ≤ (xs 1).toInt) ∨ (1 ≤ (xs 1).toInt ∧ (xs 1).toInt ≤ 300) := by omega
    rcases hc1 with h1 | h1 | h1
    · exact B 1 (-2147483648) 0 (-2147483648) 2147483647 (-2147483648) 2147483647 (by decide +kernel) h0 (by omega) (by omega) (by omega) (by omega) (by omega) (by omega)
    · exact B 1 301 2147483647 (-2147483648) 2147483647 (-2147483648) 2147483647 (by decide +kernel) h0 (by omega) (by omega) (by omega) (by omega) (by omega) (by omega)
    · exact zdsym l hflags C0 zS1 h0 h1.1 h1.2
  | 2, _ =>
    have hc1 : ((xs 1).toInt ≤ (-1)) ∨ (0 ≤ (xs 1).toInt) := by omega
    rcases hc1 with h1 | h1
    · exact B 2 (-2147483648) (-1) (-2147483648) 2147483647 (-2147483648) 2147483647 (by decide +kernel) h0 (by omega) (by omega) (by omega) (by omega) (by omega) (by omega)
    · exact B 2 0 2147483647 (-2147483648) 2147483647 (-2147483648) 2147483647 (by decide +kernel) h0 (by omega) (by omega) (by omega) (by omega) (by omega) (by omega)
  | 3, _ =>
    have hc1 : ((xs 1).toInt ≤ (-1)) ∨ (0 ≤ (xs 1).toInt) := by omega
    rcases hc1 with h1 | h1
    · exact B 3 (-2147483648) (-1) (-2147483648) 2147483647 (-2147483648) 2147483647 (by decide +kernel) h0 (by omega) (by omega) (by omega) (by omega) (by omega) (by omega)
    · exact B 3 0 2147483647 (-2147483648) 2147483647 (-2147483648) 2147483647 (by decide +kernel) h0 (by omega) (by omega) (by omega) (by omega) (by omega) (by omega)
  | 4, _ =>
    exact B 4 (-2147483648) 2147483647 (-2147483648) 2147483647 (-2147483648) 2147483647 (by decide +kernel) h0 l1 g1 l2 g2 l3 g3
  | 5, _ =>
    exact B 5 (-2147483648) 2147483647 (-2147483648) 2147483647 (-2147483648) 2147483647 (by decide +kernel) h0 l1 g1 l2 g2 l3 g3
  | 6, _ =>
    exact B 6 (-2147483648) 2147483647 (-2147483648) 2147483647 (-2147483648) 2147483647 (by decide +kernel) h0 l1 g1 l2 g2 l3 g3
  | 7, _ =>
    exact B 7 (-2147483648) 2147483647 (-2147483648) 2147483647 (-2147483648) 2147483647 (by decide +kernel) h0 l1 g1 l2 g2 l3 g3
  | 8, _ =>
    exact B 8 (-2147483648) 2147483647 (-2147483648) 2147483647 (-2147483648) 2147483647 (by decide +kernel) h0 l1 g1 l2 g2 l3 g3
  | 9, _ =>
    exact B 9 (-2147483648) 2147483647 (-2147483648) 2147483647 (-2147483648) 2147483647 (by decide +kernel) h0 l1 g1 l2 g2 l3 g3
  | 10, _ =>
    exact B 10 (-2147483648) 2147483647 (-2147483648) 2147483647 (-2147483648) 2147483647 (by decide +kernel) h0 l1 g1 l2 g2 l3 g3
  | 11, _ =>
    have hc1 : ((xs 1).toInt ≤ (-1)) ∨ (0 ≤ (xs 1).toInt) := by omega
    rcases hc1 with h1 | h1
    · exact B 11 (-2147483648) (-1) (-2147483648) 2147483647 (-2147483648) 2147483647 (by decide +kernel) h0 (by omega) (by omega) (by omega) (by omega) (by omega) (by omega)
    · exact B 11 0 2147483647 (-2147483648) 2147483647 (-2147483648) 2147483647 (by decide +kernel) h0 (by omega) (by omega) (by omega) (by omega) (by omega) (by omega)
  | 12, _ =>
    have hc1 : ((xs 1).toInt ≤ (-1)) ∨ (0 ≤ (xs 1).toInt) := by omega
    rcases hc1 with h1 | h1
    · exact B 12 (-2147483648) (-1) (-2147483648) 2147483647 (-2147483648) 2147483647 (by decide +kernel) h0 (by omega) (by omega) (by omega) (by omega) (by omega) (by omega)
    · exact B 12 0 2147483647 (-2147483648) 2147483647 (-2147483648) 2147483647 (by decide +kernel) h0 (by omega) (by omega) (by omega) (by omega) (by omega) (by omega)
  | 13, _ =>
    have hc1 : ((xs 1).toInt ≤ (-1)) ∨ (0 ≤ (xs 1).toInt) := by omega
    rcases hc1 with h1 | h1
    · exact B 13 (-2147483648) (-1) (-2147483648) 2147483647 (-2147483648) 2147483647 (by decide +kernel) h0 (by omega) (by omega) (by omega) (by omega) (by omega) (by omega)
    · exact B 13 0 2147483647 (-2147483648) 2147483647 (-2147483648) 2147483647 (by decide +kernel) h0 (by omega) (by omega) (by omega) (by omega) (by omega) (by omega)
  | 14, _ =>
    have hc1 : ((xs 1).toInt ≤ (-1)) ∨ (0 ≤ (xs 1).toInt) := by omega
    rcases hc1 with h1 | h1
    · exact B 14 (-2147483648) (-1) (-2147483648) 2147483647 (-2147483648) 2147483647 (by decide +kernel) h0 (by omega) (by omega) (by omega) (by omega) (by omega) (by omega)
    · exact B 14 0 2147483647 (-2147483648) 2147483647 (-2147483648) 2147483647 (by decide +kernel) h0 (by omega) (by omega) (by omega) (by omega) (by omega) (by omega)
  | 15, _ =>
    have hc1 : ((xs 1).toInt ≤ (-1)) ∨ (0 ≤ (xs 1).toInt ∧ (xs 1).toInt ≤ 1023) ∨ (1024 ≤ (xs 1).toInt) := by omega
    rcases hc1 with h1 | h1 | h1
    · exact B 15 (-2147483648) (-1) (-2147483648) 2147483647 (-2147483648) 2147483647 (by decide +kernel) h0 (by omega) (by omega) (by omega) (by omega) (by omega) (by omega)
    · exact B 15 0 1023 (-2147483648) 2147483647 (-2147483648) 2147483647 (by decide +kernel) h0 (by omega) (by omega) (by omega) (by omega) (by omega) (by omega)
    · exact B 15 1024 2147483647 (-2147483648) 2147483647 (-2147483648) 2147483647 (by decide +kernel) h0 (by omega) (by omega) (by omega) (by omega) (by omega) (by omega)
  | 16, _ =>
    exact B 16 (-2147483648) 2147483647 (-2147483648) 2147483647 (-2147483648) 2147483647 (by decide +kernel) h0 l1 g1 l2 g2 l3 g3
  | 17, _ =>
    exact B 17 (-2147483648) 2147483647 (-2147483648) 2147483647 (-2147483648) 2147483647 (by decide +kernel) h0 l1 g1 l2 g2 l3 g3
  | 18, _ =>
    have hc1 : ((xs 1).toInt ≤ (-1)) ∨ (0 ≤ (xs 1).toInt ∧ (xs 1).toInt ≤ 0) ∨ (1 ≤ (xs 1).toInt) := by omega
    rcases hc1 with h1 | h1 | h1
    · exact B 18 (-2147483648) (-1) (-2147483648) 2147483647 (-2147483648) 2147483647 (by decide +kernel) h0 (by omega) (by omega) (by omega) (by omega) (by omega) (by omega)
    · exact B 18 0 0 (-2147483648) 2147483647 (-2147483648) 2147483647 (by decide +kernel) h0 (by omega) (by omega) (by omega) (by omega) (by omega) (by omega)
    · exact B 18 1 2147483647 (-2147483648) 2147483647 (-2147483648) 2147483647 (by decide +kernel) h0 (by omega) (by omega) (by omega) (by omega) (by omega) (by omega)
  | 19, _ =>
    have hc1 : ((xs 1).toInt ≤ (-1)) ∨ (0 ≤ (xs 1).toInt ∧ (xs 1).toInt ≤ 0) ∨ (1 ≤ (xs 1).toInt) := by omega
    rcases hc1 with h1 | h1 | h1
    · exact B 19 (-2147483648) (-1) (-2147483648) 2147483647 (-2147483648) 2147483647 (by decide +kernel) h0 (by omega) (by omega) (by omega) (by omega) (by omega) (by omega)
    · exact B 19 0 0 (-2147483648) 2147483647 (-2147483648) 2147483647 (by decide +kernel) h0 (by omega) (by omega) (by omega) (by omega) (by omega) (by omega)
    · exact B 19 1 2147483647 (-2147483648) 2147483647 (-2147483648) 2147483647 (by decide +kernel) h0 (by omega) (by omega) (by omega) (by omega) (by omega) (by omega)
  | 20, _ =>
    have hc1 : ((xs 1).toInt ≤ (-1)) ∨ (0 ≤ (xs 1).toInt ∧ (xs 1).toInt ≤ 7) ∨ (8 ≤ (xs 1).toInt) := by omega
    rcases hc1 with h1 | h1 | h1
    · exact B 20 (-2147483648) (-1) (-2147483648) 2147483647 (-2147483648) 2147483647 (by decide +kernel) h0 (by omega) (by omega) (by omega) (by omega) (by omega) (by omega)
    · exact B 20 0 7 (-2147483648) 2147483647 (-2147483648) 2147483647 (by decide +kernel) h0 (by omega) (by omega) (by omega) (by omega) (by omega) (by omega)
    · exact B 20 8 2147483647 (-2147483648) 2147483647 (-2147483648) 2147483647 (by decide +kernel) h0 (by omega) (by omega) (by omega) (by omega) (by omega) (by omega)
  | 21, _ =>
    exact B 21 (-2147483648) 2147483647 (-2147483648) 2147483647 (-2147483648) 2147483647 (by decide +kernel) h0 l1 g1 l2 g2 l3 g3
  | 22, _ =>
    exact B 22 (-2147483648) 2147483647 (-2147483648) 2147483647 (-2147483648) 2147483647 (by decide +kernel) h0 l1 g1 l2 g2 l3 g3
  | 23, _ =>
    exact B 23 (-2147483648) 2147483647 (-2147483648) 2147483647 (-2147483648) 2147483647 (by decide +kernel) h0 l1 g1 l2 g2 l3 g3
  | 24, _ =>
    exact B 24 (-2147483648) 2147483647 (-2147483648) 2147483647 (-2147483648) 2147483647 (by decide +kernel) h0 l1 g1 l2 g2 l3 g3
  | 25, _ =>
    exact B 25 (-2147483648) 2147483647 (-2147483648) 2147483647 (-2147483648) 2147483647 (by decide +kernel) h0 l1 g1 l2 g2 l3 g3
  | 26, _ =>
    have hc1 : ((xs 1).toInt ≤ (-1)) ∨ (0 ≤ (xs 1).toInt ∧ (xs 1).toInt ≤ 0) ∨ (1 ≤ (xs 1).toInt ∧ (xs 1).toInt ≤ 1) ∨ (2 ≤ (xs 1).toInt ∧ (xs 1).toInt ≤ 2) ∨ (3 ≤ (xs 1).toInt ∧ (xs 1).toInt ≤ 3) ∨ (4 ≤ (xs 1).toInt ∧ (xs 1).toInt ≤ 4) ∨ (5 ≤ (xs 1).toInt) := by omega
    rcases hc1 with h1 | h1 | h1 | h1 | h1 | h1 | h1
    · exact B 26 (-2147483648) (-1) (-2147483648) 2147483647 (-2147483648) 2147483647 (by decide +kernel) h0 (by omega) (by omega) (by omega) (by omega) (by omega) (by omega)
    · exact B 26 0 0 (-2147483648) 2147483647 (-2147483648) 2147483647 (by decide +kernel) h0 (by omega) (by omega) (by omega) (by omega) (by omega) (by omega)
    · exact B 26 1 1 (-2147483648) 2147483647 (-2147483648) 2147483647 (by decide +kernel) h0 (by omega) (by omega) (by omega) (by omega) (by omega) (by omega)
    · exact B 26 2 2 (-2147483648) 2147483647 (-2147483648) 2147483647 (by decide +kernel) h0 (by omega) (by omega) (by omega) (by omega) (by omega) (by omega)
    · exact B 26 3 3 (-2147483648) 2147483647 (-2147483648) 2147483647 (by decide +kernel) h0 (by omega) (by omega) (by omega) (by omega) (by omega) (by omega)
    · exact B 26 4 4 (-2147483648) 2147483647 (-2147483648) 2147483647 (by decide +kernel) h0 (by omega) (by omega) (by omega) (by omega) (by omega) (by omega)
    · exact B 26 5 2147483647 (-2147483648) 2147483647 (-2147483648) 2147483647 (by decide +kernel) h0 (by omega) (by omega) (by omega) (by omega) (by omega) (by omega)
  | 27, _ =>
    exact B 27 (-2147483648) 2147483647 (-2147483648) 2147483647 (-2147483648) 2147483647 (by decide +kernel) h0 l1 g1 l2 g2 l3 g3
  | 28, _ =>
    have hc1 : ((xs 1).toInt ≤ 0) ∨ (301 ≤ (xs 1).toInt) ∨ (1 ≤ (xs 1).toInt ∧ (xs 1).toInt ≤ 300) := by omega
    rcases hc1 with h1 | h1 | h1
    · exact B 28 (-2147483648) 0 (-2147483648) 2147483647 (-2147483648) 2147483647 (by decide +kernel) h0 (by omega) (by omega) (by omega) (by omega) (by omega) (by omega)
    · exact B 28 301 2147483647 (-2147483648) 2147483647 (-2147483648) 2147483647 (by decide +kernel) h0 (by omega) (by omega) (by omega) (by omega) (by omega) (by omega)
    · exact zdsym l hflags C0 zS28 h0 h1.1 h1.2
  | 29, _ =>
    exact B 29 (-2147483648) 2147483647 (-2147483648) 2147483647 (-2147483648) 2147483647 (by decide +kernel) h0 l1 g1 l2 g2 l3 g3
  | 30, _ =>
    have hc1 : ((xs 1).toInt ≤ -1) ∨ (6 ≤ (xs 1).toInt) ∨ (0 ≤ (xs 1).toInt ∧ (xs 1).toInt ≤ 5) := by omega
    rcases hc1 with h1 | h1 | h1
    · exact B 30 (-2147483648) (-1) (-2147483648) 2147483647 (-2147483648) 2147483647 (by decide +kernel) h0 (by omega) (by omega) (by omega) (by omega) (by omega) (by omega)
    · exact B 30 6 2147483647 (-2147483648) 2147483647 (-2147483648) 2147483647 (by decide +kernel) h0 (by omega) (by omega) (by omega) (by omega) (by omega) (by omega)
    · have hc2 : ((xs 2).toInt ≤ -1) ∨ (8 ≤ (xs 2).toInt) ∨ (0 ≤ (xs 2).toInt ∧ (xs 2).toInt ≤ 7) := by omega
      rcases hc2 with h2 | h2 | h2
      · exact B 30 0 5 (-2147483648) (-1) (-2147483648) 2147483647 (by decide +kernel) h0 (by omega) (by omega) (by omega) (by omega) (by omega) (by omega)
      · exact B 30 0 5 8 2147483647 (-2147483648) 2147483647 (by decide +kernel) h0 (by omega) (by omega) (by omega) (by omega) (by omega) (by omega)
      · have hc3 : (xs 1).toInt = 0 ∨ (xs 1).toInt = 1 ∨ (xs 1).toInt = 2 ∨ (xs 1).toInt = 3 ∨ (xs 1).toInt = 4 ∨ (xs 1).toInt = 5 := by omega
        rcases hc3 with h3 | h3 | h3 | h3 | h3 | h3
        · have hc4 : (xs 2).toInt = 0 ∨ (xs 2).toInt = 1 ∨ (xs 2).toInt = 2 ∨ (xs 2).toInt = 3 ∨ (xs 2).toInt = 4 ∨ (xs 2).toInt = 5 ∨ (xs 2).toInt = 6 ∨ (xs 2).toInt = 7 := by omega
          rcases hc4 with h4 | h4 | h4 | h4 | h4 | h4 | h4 | h4
          · exact B 30 0 0 0 0 (-2147483648) 2147483647 (by decide +kernel) h0 (by omega) (by omega) (by omega) (by omega) (by omega) (by omega)
          · exact B 30 0 0 1 1 (-2147483648) 2147483647 (by decide +kernel) h0 (by omega) (by omega) (by omega) (by omega) (by omega) (by omega)
          · exact B 30 0 0 2 2 (-2147483648) 2147483647 (by decide +kernel) h0 (by omega) (by omega) (by omega) (by omega) (by omega) (by omega)
          · exact B 30 0 0 3 3 (-2147483648) 2147483647 (by decide +kernel) h0 (by omega) (by omega) (by omega) (by omega) (by omega) (by omega)
          · exact B 30 0 0 4 4 (-2147483648) 2147483647 (by decide +kernel) h0 (by omega) (by omega) (by omega) (by omega) (by omega) (by omega)
          · exact B 30 0 0 5 5 (-2147483648) 2147483647 (by decide +kernel) h0 (by omega) (by omega) (by omega) (by omega) (by omega) (by omega)
          · exact B 30 0 0 6 6 (-2147483648) 2147483647 (by decide +kernel) h0 (by omega) (by omega) (by omega) (by omega) (by omega) (by omega)
          · exact B 30 0 0 7 7 (-2147483648) 2147483647 (by decide +kernel) h0 (by omega) (by omega) (by omega) (by omega) (by omega) (by omega)
        · have hc4 : (xs 2).toInt = 0 ∨ (xs 2).toInt = 1 ∨ (xs 2).toInt = 2 ∨ (xs 2).toInt = 3 ∨ (xs 2).toInt = 4 ∨ (xs 2).toInt = 5 ∨ (xs 2).toInt = 6 ∨ (xs 2).toInt = 7 := by omega
          rcases hc4 with h4 | h4 | h4 | h4 | h4 | h4 | h4 | h4
          · exact B 30 1 1 0 0 (-2147483648) 2147483647 (by decide +kernel) h0 (by omega) (by omega) (by omega) (by omega) (by omega) (by omega)
          · exact B 30 1 1 1 1 (-2147483648) 2147483647 (by decide +kernel) h0 (by omega) (by omega) (by omega) (by omega) (by omega) (by omega)
          · exact B 30 1 1 2 2 (-2147483648) 2147483647 (by decide +kernel) h0 (by omega) (by omega) (by omega) (by omega) (by omega) (by omega)
          · exact B 30 1 1 3 3 (-2147483648) 2147483647 (by decide +kernel) h0 (by omega) (by omega) (by omega) (by omega) (by omega) (by omega)
          · exact B 30 1 1 4 4 (-2147483648) 2147483647 (by decide +kernel) h0 (by omega) (by omega) (by omega) (by omega) (by omega) (by omega)
          · exact B 30 1 1 5 5 (-2147483648) 2147483647 (by decide +kernel) h0 (by omega) (by omega) (by omega) (by omega) (by omega) (by omega)
          · exact B 30 1 1 6 6 (-2147483648) 2147483647 (by decide +kernel) h0 (by omega) (by omega) (by omega) (by omega) (by omega) (by omega)
          · exact B 30 1 1 7 7 (-2147483648) 2147483647 (by decide +kernel) h0 (by omega) (by omega) (by omega) (by omega) (by omega) (by omega)
        · have hc4 : (xs 2).toInt = 0 ∨ (xs 2).toInt = 1 ∨ (xs 2).toInt = 2 ∨ (xs 2).toInt = 3 ∨ (xs 2).toInt = 4 ∨ (xs 2).toInt = 5 ∨ (xs 2).toInt = 6 ∨ (xs 2).toInt = 7 := by omega
          rcases hc4 with h4 | h4 | h4 | h4 | h4 | h4 | h4 | h4
          · exact B 30 2 2 0 0 (-2147483648) 2147483647 (by decide +kernel) h0 (by omega) (by omega) (by omega) (by omega) (by omega) (by omega)
          · exact B 30 2 2 1 1 (-2147483648) 2147483647 (by decide +kernel) h0 (by omega) (by omega) (by omega) (by omega) (by omega) (by omega)
          · exact B 30 2 2 2 2 (-2147483648) 2147483647 (by decide +kernel) h0 (by omega) (by omega) (by omega) (by omega) (by omega) (by omega)
          · exact B 30 2 2 3 3 (-2147483648) 2147483647 (by decide +kernel) h0 (by omega) (by omega) (by omega) (by omega) (by omega) (by omega)
          · exact B 30 2 2 4 4 (-2147483648) 2147483647 (by decide +kernel) h0 (by omega) (by omega) (by omega) (by omega) (by omega) (by omega)
          · exact B 30 2 2 5 5 (-2147483648) 2147483647 (by decide +kernel) h0 (by omega) (by omega) (by omega) (by omega) (by omega) (by omega)
          · exact B 30 2 2 6 6 (-2147483648) 2147483647 (by decide +kernel) h0 (by omega) (by omega) (by omega) (by omega) (by omega) (by omega)
          · exact B 30 2 2 7 7 (-2147483648) 2147483647 (by decide +kernel) h0 (by omega) (by omega) (by omega) (by omega) (by omega) (by omega)
        · have hc4 : (xs 2).toInt = 0 ∨ (xs 2).toInt = 1 ∨ (xs 2).toInt = 2 ∨ (xs 2).toInt = 3 ∨ (xs 2).toInt = 4 ∨ (xs 2).toInt = 5 ∨ (xs 2).toInt = 6 ∨ (xs 2).toInt = 7 := by omega
          rcases hc4 with h4 | h4 | h4 | h4 | h4 | h4 | h4 | h4
          · exact B 30 3 3 0 0 (-2147483648) 2147483647 (by decide +kernel) h0 (by omega) (by omega) (by omega) (by omega) (by omega) (by omega)
          · exact B 30 3 3 1 1 (-2147483648) 2147483647 (by decide +kernel) h0 (by omega) (by omega) (by omega) (by omega) (by omega) (by omega)
          · exact B 30 3 3 2 2 (-2147483648) 2147483647 (by decide +kernel) h0 (by omega) (by omega) (by omega) (by omega) (by omega) (by omega)
          · exact B 30 3 3 3 3 (-2147483648) 2147483647 (by decide +kernel) h0 (by omega) (by omega) (by omega) (by omega) (by omega) (by omega)
          · exact B 30 3 3 4 4 (-2147483648) 2147483647 (by decide +kernel) h0 (by omega) (by omega) (by omega) (by omega) (by omega) (by omega)
          · exact B 30 3 3 5 5 (-2147483648) 2147483647 (by decide +kernel) h0 (by omega) (by omega) (by omega) (by omega) (by omega) (by omega)
          · exact B 30 3 3 6 6 (-2147483648) 2147483647 (by decide +kernel) h0 (by omega) (by omega) (by omega) (by omega) (by omega) (by omega)
          · exact B 30 3 3 7 7 (-2147483648) 2147483647 (by decide +kernel) h0 (by omega) (by omega) (by omega) (by omega) (by omega) (by omega)
        · have hc4 : (xs 2).toInt = 0 ∨ (xs 2).toInt = 1 ∨ (xs 2).toInt = 2 ∨ (xs 2).toInt = 3 ∨ (xs 2).toInt = 4 ∨ (xs 2).toInt = 5 ∨ (xs 2).toInt = 6 ∨ (xs 2).toInt = 7 := by omega
          rcases hc4 with h4 | h4 | h4 | h4 | h4 | h4 | h4 | h4
          · exact B 30 4 4 0 0 (-2147483648) 2147483647 (by decide +kernel) h0 (by omega) (by omega) (by omega) (by omega) (by omega) (by omega)
          · exact B 30 4 4 1 1 (-2147483648) 2147483647 (by decide +kernel) h0 (by omega) (by omega) (by omega) (by omega) (by omega) (by omega)
          · exact B 30 4 4 2 2 (-2147483648) 2147483647 (by decide +kernel) h0 (by omega) (by omega) (by omega) (by omega) (by omega) (by omega)
          · exact B 30 4 4 3 3 (-2147483648) 2147483647 (by decide +kernel) h0 (by omega) (by omega) (by omega) (by omega) (by omega) (by omega)
          · exact B 30 4 4 4 4 (-2147483648) 2147483647 (by decide +kernel) h0 (by omega) (by omega) (by omega) (by omega) (by omega) (by omega)
          · exact B 30 4 4 5 5 (-2147483648) 2147483647 (by decide +kernel) h0 (by omega) (by omega) (by omega) (by omega) (by omega) (by omega)
          · exact B 30 4 4 6 6 (-2147483648) 2147483647 (by decide +kernel) h0 (by omega) (by omega) (by omega) (by omega) (by omega) (by omega)
          · exact B 30 4 4 7 7 (-2147483648) 2147483647 (by decide +kernel) h0 (by omega) (by omega) (by omega) (by omega) (by omega) (by omega)
        · have hc4 : (xs 2).toInt = 0 ∨ (xs 2).toInt = 1 ∨ (xs 2).toInt = 2 ∨ (xs 2).toInt = 3 ∨ (xs 2).toInt = 4 ∨ (xs 2).toInt = 5 ∨ (xs 2).toInt = 6 ∨ (xs 2).toInt = 7 := by omega
          rcases hc4 with h4 | h4 | h4 | h4 | h4 | h4 | h4 | h4
          · exact B 30 5 5 0 0 (-2147483648) 2147483647 (by decide +kernel) h0 (by omega) (by omega) (by omega) (by omega) (by omega) (by omega)
          · exact B 30 5 5 1 1 (-2147483648) 2147483647 (by decide +kernel) h0 (by omega) (by omega) (by omega) (by omega) (by omega) (by omega)
          · exact B 30 5 5 2 2 (-2147483648) 2147483647 (by decide +kernel) h0 (by omega) (by omega) (by omega) (by omega) (by omega) (by omega)
          · exact B 30 5 5 3 3 (-2147483648) 2147483647 (by decide +kernel) h0 (by omega) (by omega) (by omega) (by omega) (by omega) (by omega)
          · exact B 30 5 5 4 4 (-2147483648) 2147483647 (by decide +kernel) h0 (by omega) (by omega) (by omega) (by omega) (by omega) (by omega)
          · exact B 30 5 5 5 5 (-2147483648) 2147483647 (by decide +kernel) h0 (by omega) (by omega) (by omega) (by omega) (by omega) (by omega)
          · exact B 30 5 5 6 6 (-2147483648) 2147483647 (by decide +kernel) h0 (by omega) (by omega) (by omega) (by omega) (by omega) (by omega)
          · exact B 30 5 5 7 7 (-2147483648) 2147483647 (by decide +kernel) h0 (by omega) (by omega) (by omega) (by omega) (by omega) (by omega)
  | 31, _ =>
    exact B 31 (-2147483648) 2147483647 (-2147483648) 2147483647 (-2147483648) 2147483647 (by decide +kernel) h0 l1 g1 l2 g2 l3 g3
  | 32, _ =>
    have hc1 : ((xs 1).toInt ≤ (-1)) ∨ (0 ≤ (xs 1).toInt) := by omega
    rcases hc1 with h1 | h1
    · exact B 32 (-2147483648) (-1) (-2147483648) 2147483647 (-2147483648) 2147483647 (by decide +kernel) h0 (by omega) (by omega) (by omega) (by omega) (by omega) (by omega)
    · exact B 32 0 2147483647 (-2147483648) 2147483647 (-2147483648) 2147483647 (by decide +kernel) h0 (by omega) (by omega) (by omega) (by omega) (by omega) (by omega)
  | 33, _ =>
    exact B 33 (-2147483648) 2147483647 (-2147483648) 2147483647 (-2147483648) 2147483647 (by decide +kernel) h0 l1 g1 l2 g2 l3 g3
  | 34, _ =>
    exact B 34 (-2147483648) 2147483647 (-2147483648) 2147483647 (-2147483648) 2147483647 (by decide +kernel) h0 l1 g1 l2 g2 l3 g3
  | 35, _ =>
    exact B 35 (-2147483648) 2147483647 (-2147483648) 2147483647 (-2147483648) 2147483647 (by decide +kernel) h0 l1 g1 l2 g2 l3 g3
  | 36, _ =>
    exact B 36 (-2147483648) 2147483647 (-2147483648) 2147483647 (-2147483648) 2147483647 (by decide +kernel) h0 l1 g1 l2 g2 l3 g3
  | 37, _ =>
    exact B 37 (-2147483648) 2147483647 (-2147483648) 2147483647 (-2147483648) 2147483647 (by decide +kernel) h0 l1 g1 l2 g2 l3 g3
  | 38, _ =>
    exact B 38 (-2147483648) 2147483647 (-2147483648) 2147483647 (-2147483648) 2147483647 (by decide +kernel) h0 l1 g1 l2 g2 l3 g3
  | 39, _ =>
    exact B 39 (-2147483648) 2147483647 (-2147483648) 2147483647 (-2147483648) 2147483647 (by decide +kernel) h0 l1 g1 l2 g2 l3 g3
  | 40, _ =>
    exact B 40 (-2147483648) 2147483647 (-2147483648) 2147483647 (-2147483648) 2147483647 (by decide +kernel) h0 l1 g1 l2 g2 l3 g3
  | 41, _ =>
    exact B 41 (-2147483648) 2147483647 (-2147483648) 2147483647 (-2147483648) 2147483647 (by decide +kernel) h0 l1 g1 l2 g2 l3 g3
  | 42, _ =>
    exact B 42 (-2147483648) 2147483647 (-2147483648) 2147483647 (-2147483648) 2147483647 (by decide +kernel) h0 l1 g1 l2 g2 l3 g3
  | 43, _ =>
    exact B 43 (-2147483648) 2147483647 (-2147483648) 2147483647 (-2147483648) 2147483647 (by decide +kernel) h0 l1 g1 l2 g2 l3 g3
  | 44, _ =>
    exact B 44 (-2147483648) 2147483647 (-2147483648) 2147483647 (-2147483648) 2147483647 (by decide +kernel) h0 l1 g1 l2 g2 l3 g3
  | 45, _ =>
    exact B 45 (-2147483648) 2147483647 (-2147483648) 2147483647 (-2147483648) 2147483647 (by decide +kernel) h0 l1 g1 l2 g2 l3 g3
  | 46, _ =>
    exact B 46 (-2147483648) 2147483647 (-2147483648) 2147483647 (-2147483648) 2147483647 (by decide +kernel) h0 l1 g1 l2 g2 l3 g3
  | 47, _ =>
    exact B 47 (-2147483648) 2147483647 (-2147483648) 2147483647 (-2147483648) 2147483647 (by decide +kernel) h0 l1 g1 l2 g2 l3 g3
  | 48, _ =>
    exact B 48 (-2147483648) 2147483647 (-2147483648) 2147483647 (-2147483648) 2147483647 (by decide +kernel) h0 l1 g1 l2 g2 l3 g3
  | 49, _ =>
    exact B 49 (-2147483648) 2147483647 (-2147483648) 2147483647 (-2147483648) 2147483647 (by decide +kernel) h0 l1 g1 l2 g2 l3 g3
  | 50, _ =>
    exact B 50 (-2147483648) 2147483647 (-2147483648) 2147483647 (-2147483648) 2147483647 (by decide +kernel) h0 l1 g1 l2 g2 l3 g3
  | 51, _ =>
    exact B 51 (-2147483648) 2147483647 (-2147483648) 2147483647 (-2147483648) 2147483647 (by decide +kernel) h0 l1 g1 l2 g2 l3 g3
  | 52, _ =>
    exact B 52 (-2147483648) 2147483647 (-2147483648) 2147483647 (-2147483648) 2147483647 (by decide +kernel) h0 l1 g1 l2 g2 l3 g3
  | 53, _ =>
    exact B 53 (-2147483648) 2147483647 (-2147483648) 2147483647 (-2147483648) 2147483647 (by decide +kernel) h0 l1 g1 l2 g2 l3 g3
  | 54, _ =>
    exact B 54 (-2147483648) 2147483647 (-2147483648) 2147483647 (-2147483648) 2147483647 (by decide +kernel) h0 l1 g1 l2 g2 l3 g3
  | 55, _ =>
    exact B 55 (-2147483648) 2147483647 (-2147483648) 2147483647 (-2147483648) 2147483647 (by decide +kernel) h0 l1 g1 l2 g2 l3 g3
  | 56, _ =>
    exact B 56 (-2147483648) 2147483647 (-2147483648) 2147483647 (-2147483648) 2147483647 (by decide +kernel) h0 l1 g1 l2 g2 l3 g3
  | 57, _ =>
    exact B 57 (-2147483648) 2147483647 (-2147483648) 2147483647 (-2147483648) 2147483647 (by decide +kernel) h0 l1 g1 l2 g2 l3 g3
  | 58, _ =>
    exact B 58 (-2147483648) 2147483647 (-2147483648) 2147483647 (-2147483648) 2147483647 (by decide +kernel) h0 l1 g1 l2 g2 l3 g3
  | 59, _ =>
    exact B 59 (-2147483648) 2147483647 (-2147483648) 2147483647 (-2147483648) 2147483647 (by decide +kernel) h0 l1 g1 l2 g2 l3 g3
  | 60, _ =>
    exact B 60 (-2147483648) 2147483647 (-2147483648) 2147483647 (-2147483648) 2147483647 (by decide +kernel) h0 l1 g1 l2 g2 l3 g3
  | 61, _ =>
    exact B 61 (-2147483648) 2147483647 (-2147483648) 2147483647 (-2147483648) 2147483647 (by decide +kernel) h0 l1 g1 l2 g2 l3 g3
  | 62, _ =>
    exact B 62 (-2147483648) 2147483647 (-2147483648) 2147483647 (-2147483648) 2147483647 (by decide +kernel) h0 l1 g1 l2 g2 l3 g3
  | 63, _ =>
    exact B 63 (-2147483648) 2147483647 (-2147483648) 2147483647 (-2147483648) 2147483647 (by decide +kernel) h0 l1 g1 l2 g2 l3 g3
  | k + 64, hk => exact absurd hk (by omega)
theorem zmask (x : Int32) : ∃ k, k < 64 ∧ x &&& 63 = Int32.ofNat k := pk_andE x (m := 63) 6 (by decide)
theorem zshort {p : Program} {e : Env} {s : State} {m : MethodId} {below : List Frame} {meth : Method} {c : Code} (l : Launch) (hflags : l.flags = flags0) {b L : Nat} {xs : Nat → Int32} (C0 : lw_At p s m meth c b L xs) (sc : List Value) (hlen : sc.length = L) (hsc : ∀ j v, sc[j]? = some v → v = .float j.toUInt32 ∧ j < 4) (h : zok (zev sc (zfree L)) = true) :
    W p l e room_1 s m #[Value.ref b] below meth c s.heap [] 0 0 (lw_Z below #[Value.ref b] s) (entryFrame m ([Value.ref b] : List Value).toArray 9) := by
  refine zgo l hflags C0 xs sc (zfree L) hlen ?_ ?_ h
  · intro j v hj
    obtain ⟨rfl, h4⟩ := hsc j v hj
    show Value.int (xs j.toUInt32.toNat) = .int (xs j)
    have : j.toUInt32.toNat = j := by
      match j, h4 with
      | 0, _ => rfl
      | 1, _ => rfl
      | 2, _ => rfl
      | 3, _ => rfl
    rw [this]
  · intro z
    refine ⟨fun u q hu => ?_, fun f hf => by simp [zfree] at hf⟩
    unfold zfree at hu
    rw [List.getElem?_map] at hu
    cases hr : (List.range L)[u]? with
    | none => rw [hr] at hu; cases hu
    | some r =>
      rw [hr] at hu
      cases hu
      exact ⟨zi32lo (xs u), zi32hi (xs u), fun k hk => by cases hk⟩
/-- YOUR PART: from the entry, for every script of at most 4 ints, the law comes to its end with true ('hflags': the launch's flags, for a law that throws: no stack traces) -/
theorem whole_start {p : Program} {e : Env} {s : State} {m : MethodId} {below : List Frame} {meth : Method} {c : Code} (l : Launch) (hflags : l.flags = flags0) {b L : Nat} {xs : Nat → Int32} (hL : L ≤ 4) (C0 : lw_At p s m meth c b L xs) : W p l e room_1 s m #[Value.ref b] below meth c s.heap [] 0 0 (lw_Z below #[Value.ref b] s) (entryFrame m ([Value.ref b] : List Value).toArray 9) := by
  match L, hL, C0 with
  | 0, _, C0 => exact zgo l hflags C0 xs [] ([], []) rfl (fun j v hj => by simp at hj) (fun z => ⟨fun u q hu => by simp at hu, fun f hf => by simp at hf⟩) zL0
  | 1, _, C0 => exact zshort l hflags C0 _ rfl (fun j v hj => by
      match j, hj with
      | 0, hj => cases hj; exact ⟨rfl, by decide⟩
      | j + 1, hj => simp at hj) zL1
  | 2, _, C0 => exact zshort l hflags C0 _ rfl (fun j v hj => by
      match j, hj with
      | 0, hj => cases hj; exact ⟨rfl, by decide⟩
      | 1, hj => cases hj; exact ⟨rfl, by decide⟩
      | j + 2, hj => simp at hj) zL2
  | 3, _, C0 => exact zshort l hflags C0 _ rfl (fun j v hj => by
      match j, hj with
      | 0, hj => cases hj; exact ⟨rfl, by decide⟩
      | 1, hj => cases hj; exact ⟨rfl, by decide⟩
      | 2, hj => cases hj; exact ⟨rfl, by decide⟩
      | j + 3, hj => simp at hj) zL3
  | 4, _, C0 =>
    obtain ⟨k, hk, h0⟩ := zmask (xs 0)
    exact zcover l hflags C0 k hk h0
  | L + 5, hL, _ => exact absurd hL (by omega)
