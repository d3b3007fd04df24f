/-! ===== frames and locals, method by method ===== -/
def zFL : List (Nat × Nat) := [(2, 81), (1, 61), (0, 40), (0, 40), (3, 102), (2, 81), (0, 40), (0, 40), (3, 102), (1, 61), (3, 102), (1, 61), (3, 102), (1, 61), (3, 105), (2, 82), (1, 61), (2, 81), (0, 40), (2, 81), (0, 40), (0, 40), (3, 102), (2, 81), (0, 40), (3, 102), (0, 40), (2, 81), (0, 40), (3, 104), (2, 82), (2, 81), (1, 40), (3, 83), (2, 62), (3, 83), (4, 128), (0, 40), (3, 107), (0, 40), (1, 61), (0, 40), (1, 61), (1, 63), (0, 40), (2, 86), (1, 61), (0, 40), (0, 40), (1, 64), (0, 40), (0, 40), (0, 40), (5, 150), (4, 128), (7, 201), (0, 40), (6, 179), (0, 40), (1, 61), (0, 40), (1, 61), (5, 155), (4, 130), (0, 40), (0, 40), (0, 40), (0, 40), (2, 82), (3, 107), (2, 82), (0, 40), (0, 40), (0, 40), (0, 40), (1, 62), (0, 40), (0, 40), (1, 62), (1, 62), (0, 40), (0, 40), (1, 61), (4, 130), (1, 62), (0, 40), (1, 62), (1, 64), (5, 155), (4, 130), (1, 61), (0, 40), (1, 61), (1, 62), (4, 130), (1, 61), (0, 40), (5, 153), (7, 201), (3, 83), (7, 201), (0, 40), (0, 40), (2, 82), (0, 40), (5, 122), (4, 102), (1, 40), (3, 81), (2, 60), (1, 40), (1, 40), (3, 81), (3, 81), (0, 40), (1, 61), (0, 40), (0, 40), (6, 177), (5, 152), (0, 40), (4, 130), (1, 63), (0, 40), (8, 222), (4, 131), (3, 107), (2, 85), (0, 40), (1, 63), (2, 85), (0, 40), (1, 65), (0, 40), (7, 201), (1, 60), (0, 40), (9, 250), (0, 40), (8, 223), (2, 85), (7, 201), (2, 81), (8, 223), (7, 201), (8, 221), (7, 201), (8, 222), (7, 201), (8, 222), (7, 201), (10, 274)]
def zFr (i : Nat) : Nat := match zat zFL i with
  | some q => q.1
  | none => 0
def zLo (i : Nat) : Nat := match zat zFL i with
  | some q => q.2
  | none => 0
def zFc (i idx : Nat) : Bool := (zatL zC (zoc i)).all fun e => !Nat.beq e.1 idx || (bif decide (6 ≤ e.2.2.1) then decide (1 ≤ zFr i) && decide (40 ≤ zLo i) else decide (zFr e.2.2.2.1 + 1 ≤ zFr i) && decide (zml e.2.2.2.1 + 19 + zLo e.2.2.2.1 ≤ zLo i))
def zFi (i : Nat) : Instr → Bool
  | .invokestatic idx => zFc i idx
  | .invokespecial idx => zFc i idx
  | .invokevirtual idx => zFc i idx
  | _ => true
set_option maxRecDepth 100000 in
theorem zFR_chk : (List.range (zLaw + 1)).all (fun i => (zil i).all fun q => zFi i q.2) = true := by decide +kernel
theorem zFR_ok {i idx c : Nat} {e : Nat × Nat × Nat × MethodName × String × Nat × Nat × Nat × Nat × Nat × Nat × Nat} (h : zFc i idx = true) (he : zfd2 (zatL zC (zoc i)) idx c = some e) :
    (6 ≤ e.1 → 1 ≤ zFr i ∧ 40 ≤ zLo i) ∧ (¬ 6 ≤ e.1 → zFr e.2.1 + 1 ≤ zFr i ∧ zml e.2.1 + 19 + zLo e.2.1 ≤ zLo i) := by
  have h1 := List.all_eq_true.mp h _ (zfd2_mem he)
  have hb : Nat.beq idx idx = true := Nat.beq_refl idx
  dsimp only at h1
  rw [hb] at h1
  simp only [Bool.not_true, Bool.false_or] at h1
  by_cases g : 6 ≤ e.1
  · rw [decide_eq_true g] at h1
    simp only [cond_true, Bool.and_eq_true, decide_eq_true_eq] at h1
    exact ⟨fun _ => h1, fun g9 => absurd g g9⟩
  · rw [decide_eq_false g] at h1
    simp only [cond_false, Bool.and_eq_true, decide_eq_true_eq] at h1
    exact ⟨fun g9 => absurd g9 g, fun _ => h1⟩
