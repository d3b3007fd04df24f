/-! ===== constructors ===== -/
theorem zFm_ap {w w1 : List zE} {a n : Nat} {X : zE} (h : zFm w w1 a n) : zFm w (w1 ++ [X]) a n := zFm_trans h zFm_app
theorem zFm_new {w w0 w1 : List zE} {a n a1 n1 : Nat} (h : zFm w w0 a n) (k : zFm w0 w1 a1 n1) (ha : w.length ≤ a1) : zFm w w1 a n :=
  ⟨Nat.le_trans h.1 k.1, fun b hb ho => by rw [k.2 b (Nat.lt_of_lt_of_le hb h.1) (Or.inl (by omega)), h.2 b hb ho]⟩
section NEW
variable {sc : List Value} {w : List zE} {a m : Nat}
theorem zc_newBlocks {v0 v1 v2 v3 : Value} (hl : w.length = a + 1) (h0 : w[a]? = some (zob 0 [v0, v1, v2, v3, zj 0, zj 0])) : ∃ w', Zc sc 110 [zp a] w none w' 4 324 ∧ w'.length = a + 5 ∧ zFm w w' a 1 ∧ sB w' a [] := by
  refine ⟨_, Zc_of rfl rfl (V110_0 ⟨by omega, a + 1, by omega, 3, 243, ⟨rfl, rfl⟩, _, _, _, _, _, _, h0, by omega, a + 2, (by simp only [List.length_set, List.length_append, List.length_singleton]; omega), 2, 162, ⟨rfl, rfl⟩, by omega, a + 3, (by simp only [List.length_set, List.length_append, List.length_singleton]; omega), 1, 81, ⟨rfl, rfl⟩, by omega, a + 4, (by simp only [List.length_set, List.length_append, List.length_singleton]; omega), 0, 0, ⟨rfl, rfl⟩, rfl, rfl, rfl, rfl⟩), (by simp only [List.length_set, List.length_append, List.length_singleton]; omega), ?_, okB_nil, by decide, ?_, List.replicate 81 0, List.replicate 81 0, List.replicate 81 0, List.replicate 81 0, ?_, ?_, ?_, ?_, ?_⟩
  · exact zFm_st (zFm_ap (zFm_st (zFm_ap (zFm_st (zFm_ap (zFm_st zFm_app (by omega) (by omega))) (by omega) (by omega))) (by omega) (by omega))) (by omega) (by omega)
  · exact zw_s (zw_a (zw_s (zw_a (zw_s (zw_a (zw_s (zw_a h0)))))))
  · exact ⟨⟨rfl, rfl, rfl, rfl⟩, fun k b hk => (by simp at hk), fun b hb => (by cases hb), fun n _ _ _ => zgi_rep _ _⟩
  · exact zw_o (by omega) (zw_a (zw_o (by omega) (zw_a (zw_o (by omega) (zw_a (zw_o (by omega) (zw_n (by omega))))))))
  · exact zw_o (by omega) (zw_a (zw_o (by omega) (zw_a (zw_o (by omega) (zw_n (by simp only [List.length_set, List.length_append, List.length_singleton]; omega))))))
  · exact zw_o (by omega) (zw_a (zw_o (by omega) (zw_n (by simp only [List.length_set, List.length_append, List.length_singleton]; omega))))
  · exact zw_o (by omega) (zw_n (by simp only [List.length_set, List.length_append, List.length_singleton]; omega))
theorem zc_newHoles {v0 v1 : Value} (hl : w.length = a + 1) (h0 : w[a]? = some (zob 3 [v0, v1, zj 0])) : ∃ w', Zc sc 111 [zp a] w none w' 2 256 ∧ w'.length = a + 3 ∧ zFm w w' a 1 ∧ sH w' a [(0, 1024)] := by
  refine ⟨_, Zc_of rfl rfl (V111_0 ⟨by omega, a + 1, by omega, 1, 128, ⟨rfl, rfl⟩, _, _, _, h0, by omega, a + 2, (by simp only [List.length_set, List.length_append, List.length_singleton]; omega), 0, 0, ⟨rfl, rfl⟩, by omega, by rw [List.length_replicate]; omega, rfl, rfl, rfl, rfl⟩), (by simp only [List.length_set, List.length_append, List.length_singleton]; omega), ?_, ?_, by decide, ?_, List.replicate 128 0, zsi (List.replicate 128 0) 0 1024, ?_, ?_, ?_⟩
  · exact zFm_new (zFm_st (zFm_st (zFm_ap (zFm_st zFm_app (by omega) (by omega))) (by omega) (by omega)) (by omega) (by omega)) (zFm_set (a := a + 2) (n := 1) (by omega) (by omega)) (by omega)
  · intro h hh
    rw [List.mem_singleton.mp hh]
    decide
  · exact zw_o (by omega) (zw_s (zw_s (zw_a (zw_s (zw_a h0)))))
  · refine ⟨⟨by rw [List.length_replicate], by rw [zsi_len, List.length_replicate]⟩, fun k h hk => ?_⟩
    cases k with
    | zero => cases hk; exact ⟨zgi_rep _ _, by rw [zgi_set (by omega) (by rw [List.length_replicate]; omega) (by omega)]; rfl⟩
    | succ k => simp at hk
  · exact zw_o (by omega) (zw_o (by omega) (zw_o (by omega) (zw_a (zw_o (by omega) (zw_n (by omega))))))
  · exact zw_s (zw_o (by omega) (zw_o (by omega) (zw_n (by simp only [List.length_set, List.length_append, List.length_singleton]; omega))))
theorem zc_newTrace {v0 v1 v2 : Value} (hl : w.length = a + 1) (h0 : w[a]? = some (zob 5 [v0, v1, v2, zj 0])) : ∃ w', Zc sc 107 [zp a] w none w' 3 450 ∧ w'.length = a + 4 ∧ zFm w w' a 1 ∧ sT w' a [] := by
  refine ⟨_, Zc_of rfl rfl (V107_0 ⟨by omega, a + 1, by omega, 2, 300, ⟨rfl, rfl⟩, _, _, _, _, h0, by omega, a + 2, (by simp only [List.length_set, List.length_append, List.length_singleton]; omega), 1, 150, ⟨rfl, rfl⟩, by omega, a + 3, (by simp only [List.length_set, List.length_append, List.length_singleton]; omega), 0, 0, ⟨rfl, rfl⟩, rfl, rfl, rfl, rfl⟩), (by simp only [List.length_set, List.length_append, List.length_singleton]; omega), ?_, fun d hd => (by cases hd), by decide, ?_, List.replicate 150 0, List.replicate 150 0, List.replicate 150 0, ⟨by rw [List.length_replicate], by rw [List.length_replicate], by rw [List.length_replicate]⟩, fun k d hk => (by simp at hk), ?_, ?_, ?_⟩
  · exact zFm_st (zFm_ap (zFm_st (zFm_ap (zFm_st zFm_app (by omega) (by omega))) (by omega) (by omega))) (by omega) (by omega)
  · exact zw_s (zw_a (zw_s (zw_a (zw_s (zw_a h0)))))
  · exact zw_o (by omega) (zw_a (zw_o (by omega) (zw_a (zw_o (by omega) (zw_n (by omega))))))
  · exact zw_o (by omega) (zw_a (zw_o (by omega) (zw_n (by simp only [List.length_set, List.length_append, List.length_singleton]; omega))))
  · exact zw_o (by omega) (zw_n (by simp only [List.length_set, List.length_append, List.length_singleton]; omega))
theorem zc_newMemory_1 {v0 v1 v7 v8 : Value} {x : Int} (hl : w.length = m + 1) (h0 : w[m]? = some (zob 1 [v0, v1, zj 0, zj 0, zj 0, zj 0, zj 0, v7, v8, zj 0, zj 0, zj 0, zj 0])) : ∃ w', Zc sc 109 [zp m, zj x] w none w' 10 674 ∧ w'.length = m + 11 ∧ zFm w w' m 1 ∧ w'[m]? = some (zob 1 [zp (m + 1), zp (m + 6), zj x, zj 4, zj 2, zj 0, zj 0, zp (m + 9), zp (m + 10), zj 0, zj 0, zj 0, zj 0]) ∧ sB w' (m + 1) [] ∧ sH w' (m + 6) [(0, 1024)] ∧ w'[m + 9]? = some (za (List.replicate 5 0)) ∧ w'[m + 10]? = some (za (List.replicate 80 0)) := by
  obtain ⟨w1, z1, z2, z3, z4⟩ := zc_newBlocks (sc := sc) (w := w ++ [zob 0 [.null, .null, .null, .null, zj 0, zj 0]]) (a := m + 1) (by simp only [List.length_set, List.length_append, List.length_singleton]; omega) (zw_n (by omega))
  have g1 := zFm_get z3 (zw_a h0) (by omega)
  obtain ⟨w2, y1, y2, y3, y4⟩ := zc_newHoles (sc := sc) (w := w1.set m (zob 1 [zp (m + 1), v1, zj 0, zj 0, zj 0, zj 0, zj 0, v7, v8, zj 0, zj 0, zj 0, zj 0]) ++ [zob 3 [.null, .null, zj 0]]) (a := m + 6) (by simp only [List.length_set, List.length_append, List.length_singleton]; omega) (zw_n (by simp only [List.length_set, List.length_append, List.length_singleton]; omega))
  have g2 := zFm_get y3 (zw_a (zw_s (X := zob 1 [zp (m + 1), v1, zj 0, zj 0, zj 0, zj 0, zj 0, v7, v8, zj 0, zj 0, zj 0, zj 0]) g1)) (by omega)
  have f1 : zFm w w2 m 1 := zFm_new (zFm_ap (zFm_st (zFm_new zFm_app z3 (by omega)) (by omega) (by omega))) y3 (by omega)
  have b1 : sB w2 (m + 1) [] := sB_fm y3 (by omega) (sB_fm (a := m) (n := 1) (zFm_ap (zFm_set (by omega) (by omega))) (by omega) z4)
  refine ⟨_, Zc_of rfl rfl (V109_0_1 ⟨m + 1, by omega, 9, 668, ⟨rfl, rfl⟩, w1, 4, 324, 5, 344, z1, ⟨rfl, rfl⟩, _, _, _, _, _, _, _, _, _, _, _, _, _, g1, m + 6, (by simp only [List.length_set, List.length_append, List.length_singleton]; omega), 4, 341, ⟨rfl, rfl⟩, w2, 2, 256, 2, 85, y1, ⟨rfl, rfl⟩, _, _, _, _, _, _, _, _, _, _, _, _, _, g2, by omega, m + 9, (by simp only [List.length_set, List.length_append, List.length_singleton]; omega), 1, 80, ⟨rfl, rfl⟩, by omega, m + 10, (by simp only [List.length_set, List.length_append, List.length_singleton]; omega), 0, 0, ⟨rfl, rfl⟩, rfl, rfl, rfl, rfl⟩), (by simp only [List.length_set, List.length_append, List.length_singleton]; omega), ?_, ?_, ?_, ?_, ?_, ?_⟩
  · exact zFm_st (zFm_st (zFm_ap (zFm_st (zFm_ap (zFm_st (zFm_st (zFm_st f1 (by omega) (by omega)) (by omega) (by omega)) (by omega) (by omega))) (by omega) (by omega))) (by omega) (by omega)) (by omega) (by omega)
  · exact zw_s (zw_s (zw_a (zw_s (zw_a (zw_s (zw_s (zw_s g2)))))))
  · exact sB_fm (a := m) (n := 1) (zFm_st (zFm_st (zFm_ap (zFm_st (zFm_ap (zFm_st (zFm_st (zFm_set (by omega) (by omega)) (by omega) (by omega)) (by omega) (by omega))) (by omega) (by omega))) (by omega) (by omega)) (by omega) (by omega)) (by omega) b1
  · exact sH_fm (a := m) (n := 1) (zFm_st (zFm_st (zFm_ap (zFm_st (zFm_ap (zFm_st (zFm_st (zFm_set (by omega) (by omega)) (by omega) (by omega)) (by omega) (by omega))) (by omega) (by omega))) (by omega) (by omega)) (by omega) (by omega)) (by omega) y4
  · exact zw_o (by omega) (zw_o (by omega) (zw_a (zw_o (by omega) (zw_n (by simp only [List.length_set, List.length_append, List.length_singleton]; omega)))))
  · exact zw_o (by omega) (zw_o (by omega) (zw_n (by simp only [List.length_set, List.length_append, List.length_singleton]; omega)))
theorem zc_newMemory_2 {v0 v1 v7 v8 : Value} {x : Int} (hl : w.length = m + 1) (h0 : w[m]? = some (zob 2 [v0, v1, zj 0, zj 0, zj 0, zj 0, zj 0, v7, v8, zj 0, zj 0, zj 0, zj 0])) : ∃ w', Zc sc 109 [zp m, zj x] w none w' 10 674 ∧ w'.length = m + 11 ∧ zFm w w' m 1 ∧ w'[m]? = some (zob 2 [zp (m + 1), zp (m + 6), zj x, zj 4, zj 2, zj 0, zj 0, zp (m + 9), zp (m + 10), zj 0, zj 0, zj 0, zj 0]) ∧ sB w' (m + 1) [] ∧ sH w' (m + 6) [(0, 1024)] ∧ w'[m + 9]? = some (za (List.replicate 5 0)) ∧ w'[m + 10]? = some (za (List.replicate 80 0)) := by
  obtain ⟨w1, z1, z2, z3, z4⟩ := zc_newBlocks (sc := sc) (w := w ++ [zob 0 [.null, .null, .null, .null, zj 0, zj 0]]) (a := m + 1) (by simp only [List.length_set, List.length_append, List.length_singleton]; omega) (zw_n (by omega))
  have g1 := zFm_get z3 (zw_a h0) (by omega)
  obtain ⟨w2, y1, y2, y3, y4⟩ := zc_newHoles (sc := sc) (w := w1.set m (zob 2 [zp (m + 1), v1, zj 0, zj 0, zj 0, zj 0, zj 0, v7, v8, zj 0, zj 0, zj 0, zj 0]) ++ [zob 3 [.null, .null, zj 0]]) (a := m + 6) (by simp only [List.length_set, List.length_append, List.length_singleton]; omega) (zw_n (by simp only [List.length_set, List.length_append, List.length_singleton]; omega))
  have g2 := zFm_get y3 (zw_a (zw_s (X := zob 2 [zp (m + 1), v1, zj 0, zj 0, zj 0, zj 0, zj 0, v7, v8, zj 0, zj 0, zj 0, zj 0]) g1)) (by omega)
  have f1 : zFm w w2 m 1 := zFm_new (zFm_ap (zFm_st (zFm_new zFm_app z3 (by omega)) (by omega) (by omega))) y3 (by omega)
  have b1 : sB w2 (m + 1) [] := sB_fm y3 (by omega) (sB_fm (a := m) (n := 1) (zFm_ap (zFm_set (by omega) (by omega))) (by omega) z4)
  refine ⟨_, Zc_of rfl rfl (V109_0_2 ⟨m + 1, by omega, 9, 668, ⟨rfl, rfl⟩, w1, 4, 324, 5, 344, z1, ⟨rfl, rfl⟩, _, _, _, _, _, _, _, _, _, _, _, _, _, g1, m + 6, (by simp only [List.length_set, List.length_append, List.length_singleton]; omega), 4, 341, ⟨rfl, rfl⟩, w2, 2, 256, 2, 85, y1, ⟨rfl, rfl⟩, _, _, _, _, _, _, _, _, _, _, _, _, _, g2, by omega, m + 9, (by simp only [List.length_set, List.length_append, List.length_singleton]; omega), 1, 80, ⟨rfl, rfl⟩, by omega, m + 10, (by simp only [List.length_set, List.length_append, List.length_singleton]; omega), 0, 0, ⟨rfl, rfl⟩, rfl, rfl, rfl, rfl⟩), (by simp only [List.length_set, List.length_append, List.length_singleton]; omega), ?_, ?_, ?_, ?_, ?_, ?_⟩
  · exact zFm_st (zFm_st (zFm_ap (zFm_st (zFm_ap (zFm_st (zFm_st (zFm_st f1 (by omega) (by omega)) (by omega) (by omega)) (by omega) (by omega))) (by omega) (by omega))) (by omega) (by omega)) (by omega) (by omega)
  · exact zw_s (zw_s (zw_a (zw_s (zw_a (zw_s (zw_s (zw_s g2)))))))
  · exact sB_fm (a := m) (n := 1) (zFm_st (zFm_st (zFm_ap (zFm_st (zFm_ap (zFm_st (zFm_st (zFm_set (by omega) (by omega)) (by omega) (by omega)) (by omega) (by omega))) (by omega) (by omega))) (by omega) (by omega)) (by omega) (by omega)) (by omega) b1
  · exact sH_fm (a := m) (n := 1) (zFm_st (zFm_st (zFm_ap (zFm_st (zFm_ap (zFm_st (zFm_st (zFm_set (by omega) (by omega)) (by omega) (by omega)) (by omega) (by omega))) (by omega) (by omega))) (by omega) (by omega)) (by omega) (by omega)) (by omega) y4
  · exact zw_o (by omega) (zw_o (by omega) (zw_a (zw_o (by omega) (zw_n (by simp only [List.length_set, List.length_append, List.length_singleton]; omega)))))
  · exact zw_o (by omega) (zw_o (by omega) (zw_n (by simp only [List.length_set, List.length_append, List.length_singleton]; omega)))
theorem zc_newMemory_4 {v0 v1 v7 v8 v13 : Value} {x : Int} (hl : w.length = m + 1) (h0 : w[m]? = some (zob 4 [v0, v1, zj 0, zj 0, zj 0, zj 0, zj 0, v7, v8, zj 0, zj 0, zj 0, zj 0, v13])) : ∃ w', Zc sc 109 [zp m, zj x] w none w' 10 674 ∧ w'.length = m + 11 ∧ zFm w w' m 1 ∧ w'[m]? = some (zob 4 [zp (m + 1), zp (m + 6), zj x, zj 4, zj 2, zj 0, zj 0, zp (m + 9), zp (m + 10), zj 0, zj 0, zj 0, zj 0, v13]) ∧ sB w' (m + 1) [] ∧ sH w' (m + 6) [(0, 1024)] ∧ w'[m + 9]? = some (za (List.replicate 5 0)) ∧ w'[m + 10]? = some (za (List.replicate 80 0)) := by
  obtain ⟨w1, z1, z2, z3, z4⟩ := zc_newBlocks (sc := sc) (w := w ++ [zob 0 [.null, .null, .null, .null, zj 0, zj 0]]) (a := m + 1) (by simp only [List.length_set, List.length_append, List.length_singleton]; omega) (zw_n (by omega))
  have g1 := zFm_get z3 (zw_a h0) (by omega)
  obtain ⟨w2, y1, y2, y3, y4⟩ := zc_newHoles (sc := sc) (w := w1.set m (zob 4 [zp (m + 1), v1, zj 0, zj 0, zj 0, zj 0, zj 0, v7, v8, zj 0, zj 0, zj 0, zj 0, v13]) ++ [zob 3 [.null, .null, zj 0]]) (a := m + 6) (by simp only [List.length_set, List.length_append, List.length_singleton]; omega) (zw_n (by simp only [List.length_set, List.length_append, List.length_singleton]; omega))
  have g2 := zFm_get y3 (zw_a (zw_s (X := zob 4 [zp (m + 1), v1, zj 0, zj 0, zj 0, zj 0, zj 0, v7, v8, zj 0, zj 0, zj 0, zj 0, v13]) g1)) (by omega)
  have f1 : zFm w w2 m 1 := zFm_new (zFm_ap (zFm_st (zFm_new zFm_app z3 (by omega)) (by omega) (by omega))) y3 (by omega)
  have b1 : sB w2 (m + 1) [] := sB_fm y3 (by omega) (sB_fm (a := m) (n := 1) (zFm_ap (zFm_set (by omega) (by omega))) (by omega) z4)
  refine ⟨_, Zc_of rfl rfl (V109_0_4 ⟨m + 1, by omega, 9, 668, ⟨rfl, rfl⟩, w1, 4, 324, 5, 344, z1, ⟨rfl, rfl⟩, _, _, _, _, _, _, _, _, _, _, _, _, _, _, g1, m + 6, (by simp only [List.length_set, List.length_append, List.length_singleton]; omega), 4, 341, ⟨rfl, rfl⟩, w2, 2, 256, 2, 85, y1, ⟨rfl, rfl⟩, _, _, _, _, _, _, _, _, _, _, _, _, _, _, g2, by omega, m + 9, (by simp only [List.length_set, List.length_append, List.length_singleton]; omega), 1, 80, ⟨rfl, rfl⟩, by omega, m + 10, (by simp only [List.length_set, List.length_append, List.length_singleton]; omega), 0, 0, ⟨rfl, rfl⟩, rfl, rfl, rfl, rfl⟩), (by simp only [List.length_set, List.length_append, List.length_singleton]; omega), ?_, ?_, ?_, ?_, ?_, ?_⟩
  · exact zFm_st (zFm_st (zFm_ap (zFm_st (zFm_ap (zFm_st (zFm_st (zFm_st f1 (by omega) (by omega)) (by omega) (by omega)) (by omega) (by omega))) (by omega) (by omega))) (by omega) (by omega)) (by omega) (by omega)
  · exact zw_s (zw_s (zw_a (zw_s (zw_a (zw_s (zw_s (zw_s g2)))))))
  · exact sB_fm (a := m) (n := 1) (zFm_st (zFm_st (zFm_ap (zFm_st (zFm_ap (zFm_st (zFm_st (zFm_set (by omega) (by omega)) (by omega) (by omega)) (by omega) (by omega))) (by omega) (by omega))) (by omega) (by omega)) (by omega) (by omega)) (by omega) b1
  · exact sH_fm (a := m) (n := 1) (zFm_st (zFm_st (zFm_ap (zFm_st (zFm_ap (zFm_st (zFm_st (zFm_set (by omega) (by omega)) (by omega) (by omega)) (by omega) (by omega))) (by omega) (by omega))) (by omega) (by omega)) (by omega) (by omega)) (by omega) y4
  · exact zw_o (by omega) (zw_o (by omega) (zw_a (zw_o (by omega) (zw_n (by simp only [List.length_set, List.length_append, List.length_singleton]; omega)))))
  · exact zw_o (by omega) (zw_o (by omega) (zw_n (by simp only [List.length_set, List.length_append, List.length_singleton]; omega)))
def newK (x : Int) : mk_T := (x, 4, 2, 0, 0, 0, 0, List.replicate 80 0)
theorem okK_new {x : Int} (h : 0 ≤ x ∧ x ≤ 5) : okK (newK x) := by
  refine ⟨h, Or.inr (Or.inr (Or.inl rfl)), ⟨by show (0 : Int) ≤ 2; decide, by show (2 : Int) ≤ 8; decide⟩, ⟨Int.le_refl _, by show (0 : Int) ≤ 80; decide⟩, ⟨by show (0 : Int) ≤ 0 + 200; decide, by show (0 : Int) ≤ 200; decide⟩, ⟨Int.le_refl _, by show (0 : Int) ≤ 1024; decide⟩, ⟨Int.le_refl _, by show (0 : Int) ≤ 150; decide⟩, by show (List.replicate 80 (0 : Int)).length = 80; rw [List.length_replicate], fun i => ?_⟩
  show 0 ≤ zgi (List.replicate 80 0) i + 200 ∧ zgi (List.replicate 80 0) i ≤ 200
  rw [zgi_rep]
  decide
theorem holF_new {c : Nat} (hc : c = 1 ∨ c = 2 ∨ c = 4) : holF c [] = [(0, 1024)] := by
  rcases hc with rfl | rfl | rfl
  · decide +kernel
  · decide +kernel
  · decide +kernel
theorem pgF_new : pgF [] = List.replicate 8 0 := by decide +kernel
theorem zc_newFits {v0 v1 v7 v8 : Value} {x : Int} (hx : 0 ≤ x ∧ x ≤ 5) (hl : w.length = m + 1) (h0 : w[m]? = some (zob 2 [v0, v1, zj 0, zj 0, zj 0, zj 0, zj 0, v7, v8, zj 0, zj 0, zj 0, zj 0])) : ∃ w', Zc sc 108 [zp m, zj x] w none w' 10 674 ∧ w'.length = m + 11 ∧ zFm w w' m 1 ∧ sQ w' 2 m (newK x) 0 (List.replicate 5 0) [] := by
  obtain ⟨w1, z1, z2, z3, z4, z5, z6, z7, z8⟩ := zc_newMemory_2 (sc := sc) (x := x) hl h0
  exact ⟨w1, Zc_of rfl rfl (V108_0 ⟨w1, 10, 674, 0, 0, z1, ⟨rfl, rfl⟩, rfl, rfl, rfl, rfl⟩), z2, z3, by decide, okK_new hx, by decide, trivial, 0, by decide, z4, z5, by rw [holF_new (by omega)]; exact z6, z7, z8, fun e => absurd e (by decide)⟩
theorem zc_newBuddies {v0 v1 v7 v8 : Value} (hl : w.length = m + 1) (h0 : w[m]? = some (zob 1 [v0, v1, zj 0, zj 0, zj 0, zj 0, zj 0, v7, v8, zj 0, zj 0, zj 0, zj 0])) : ∃ w', Zc sc 112 [zp m] w none w' 10 674 ∧ w'.length = m + 11 ∧ zFm w w' m 1 ∧ sQ w' 1 m (newK 4) 0 (List.replicate 5 0) [] := by
  obtain ⟨w1, z1, z2, z3, z4, z5, z6, z7, z8⟩ := zc_newMemory_1 (sc := sc) (x := 4) hl h0
  exact ⟨w1, Zc_of rfl rfl (V112_0 ⟨w1, 10, 674, 0, 0, z1, ⟨rfl, rfl⟩, rfl, rfl, rfl, rfl⟩), z2, z3, by decide, okK_new (by omega), by decide, fun b hb => (by cases hb), 0, by decide, z4, z5, by rw [holF_new (by omega)]; exact z6, z7, z8, fun e => absurd e (by decide)⟩
theorem zc_newSlabs {v0 v1 v7 v8 v13 : Value} (hl : w.length = m + 1) (h0 : w[m]? = some (zob 4 [v0, v1, zj 0, zj 0, zj 0, zj 0, zj 0, v7, v8, zj 0, zj 0, zj 0, zj 0, v13])) : ∃ w', Zc sc 113 [zp m] w none w' 11 682 ∧ w'.length = m + 12 ∧ zFm w w' m 1 ∧ sQ w' 4 m (newK 5) 0 (List.replicate 5 0) [] := by
  obtain ⟨w1, z1, z2, z3, z4, z5, z6, z7, z8⟩ := zc_newMemory_4 (sc := sc) (x := 5) hl h0
  have f2 : zFm w1 ((w1 ++ [za (List.replicate 8 0)]).set m (zob 4 [zp (m + 1), zp (m + 6), zj 5, zj 4, zj 2, zj 0, zj 0, zp (m + 9), zp (m + 10), zj 0, zj 0, zj 0, zj 0, zp (m + 11)])) m 1 := zFm_st zFm_app (by omega) (by omega)
  refine ⟨_, Zc_of rfl rfl (V113_0 ⟨w1, 10, 674, 1, 8, z1, ⟨rfl, rfl⟩, by omega, m + 11, by omega, 0, 0, ⟨rfl, rfl⟩, _, _, _, _, _, _, _, _, _, _, _, _, _, _, z4, rfl, rfl, rfl, rfl⟩), (by simp only [List.length_set, List.length_append, List.length_singleton]; omega), zFm_trans z3 f2, by decide, okK_new (by omega), by decide, ⟨fun b hb => (by cases hb), fun b hb => (by cases hb)⟩, 0, by decide, zw_s (zw_a z4), sB_fm f2 (by omega) z5, by rw [holF_new (by omega)]; exact sH_fm f2 (by omega) z6, zFm_get f2 z7 (by omega), zFm_get f2 z8 (by omega), fun e => ?_⟩
  rw [pgF_new]
  exact zw_o (by omega) (zw_n (by omega))
def lobj (l : Nat) (wy : Int) : zE := zob 6 [zp (l + 1), zp (l + 5), zp (l + 16), zp (l + 27), zp (l + 38), zp (l + 49), zp (l + 60), zj wy]
theorem zc_newLab {l : Nat} {v0 v1 v2 v3 v4 v5 v6 : Value} (hl : w.length = l + 1) (h0 : w[l]? = some (zob 6 [v0, v1, v2, v3, v4, v5, v6, zj 0])) : ∃ w', Zc sc 106 [zp l] w none w' 71 4585 ∧ w'.length = l + 72 ∧ zFm w w' l 1 ∧ w'[l]? = some (lobj l 0) ∧ sT w' (l + 1) [] ∧ sQ w' 2 (l + 5) (newK 0) 0 (List.replicate 5 0) [] ∧ sQ w' 2 (l + 16) (newK 1) 0 (List.replicate 5 0) [] ∧ sQ w' 2 (l + 27) (newK 2) 0 (List.replicate 5 0) [] ∧ sQ w' 2 (l + 38) (newK 3) 0 (List.replicate 5 0) [] ∧ sQ w' 1 (l + 49) (newK 4) 0 (List.replicate 5 0) [] ∧ sQ w' 4 (l + 60) (newK 5) 0 (List.replicate 5 0) [] := by
  obtain ⟨w0, t1, t2, t3, T⟩ := zc_newTrace (sc := sc) (w := w ++ [zob 5 [.null, .null, .null, zj 0]]) (a := l + 1) (by simp only [List.length_set, List.length_append, List.length_singleton]; omega) (zw_n (by omega))
  have g0 := zFm_get t3 (zw_a h0) (by omega)
  have F0 : zFm w w0 l 1 := zFm_new zFm_app t3 (by omega)
  obtain ⟨w1, y1, len1, fr1, M1⟩ := zc_newFits (sc := sc) (w := w0.set l (zob 6 [zp (l + 1), v1, v2, v3, v4, v5, v6, zj 0]) ++ [zob 2 [.null, .null, zj 0, zj 0, zj 0, zj 0, zj 0, .null, .null, zj 0, zj 0, zj 0, zj 0]]) (m := l + 5) (x := 0) (by omega) (by simp only [List.length_set, List.length_append, List.length_singleton]; omega) (zw_n (by simp only [List.length_set, List.length_append, List.length_singleton]; omega))
  have g1 := zFm_get fr1 (zw_a (zw_s (X := zob 6 [zp (l + 1), v1, v2, v3, v4, v5, v6, zj 0]) g0)) (by omega)
  have e1 : zFm w0 w1 l 1 := zFm_new (zFm_ap (zFm_set (by omega) (by omega))) fr1 (by omega)
  replace T := sT_fm e1 (by omega) T
  obtain ⟨w2, y2, len2, fr2, M2⟩ := zc_newFits (sc := sc) (w := w1.set l (zob 6 [zp (l + 1), zp (l + 5), v2, v3, v4, v5, v6, zj 0]) ++ [zob 2 [.null, .null, zj 0, zj 0, zj 0, zj 0, zj 0, .null, .null, zj 0, zj 0, zj 0, zj 0]]) (m := l + 16) (x := 1) (by omega) (by simp only [List.length_set, List.length_append, List.length_singleton]; omega) (zw_n (by simp only [List.length_set, List.length_append, List.length_singleton]; omega))
  have g2 := zFm_get fr2 (zw_a (zw_s (X := zob 6 [zp (l + 1), zp (l + 5), v2, v3, v4, v5, v6, zj 0]) g1)) (by omega)
  have e2 : zFm w1 w2 l 1 := zFm_new (zFm_ap (zFm_set (by omega) (by omega))) fr2 (by omega)
  replace T := sT_fm e2 (by omega) T
  replace M1 := sQ_fm e2 (by have := msz_ge 2; have := msz_ge 1; have := msz_ge 4; simp only [msz]; omega) M1
  obtain ⟨w3, y3, len3, fr3, M3⟩ := zc_newFits (sc := sc) (w := w2.set l (zob 6 [zp (l + 1), zp (l + 5), zp (l + 16), v3, v4, v5, v6, zj 0]) ++ [zob 2 [.null, .null, zj 0, zj 0, zj 0, zj 0, zj 0, .null, .null, zj 0, zj 0, zj 0, zj 0]]) (m := l + 27) (x := 2) (by omega) (by simp only [List.length_set, List.length_append, List.length_singleton]; omega) (zw_n (by simp only [List.length_set, List.length_append, List.length_singleton]; omega))
  have g3 := zFm_get fr3 (zw_a (zw_s (X := zob 6 [zp (l + 1), zp (l + 5), zp (l + 16), v3, v4, v5, v6, zj 0]) g2)) (by omega)
  have e3 : zFm w2 w3 l 1 := zFm_new (zFm_ap (zFm_set (by omega) (by omega))) fr3 (by omega)
  replace T := sT_fm e3 (by omega) T
  replace M1 := sQ_fm e3 (by have := msz_ge 2; have := msz_ge 1; have := msz_ge 4; simp only [msz]; omega) M1
  replace M2 := sQ_fm e3 (by have := msz_ge 2; have := msz_ge 1; have := msz_ge 4; simp only [msz]; omega) M2
  obtain ⟨w4, y4, len4, fr4, M4⟩ := zc_newFits (sc := sc) (w := w3.set l (zob 6 [zp (l + 1), zp (l + 5), zp (l + 16), zp (l + 27), v4, v5, v6, zj 0]) ++ [zob 2 [.null, .null, zj 0, zj 0, zj 0, zj 0, zj 0, .null, .null, zj 0, zj 0, zj 0, zj 0]]) (m := l + 38) (x := 3) (by omega) (by simp only [List.length_set, List.length_append, List.length_singleton]; omega) (zw_n (by simp only [List.length_set, List.length_append, List.length_singleton]; omega))
  have g4 := zFm_get fr4 (zw_a (zw_s (X := zob 6 [zp (l + 1), zp (l + 5), zp (l + 16), zp (l + 27), v4, v5, v6, zj 0]) g3)) (by omega)
  have e4 : zFm w3 w4 l 1 := zFm_new (zFm_ap (zFm_set (by omega) (by omega))) fr4 (by omega)
  replace T := sT_fm e4 (by omega) T
  replace M1 := sQ_fm e4 (by have := msz_ge 2; have := msz_ge 1; have := msz_ge 4; simp only [msz]; omega) M1
  replace M2 := sQ_fm e4 (by have := msz_ge 2; have := msz_ge 1; have := msz_ge 4; simp only [msz]; omega) M2
  replace M3 := sQ_fm e4 (by have := msz_ge 2; have := msz_ge 1; have := msz_ge 4; simp only [msz]; omega) M3
  obtain ⟨w5, y5, len5, fr5, M5⟩ := zc_newBuddies (sc := sc) (w := w4.set l (zob 6 [zp (l + 1), zp (l + 5), zp (l + 16), zp (l + 27), zp (l + 38), v5, v6, zj 0]) ++ [zob 1 [.null, .null, zj 0, zj 0, zj 0, zj 0, zj 0, .null, .null, zj 0, zj 0, zj 0, zj 0]]) (m := l + 49) (by simp only [List.length_set, List.length_append, List.length_singleton]; omega) (zw_n (by simp only [List.length_set, List.length_append, List.length_singleton]; omega))
  have g5 := zFm_get fr5 (zw_a (zw_s (X := zob 6 [zp (l + 1), zp (l + 5), zp (l + 16), zp (l + 27), zp (l + 38), v5, v6, zj 0]) g4)) (by omega)
  have e5 : zFm w4 w5 l 1 := zFm_new (zFm_ap (zFm_set (by omega) (by omega))) fr5 (by omega)
  replace T := sT_fm e5 (by omega) T
  replace M1 := sQ_fm e5 (by have := msz_ge 2; have := msz_ge 1; have := msz_ge 4; simp only [msz]; omega) M1
  replace M2 := sQ_fm e5 (by have := msz_ge 2; have := msz_ge 1; have := msz_ge 4; simp only [msz]; omega) M2
  replace M3 := sQ_fm e5 (by have := msz_ge 2; have := msz_ge 1; have := msz_ge 4; simp only [msz]; omega) M3
  replace M4 := sQ_fm e5 (by have := msz_ge 2; have := msz_ge 1; have := msz_ge 4; simp only [msz]; omega) M4
  obtain ⟨w6, y6, len6, fr6, M6⟩ := zc_newSlabs (sc := sc) (w := w5.set l (zob 6 [zp (l + 1), zp (l + 5), zp (l + 16), zp (l + 27), zp (l + 38), zp (l + 49), v6, zj 0]) ++ [zob 4 [.null, .null, zj 0, zj 0, zj 0, zj 0, zj 0, .null, .null, zj 0, zj 0, zj 0, zj 0, .null]]) (m := l + 60) (by simp only [List.length_set, List.length_append, List.length_singleton]; omega) (zw_n (by simp only [List.length_set, List.length_append, List.length_singleton]; omega))
  have g6 := zFm_get fr6 (zw_a (zw_s (X := zob 6 [zp (l + 1), zp (l + 5), zp (l + 16), zp (l + 27), zp (l + 38), zp (l + 49), v6, zj 0]) g5)) (by omega)
  have e6 : zFm w5 w6 l 1 := zFm_new (zFm_ap (zFm_set (by omega) (by omega))) fr6 (by omega)
  replace T := sT_fm e6 (by omega) T
  replace M1 := sQ_fm e6 (by have := msz_ge 2; have := msz_ge 1; have := msz_ge 4; simp only [msz]; omega) M1
  replace M2 := sQ_fm e6 (by have := msz_ge 2; have := msz_ge 1; have := msz_ge 4; simp only [msz]; omega) M2
  replace M3 := sQ_fm e6 (by have := msz_ge 2; have := msz_ge 1; have := msz_ge 4; simp only [msz]; omega) M3
  replace M4 := sQ_fm e6 (by have := msz_ge 2; have := msz_ge 1; have := msz_ge 4; simp only [msz]; omega) M4
  replace M5 := sQ_fm e6 (by have := msz_ge 2; have := msz_ge 1; have := msz_ge 4; simp only [msz]; omega) M5
  have ef : zFm w6 ((w6.set l (lobj l 0)).set l (lobj l 0)) l 1 := zFm_st (zFm_set (by omega) (by omega)) (by omega) (by omega)
  replace T := sT_fm ef (by omega) T
  replace M1 := sQ_fm ef (by have := msz_ge 2; have := msz_ge 1; have := msz_ge 4; simp only [msz]; omega) M1
  replace M2 := sQ_fm ef (by have := msz_ge 2; have := msz_ge 1; have := msz_ge 4; simp only [msz]; omega) M2
  replace M3 := sQ_fm ef (by have := msz_ge 2; have := msz_ge 1; have := msz_ge 4; simp only [msz]; omega) M3
  replace M4 := sQ_fm ef (by have := msz_ge 2; have := msz_ge 1; have := msz_ge 4; simp only [msz]; omega) M4
  replace M5 := sQ_fm ef (by have := msz_ge 2; have := msz_ge 1; have := msz_ge 4; simp only [msz]; omega) M5
  replace M6 := sQ_fm ef (by have := msz_ge 2; have := msz_ge 1; have := msz_ge 4; simp only [msz]; omega) M6
  exact ⟨_, Zc_of rfl rfl (V106_0 ⟨l + 1, by omega, 70, 4581, ⟨rfl, rfl⟩, w0, 3, 450, 67, 4131, t1, ⟨rfl, rfl⟩, _, _, _, _, _, _, _, _, g0, l + 5, (by simp only [List.length_set, List.length_append, List.length_singleton]; omega), 66, 4118, ⟨rfl, rfl⟩, w1, 10, 674, 56, 3444, y1, ⟨rfl, rfl⟩, _, _, _, _, _, _, _, _, g1, l + 16, (by simp only [List.length_set, List.length_append, List.length_singleton]; omega), 55, 3431, ⟨rfl, rfl⟩, w2, 10, 674, 45, 2757, y2, ⟨rfl, rfl⟩, _, _, _, _, _, _, _, _, g2, l + 27, (by simp only [List.length_set, List.length_append, List.length_singleton]; omega), 44, 2744, ⟨rfl, rfl⟩, w3, 10, 674, 34, 2070, y3, ⟨rfl, rfl⟩, _, _, _, _, _, _, _, _, g3, l + 38, (by simp only [List.length_set, List.length_append, List.length_singleton]; omega), 33, 2057, ⟨rfl, rfl⟩, w4, 10, 674, 23, 1383, y4, ⟨rfl, rfl⟩, _, _, _, _, _, _, _, _, g4, l + 49, (by simp only [List.length_set, List.length_append, List.length_singleton]; omega), 22, 1370, ⟨rfl, rfl⟩, w5, 10, 674, 12, 696, y5, ⟨rfl, rfl⟩, _, _, _, _, _, _, _, _, g5, l + 60, (by simp only [List.length_set, List.length_append, List.length_singleton]; omega), 11, 682, ⟨rfl, rfl⟩, w6, 11, 682, 0, 0, y6, ⟨rfl, rfl⟩, _, _, _, _, _, _, _, _, g6, rfl, rfl, rfl, rfl⟩), (by simp only [List.length_set, List.length_append, List.length_singleton]; omega), zFm_trans (zFm_trans (zFm_trans (zFm_trans (zFm_trans (zFm_trans (zFm_trans F0 e1) e2) e3) e4) e5) e6) ef, zw_s (zw_s g6), T, M1, M2, M3, M4, M5, M6⟩
end NEW
