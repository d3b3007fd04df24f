/-! ===== a new pool ===== -/
section PNW
variable {sc : List Value} {w w' w2 : List zE} {q : Nat}
theorem gro {w : List zE} {q n : Nat} {A O Z : zE} (hn : w.length = n) (hq : w[q]? = some Z) : ((w ++ [A]).set q O).length = n + 1 ∧ ((w ++ [A]).set q O)[q]? = some O ∧ ((w ++ [A]).set q O)[n]? = some A ∧ zFm w ((w ++ [A]).set q O) q 1 := by
  have hlt := (List.getElem?_eq_some_iff.mp hq).1
  refine ⟨by rw [List.length_set, List.length_append, hn]; rfl, zw_s (zw_a hq), zw_o (by omega) (zw_n hn.symm), ?_⟩
  exact zFm_trans zFm_app (zFm_set (by omega) (by omega))
theorem sL_new {l : Nat} (h0 : w[l]? = some (lobj l 0)) (hT : sT w (l + 1) []) (h : ∀ i, i < 6 → sQ w (clsL i) (l + offL i) (newK i) 0 (List.replicate 5 0) []) : sL w l 0 4 2 [] (fun i => newK i) (fun _ => 0) (fun _ => List.replicate 5 0) (fun _ => []) := by
  refine ⟨by omega, h0, hT, rfl, fun i hi => ⟨⟨[], [], rfl, rfl, ?_⟩, h i hi, Int.le_refl _, rfl, rfl, rfl⟩⟩
  have hc : (clsL i = 1 → (i : Int) = 4) ∧ (clsL i = 2 → (i : Int) ≤ 3) ∧ (clsL i = 4 → (i : Int) = 5) := by
    have : i = 0 ∨ i = 1 ∨ i = 2 ∨ i = 3 ∨ i = 4 ∨ i = 5 := by omega
    rcases this with rfl | rfl | rfl | rfl | rfl | rfl <;> decide
  refine ⟨hc, ?_, fun b hb => (by cases hb), ?_, fun b hb => (by cases hb), fun j j0 j4 => ?_⟩
  · show -((0 : Nat) : Int) ≤ (0 : Int) ∧ (0 : Int) ≤ ((0 : Nat) : Int)
    decide
  · show ((0 : Nat) : Int) ≤ (0 : Int)
    decide
  · show 0 ≤ zgi (List.replicate 5 0) j ∧ zgi (List.replicate 5 0) j ≤ 2000 * ((0 : Nat) : Int)
    rw [zgi_rep]
    decide
theorem zp_new {v : Int} (hl : w.length = q + 1) (h0 : w[q]? = some (zob 7 [.null, .null, zj 0, zj 0, zj 0, zj 0, .null, zj 0, .null, .null, .null, zj 0, zj 0, .null, zj 0, .null, zj 0])) :
    ∃ w' c s ow, Zc sc 105 [zp q, .ref 0, zj v] w none w' c s ∧ c ≤ 78 ∧ s ≤ 5865 ∧ zFm w w' q 1 ∧ q + 79 ≤ w'.length ∧ sL w' (q + 1) 0 4 2 [] (fun i => newK i) (fun _ => 0) (fun _ => List.replicate 5 0) (fun _ => []) ∧ sC w' q (v, 0, 4, 2, 0, 0, 0, 0, q + 78) ow (List.replicate 81 0) (List.replicate 81 0) (List.replicate 81 0) (List.replicate 5 0) [] ∧ RO ow [] := by
  obtain ⟨w6, t1, t2, t3, t4, t5, m0, m1, m2, m3, m4, m5⟩ := zc_newLab (sc := sc) (w := w ++ [zob 6 [.null, .null, .null, .null, .null, .null, .null, zj 0]]) (l := q + 1) (by rw [List.length_append, hl]; rfl) (zw_n hl.symm)
  have g6 := zFm_get t3 (zw_a (X := zob 6 [.null, .null, .null, .null, .null, .null, .null, zj 0]) h0) (by omega)
  have L6 : sL w6 (q + 1) 0 4 2 [] (fun i => newK i) (fun _ => 0) (fun _ => List.replicate 5 0) (fun _ => []) := sL_new t4 t5 (fun i hi => by
    have : i = 0 ∨ i = 1 ∨ i = 2 ∨ i = 3 ∨ i = 4 ∨ i = 5 := by omega
    rcases this with rfl | rfl | rfl | rfl | rfl | rfl
    · exact m0
    · exact m1
    · exact m2
    · exact m3
    · exact m4
    · exact m5)
  have f6 : zFm w w6 q 1 := ⟨by have := t3.1; rw [List.length_append] at this; omega, fun b hb h1 => by
    rw [t3.2 b (by rw [List.length_append]; omega) (by omega), List.getElem?_append_left hb]⟩
  have a0 := zw_s (X := zob 7 [zp (q + 1), .null, zj 0, zj 0, zj 0, zj 0, .null, zj 0, .null, .null, .null, zj 0, zj 0, .null, zj 0, .null, zj 0]) g6
  have a1 := zw_s (X := zob 7 [zp (q + 1), .null, zj 0, zj 0, zj 4, zj 0, .null, zj 0, .null, .null, .null, zj 0, zj 0, .null, zj 0, .null, zj 0]) a0
  have a2 := zw_s (X := zob 7 [zp (q + 1), .null, zj 0, zj 0, zj 4, zj 2, .null, zj 0, .null, .null, .null, zj 0, zj 0, .null, zj 0, .null, zj 0]) a1
  generalize e2 : ((w6.set q _).set q _).set q _ = W2 at a2
  have n2 : W2.length = q + 73 := by rw [← e2]; simp only [List.length_set]; omega
  have F2 : zFm w6 W2 q 1 := by rw [← e2]; exact zFm_st (zFm_st (zFm_set (by omega) (by omega)) (by omega) (by omega)) (by omega) (by omega)
  obtain ⟨n3, a3, b3, F3⟩ := gro (A := za (List.replicate (1024 : Int).toNat (0 : Int))) (O := zob 7 [zp (q + 1), .null, zj 0, zj 0, zj 4, zj 2, zp (q + 73), zj 0, .null, .null, .null, zj 0, zj 0, .null, zj 0, .null, zj 0]) n2 a2
  generalize e3 : (W2 ++ [_]).set q _ = W3 at n3 a3 b3 F3
  obtain ⟨n4, a4, b4, F4⟩ := gro (A := za (List.replicate (81 : Int).toNat (0 : Int))) (O := zob 7 [zp (q + 1), .null, zj 0, zj 0, zj 4, zj 2, zp (q + 73), zj 0, zp (q + 74), .null, .null, zj 0, zj 0, .null, zj 0, .null, zj 0]) n3 a3
  generalize e4 : (W3 ++ [_]).set q _ = W4 at n4 a4 b4 F4
  obtain ⟨n5, a5, b5, F5⟩ := gro (A := za (List.replicate (81 : Int).toNat (0 : Int))) (O := zob 7 [zp (q + 1), .null, zj 0, zj 0, zj 4, zj 2, zp (q + 73), zj 0, zp (q + 74), zp (q + 75), .null, zj 0, zj 0, .null, zj 0, .null, zj 0]) n4 a4
  generalize e5 : (W4 ++ [_]).set q _ = W5 at n5 a5 b5 F5
  obtain ⟨n6, a6, b6, F6⟩ := gro (A := za (List.replicate (81 : Int).toNat (0 : Int))) (O := zob 7 [zp (q + 1), .null, zj 0, zj 0, zj 4, zj 2, zp (q + 73), zj 0, zp (q + 74), zp (q + 75), zp (q + 76), zj 0, zj 0, .null, zj 0, .null, zj 0]) n5 a5
  generalize e6 : (W5 ++ [_]).set q _ = W6 at n6 a6 b6 F6
  obtain ⟨n7, a7, b7, F7⟩ := gro (A := za (List.replicate (5 : Int).toNat (0 : Int))) (O := zob 7 [zp (q + 1), .null, zj 0, zj 0, zj 4, zj 2, zp (q + 73), zj 0, zp (q + 74), zp (q + 75), zp (q + 76), zj 0, zj 0, zp (q + 77), zj 0, .null, zj 0]) n6 a6
  generalize e7 : (W6 ++ [_]).set q _ = W7 at n7 a7 b7 F7
  obtain ⟨n8, a8, b8, F8⟩ := gro (A := za (List.replicate (0 : Int).toNat (0 : Int))) (O := zob 7 [zp (q + 1), .null, zj 0, zj 0, zj 4, zj 2, zp (q + 73), zj 0, zp (q + 74), zp (q + 75), zp (q + 76), zj 0, zj 0, zp (q + 77), zj 0, zp (q + 78), zj 0]) n7 a7
  generalize e8 : (W7 ++ [_]).set q _ = W8 at n8 a8 b8 F8
  have F9 : zFm W8 (((W8.set q (zob 7 [zp (q + 1), .null, zj 0, zj 0, zj 4, zj 2, zp (q + 73), zj 0, zp (q + 74), zp (q + 75), zp (q + 76), zj 0, zj 0, zp (q + 77), zj 0, zp (q + 78), zj 1])).set q (zob 7 [zp (q + 1), .ref 0, zj 0, zj 0, zj 4, zj 2, zp (q + 73), zj 0, zp (q + 74), zp (q + 75), zp (q + 76), zj 0, zj 0, zp (q + 77), zj 0, zp (q + 78), zj 1])).set q (pobj q (v, 0, 4, 2, 0, 0, 0, 0, q + 78))) q 1 := zFm_st (zFm_st (zFm_set (by omega) (by omega)) (by omega) (by omega)) (by omega) (by omega)
  have G7 := F8
  have c8 : sC (((W8.set q (zob 7 [zp (q + 1), .null, zj 0, zj 0, zj 4, zj 2, zp (q + 73), zj 0, zp (q + 74), zp (q + 75), zp (q + 76), zj 0, zj 0, zp (q + 77), zj 0, zp (q + 78), zj 1])).set q (zob 7 [zp (q + 1), .ref 0, zj 0, zj 0, zj 4, zj 2, zp (q + 73), zj 0, zp (q + 74), zp (q + 75), zp (q + 76), zj 0, zj 0, zp (q + 77), zj 0, zp (q + 78), zj 1])).set q (pobj q (v, 0, 4, 2, 0, 0, 0, 0, q + 78))) q (v, 0, 4, 2, 0, 0, 0, 0, q + 78) (List.replicate 1024 0) (List.replicate 81 0) (List.replicate 81 0) (List.replicate 81 0) (List.replicate 5 0) [] := by
    have z3 := zFm_get F9 (zFm_get F8 (zFm_get F7 (zFm_get F6 (zFm_get F5 (zFm_get F4 b3 (by omega)) (by omega)) (by omega)) (by omega)) (by omega)) (by omega)
    have z4 := zFm_get F9 (zFm_get F8 (zFm_get F7 (zFm_get F6 (zFm_get F5 b4 (by omega)) (by omega)) (by omega)) (by omega)) (by omega)
    have z5 := zFm_get F9 (zFm_get F8 (zFm_get F7 (zFm_get F6 b5 (by omega)) (by omega)) (by omega)) (by omega)
    have z6 := zFm_get F9 (zFm_get F8 (zFm_get F7 b6 (by omega)) (by omega)) (by omega)
    have z7 := zFm_get F9 (zFm_get F8 b7 (by omega)) (by omega)
    have z8 := zFm_get F9 b8 (by omega)
    exact ⟨zw_s (zw_s (zw_s a8)), z3, z4, z5, z6, z7, z8, Nat.le_refl _, ⟨List.length_replicate .., List.length_replicate .., List.length_replicate .., List.length_replicate .., List.length_replicate ..⟩, by decide⟩
  obtain ⟨w', ow, y1, y2, y3, y4⟩ := zp_clear (sc := sc) c8
  have FW : zFm w6 _ q 1 := zFm_trans F2 (zFm_trans F3 (zFm_trans F4 (zFm_trans F5 (zFm_trans F6 (zFm_trans F7 (zFm_trans F8 F9))))))
  have LW := sL_fm FW (Or.inr (by omega)) L6
  have LZ := sL_ag (zF2_ag y2) LW
  refine ⟨w', _, _, ow, Zc_of rfl rfl (V105_0 ⟨q + 1, hl.symm, _, _, ⟨rfl, rfl⟩, w6, 71, 4585, _, _, t1, ⟨rfl, rfl⟩, _, _, _, _, _, _, _, _, _, _, _, _, _, _, _, _, _, g6, by omega, q + 73, ?_, _, _, ⟨rfl, rfl⟩, by omega, q + 74, ?_, _, _, ⟨rfl, rfl⟩, by omega, q + 75, ?_, _, _, ⟨rfl, rfl⟩, by omega, q + 76, ?_, _, _, ⟨rfl, rfl⟩, by omega, q + 77, ?_, _, _, ⟨rfl, rfl⟩, by omega, q + 78, ?_, _, _, ⟨rfl, rfl⟩, w', ?_, rfl, rfl, rfl, rfl⟩), by decide, by decide, ?_, ?_, LZ, y3, y4⟩
  · rw [e2]; exact n2.symm
  · rw [e2, e3]; exact n3.symm
  · rw [e2, e3, e4]; exact n4.symm
  · rw [e2, e3, e4, e5]; exact n5.symm
  · rw [e2, e3, e4, e5, e6]; exact n6.symm
  · rw [e2, e3, e4, e5, e6, e7]; exact n7.symm
  · rw [e2, e3, e4, e5, e6, e7, e8]; exact y1
  · refine ⟨Nat.le_trans f6.1 (Nat.le_trans FW.1 y2.1), fun b hb h1 => ?_⟩
    have l1 := f6.1
    have l2 := FW.1
    rw [y2.2 b (by omega) (by omega) (by omega), FW.2 b (by omega) h1, f6.2 b hb h1]
  · have l3 := y2.1
    simp only [List.length_set] at l3
    omega
end PNW
