def zdA (i : Nat) : Bool := (zil i).all (zdB (zmt i).2.1)
theorem zrng {P : Nat → Bool} {a n i : Nat} (h : (List.range n).all (fun j => P (a + j)) = true) (h1 : a ≤ i) (h2 : i < a + n) : P i = true := by
  have h3 := List.all_eq_true.mp h (i - a) (List.mem_range.mpr (by omega))
  rwa [show a + (i - a) = i by omega] at h3
set_option maxRecDepth 100000 in
theorem zi_chk_0 : (List.range 20).all (fun j => zdA (0 + j)) = true := by decide +kernel
set_option maxRecDepth 100000 in
theorem zi_chk_20 : (List.range 20).all (fun j => zdA (20 + j)) = true := by decide +kernel
set_option maxRecDepth 100000 in
theorem zi_chk_40 : (List.range 20).all (fun j => zdA (40 + j)) = true := by decide +kernel
set_option maxRecDepth 100000 in
theorem zi_chk_60 : (List.range 20).all (fun j => zdA (60 + j)) = true := by decide +kernel
set_option maxRecDepth 100000 in
theorem zi_chk_80 : (List.range 20).all (fun j => zdA (80 + j)) = true := by decide +kernel
set_option maxRecDepth 100000 in
theorem zi_chk_100 : (List.range 20).all (fun j => zdA (100 + j)) = true := by decide +kernel
set_option maxRecDepth 100000 in
theorem zi_chk_120 : (List.range 20).all (fun j => zdA (120 + j)) = true := by decide +kernel
set_option maxRecDepth 100000 in
theorem zi_chk_140 : (List.range 11).all (fun j => zdA (140 + j)) = true := by decide +kernel
set_option maxRecDepth 100000 in
theorem zi_law_chk_0 : ((zi_law.drop 0).take 60).all (zdB code) = true := by decide +kernel
set_option maxRecDepth 100000 in
theorem zi_law_chk_60 : ((zi_law.drop 60).take 60).all (zdB code) = true := by decide +kernel
set_option maxRecDepth 100000 in
theorem zi_law_chk_120 : ((zi_law.drop 120).take 60).all (zdB code) = true := by decide +kernel
set_option maxRecDepth 100000 in
theorem zi_law_chk_180 : ((zi_law.drop 180).take 60).all (zdB code) = true := by decide +kernel
set_option maxRecDepth 100000 in
theorem zi_law_chk_240 : ((zi_law.drop 240).take 60).all (zdB code) = true := by decide +kernel
set_option maxRecDepth 100000 in
theorem zi_law_chk_300 : ((zi_law.drop 300).take 60).all (zdB code) = true := by decide +kernel
set_option maxRecDepth 100000 in
theorem zi_law_chk_360 : ((zi_law.drop 360).take 60).all (zdB code) = true := by decide +kernel
set_option maxRecDepth 100000 in
theorem zi_law_chk_420 : ((zi_law.drop 420).take 60).all (zdB code) = true := by decide +kernel
