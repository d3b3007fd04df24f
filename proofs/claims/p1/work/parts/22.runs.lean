set_option maxRecDepth 100000 in
theorem zL0 : zok (zev [] ([], [])) = true := by decide +kernel
def zfree (L : Nat) : zSz := ((List.range L).map fun _ => (-2147483648, 2147483647, none), [])
set_option maxRecDepth 100000 in
theorem zL1 : zok (zev [.float 0] (zfree 1)) = true := by decide +kernel
set_option maxRecDepth 100000 in
theorem zL2 : zok (zev [.float 0, .float 1] (zfree 2)) = true := by decide +kernel
set_option maxRecDepth 100000 in
theorem zL3 : zok (zev [.float 0, .float 1, .float 2] (zfree 3)) = true := by decide +kernel
set_option maxRecDepth 100000 in
theorem zS1 : zok (zev [.float 0, .float 1, .float 2, .float 3] (zdy 1)) = true := by decide +kernel
set_option maxRecDepth 100000 in
theorem zS28 : zok (zev [.float 0, .float 1, .float 2, .float 3] (zdy 28)) = true := by decide +kernel
