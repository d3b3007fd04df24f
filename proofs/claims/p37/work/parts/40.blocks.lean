/-! ===== Blocks ===== -/
def sBlk (w : List zE) (a : Nat) (pl sz rm bp : List Int) (ct rt : Int) : Prop :=
  w[a]? = some (zob 0 [zp (a + 1), zp (a + 2), zp (a + 3), zp (a + 4), zj ct, zj rt]) ∧ w[a + 1]? = some (za pl) ∧ w[a + 2]? = some (za sz) ∧ w[a + 3]? = some (za rm) ∧ w[a + 4]? = some (za bp)
def zhas1 (rm : List Int) (n : Int) : Prop := 0 ≤ n ∧ n < (rm.length : Int) ∧ 0 < zgi rm n
def zhasB (rm : List Int) (n : Int) : Bool := decide (0 ≤ n) && decide (n < (rm.length : Int)) && decide (0 < zgi rm n)
def zbi (b : Bool) : Int := bif b then 1 else 0
theorem zc_has {sc : List Value} {w : List zE} {a : Nat} {pl sz rm bp : List Int} {ct rt n : Int} (h : sBlk w a pl sz rm bp ct rt) (hn : zrg n) (hl : rm.length ≤ 60000) (hr : zrg (zgi rm n)) : Zc sc 7 [zp a, zj n] w (some (zj (zbi (zhasB rm n)))) w 0 0 := by
  obtain ⟨h0, h1, h2, h3, h4⟩ := h
  refine Zc_of rfl rfl (V7_0 ⟨hn, fun g1 => ?_, fun g1 => ⟨_, _, _, _, _, _, h0, _, h3, ⟨hn, by omega⟩, fun g2 => ?_, fun g2 => ⟨by omega, hr, fun g3 => ?_, fun g3 => ?_⟩⟩⟩)
  · have e : zhasB rm n = false := by unfold zhasB; rw [decide_eq_false (show ¬ 0 ≤ n by omega)]; rfl
    rw [e]
    exact ⟨rfl, rfl, rfl, rfl⟩
  · have e : zhasB rm n = false := by unfold zhasB; rw [decide_eq_false (show ¬ n < (rm.length : Int) by omega)]; simp
    rw [e]
    exact ⟨rfl, rfl, rfl, rfl⟩
  · have e : zhasB rm n = false := by unfold zhasB; rw [decide_eq_false (show ¬ 0 < zgi rm n by omega)]; simp
    rw [e]
    exact ⟨rfl, rfl, rfl, rfl⟩
  · have e : zhasB rm n = true := by unfold zhasB; rw [decide_eq_true (show 0 ≤ n by omega), decide_eq_true (show n < (rm.length : Int) by omega), decide_eq_true (show 0 < zgi rm n by omega)]; rfl
    rw [e]
    exact ⟨rfl, rfl, rfl, rfl⟩
