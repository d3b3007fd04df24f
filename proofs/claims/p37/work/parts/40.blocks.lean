/-! ===== Blocks ===== -/
def sBlk (w : List zE) (a : Nat) (pl sz rm bp : List Int) (ct rt : Int) : Prop :=
  w[a]? = some (zob 0 [zp (a + 1), zp (a + 2), zp (a + 3), zp (a + 4), zj ct, zj rt]) ∧ w[a + 1]? = some (za pl) ∧ w[a + 2]? = some (za sz) ∧ w[a + 3]? = some (za rm) ∧ w[a + 4]? = some (za bp)
def zhas1 (rm : List Int) (n : Int) : Prop := 0 ≤ n ∧ n < (rm.length : Int) ∧ 0 < zgi rm n
def zhasB (rm : List Int) (n : Int) : Bool := decide (0 ≤ n) && decide (n < (rm.length : Int)) && decide (0 < zgi rm n)
def zbi (b : Bool) : Int := bif b then 1 else 0
theorem zc_has {sc : List Value} {w : List zE} {a : Nat} {pl sz rm bp : List Int} {ct rt n : Int} (h : sBlk w a pl sz rm bp ct rt) (hn : zrg n) (hl : rm.length ≤ 60000) (hr : zrg (zgi rm n)) : Zc sc 7 [zp a, zj n] w (some (zj (zbi (zhasB rm n)))) w 0 0 := by
  obtain ⟨h0, h1, h2, h3, h4⟩ := h
  refine Zc_of rfl rfl (V7_0 ⟨hn, fun g1 => ?_, fun g1 => ⟨_, _, _, _, _, _, h0, _, h3, ⟨hn, by omega⟩, fun g2 => ?_, fun g2 => ⟨by omega, hr, fun g3 => ?_, fun g3 => ?_⟩⟩⟩)
  · have e : zhasB rm n = false := by unfold zhasB; rw [decide_eq_false (show ¬ 0 ≤ n by omega)]; rfl
    rw [e]
    exact ⟨rfl, rfl, rfl, rfl⟩
  · have e : zhasB rm n = false := by unfold zhasB; rw [decide_eq_false (show ¬ n < (rm.length : Int) by omega)]; simp
    rw [e]
    exact ⟨rfl, rfl, rfl, rfl⟩
  · have e : zhasB rm n = false := by unfold zhasB; rw [decide_eq_false (show ¬ 0 < zgi rm n by omega)]; simp
    rw [e]
    exact ⟨rfl, rfl, rfl, rfl⟩
  · have e : zhasB rm n = true := by unfold zhasB; rw [decide_eq_true (show 0 ≤ n by omega), decide_eq_true (show n < (rm.length : Int) by omega), decide_eq_true (show 0 < zgi rm n by omega)]; rfl
    rw [e]
    exact ⟨rfl, rfl, rfl, rfl⟩
def zgB (l rm : List Int) (n : Int) : Int := bif zhasB rm n then zgi l n else -1
theorem zhasB_spec {rm : List Int} {n : Int} (h : zhasB rm n = true) : 0 ≤ n ∧ n < (rm.length : Int) ∧ 0 < zgi rm n := by
  unfold zhasB at h
  rw [Bool.and_eq_true, Bool.and_eq_true, decide_eq_true_eq, decide_eq_true_eq, decide_eq_true_eq] at h
  exact ⟨h.1.1, h.1.2, h.2⟩
theorem zbi_rg (b : Bool) : zrg (zbi b) := by cases b <;> exact ⟨by decide, by decide⟩
theorem zc_placeOf {sc : List Value} {w : List zE} {a : Nat} {pl sz rm bp : List Int} {ct rt n : Int} (h : sBlk w a pl sz rm bp ct rt) (hn : zrg n) (hl : rm.length ≤ 60000) (hr : zrg (zgi rm n)) (he : pl.length = rm.length) : Zc sc 9 [zp a, zj n] w (some (zj (zgB pl rm n))) w 0 0 := by
  have hh := zc_has (sc := sc) h hn hl hr
  obtain ⟨h0, h1, h2, h3, h4⟩ := h
  refine Zc_of rfl rfl (V9_0 ⟨_, _, _, _, _, _, h0, _, _, hh, zbi_rg _, fun g => ?_, fun g => ?_⟩)
  · cases hb : zhasB rm n with
    | true => rw [hb] at g; exact absurd g (by decide)
    | false => exact ⟨by unfold zgB; rw [hb]; rfl, rfl, rfl, rfl⟩
  · cases hb : zhasB rm n with
    | false => rw [hb] at g; exact absurd rfl g
    | true =>
      obtain ⟨g1, g2, g3⟩ := zhasB_spec hb
      exact ⟨_, _, _, _, _, _, h0, _, h1, ⟨g1, by omega, by omega⟩, by unfold zgB; rw [hb]; rfl, rfl, rfl, rfl⟩
theorem zc_sizeOf {sc : List Value} {w : List zE} {a : Nat} {pl sz rm bp : List Int} {ct rt n : Int} (h : sBlk w a pl sz rm bp ct rt) (hn : zrg n) (hl : rm.length ≤ 60000) (hr : zrg (zgi rm n)) (he : sz.length = rm.length) : Zc sc 11 [zp a, zj n] w (some (zj (zgB sz rm n))) w 0 0 := by
  have hh := zc_has (sc := sc) h hn hl hr
  obtain ⟨h0, h1, h2, h3, h4⟩ := h
  refine Zc_of rfl rfl (V11_0 ⟨_, _, _, _, _, _, h0, _, _, hh, zbi_rg _, fun g => ?_, fun g => ?_⟩)
  · cases hb : zhasB rm n with
    | true => rw [hb] at g; exact absurd g (by decide)
    | false => exact ⟨by unfold zgB; rw [hb]; rfl, rfl, rfl, rfl⟩
  · cases hb : zhasB rm n with
    | false => rw [hb] at g; exact absurd rfl g
    | true =>
      obtain ⟨g1, g2, g3⟩ := zhasB_spec hb
      exact ⟨_, _, _, _, _, _, h0, _, h2, ⟨g1, by omega, by omega⟩, by unfold zgB; rw [hb]; rfl, rfl, rfl, rfl⟩
theorem zc_roomOf {sc : List Value} {w : List zE} {a : Nat} {pl sz rm bp : List Int} {ct rt n : Int} (h : sBlk w a pl sz rm bp ct rt) (hn : zrg n) (hl : rm.length ≤ 60000) (hr : zrg (zgi rm n)) : Zc sc 13 [zp a, zj n] w (some (zj (zgB rm rm n))) w 0 0 := by
  have hh := zc_has (sc := sc) h hn hl hr
  obtain ⟨h0, h1, h2, h3, h4⟩ := h
  refine Zc_of rfl rfl (V13_0 ⟨_, _, _, _, _, _, h0, _, _, hh, zbi_rg _, fun g => ?_, fun g => ?_⟩)
  · cases hb : zhasB rm n with
    | true => rw [hb] at g; exact absurd g (by decide)
    | false => exact ⟨by unfold zgB; rw [hb]; rfl, rfl, rfl, rfl⟩
  · cases hb : zhasB rm n with
    | false => rw [hb] at g; exact absurd rfl g
    | true =>
      obtain ⟨g1, g2, g3⟩ := zhasB_spec hb
      exact ⟨_, _, _, _, _, _, h0, _, h3, ⟨g1, by omega, by omega⟩, by unfold zgB; rw [hb]; rfl, rfl, rfl, rfl⟩
def zenB (pl rm : List Int) (n : Int) : Int := bif zhasB rm n then zgi pl n + zgi rm n else -1
theorem zc_endOf {sc : List Value} {w : List zE} {a : Nat} {pl sz rm bp : List Int} {ct rt n : Int} (h : sBlk w a pl sz rm bp ct rt) (hn : zrg n) (hl : rm.length ≤ 60000) (hr : zrg (zgi rm n)) (he : pl.length = rm.length) : Zc sc 16 [zp a, zj n] w (some (zj (zenB pl rm n))) w 0 0 := by
  have hh := zc_has (sc := sc) h hn hl hr
  obtain ⟨h0, h1, h2, h3, h4⟩ := h
  refine Zc_of rfl rfl (V16_0 ⟨_, _, _, _, _, _, h0, _, _, hh, zbi_rg _, fun g => ?_, fun g => ?_⟩)
  · cases hb : zhasB rm n with
    | true => rw [hb] at g; exact absurd g (by decide)
    | false => exact ⟨by unfold zenB; rw [hb]; rfl, rfl, rfl, rfl⟩
  · cases hb : zhasB rm n with
    | false => rw [hb] at g; exact absurd rfl g
    | true =>
      obtain ⟨g1, g2, g3⟩ := zhasB_spec hb
      exact ⟨_, _, _, _, _, _, h0, _, h1, ⟨g1, by omega, by omega⟩, _, h3, ⟨g1, by omega, by omega⟩, by unfold zenB; rw [hb]; rfl, rfl, rfl, rfl⟩
def zioB (bp : List Int) (ct k : Int) : Int := bif decide (0 ≤ k) && decide (k < ct) then zgi bp k else -1
theorem zc_inOrder {sc : List Value} {w : List zE} {a : Nat} {pl sz rm bp : List Int} {ct rt k : Int} (h : sBlk w a pl sz rm bp ct rt) (hn : zrg k) (hl : bp.length ≤ 60000) (hc : ct ≤ (bp.length : Int)) (hc0 : 0 ≤ ct) : Zc sc 72 [zp a, zj k] w (some (zj (zioB bp ct k))) w 0 0 := by
  obtain ⟨h0, h1, h2, h3, h4⟩ := h
  refine Zc_of rfl rfl (V72_0 ⟨hn, fun g => ?_, fun g => ⟨_, _, _, _, _, _, h0, ⟨hn, by omega⟩, fun g2 => ?_, fun g2 => ⟨_, h4, ⟨by omega, by omega, by omega⟩, ?_, rfl, rfl, rfl⟩⟩⟩)
  · refine ⟨?_, rfl, rfl, rfl⟩
    unfold zioB
    rw [decide_eq_false (show ¬ 0 ≤ k by omega)]
    rfl
  · refine ⟨?_, rfl, rfl, rfl⟩
    unfold zioB
    rw [decide_eq_false (show ¬ k < ct by omega), Bool.and_false]
    rfl
  · unfold zioB
    rw [decide_eq_true (show 0 ≤ k by omega), decide_eq_true (show k < ct by omega)]
    rfl
theorem zc_howMany {sc : List Value} {w : List zE} {a : Nat} {pl sz rm bp : List Int} {ct rt : Int} (h : sBlk w a pl sz rm bp ct rt) : Zc sc 18 [zp a] w (some (zj ct)) w 0 0 :=
  Zc_of rfl rfl (V18_0 ⟨_, _, _, _, _, _, h.1, rfl, rfl, rfl, rfl⟩)
theorem zc_allRooms {sc : List Value} {w : List zE} {a : Nat} {pl sz rm bp : List Int} {ct rt : Int} (h : sBlk w a pl sz rm bp ct rt) : Zc sc 28 [zp a] w (some (zj rt)) w 0 0 :=
  Zc_of rfl rfl (V28_0 ⟨_, _, _, _, _, _, h.1, rfl, rfl, rfl, rfl⟩)
