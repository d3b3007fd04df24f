/-! ===== resettle, pack, welcome, leaveArena ===== -/
section DEE
variable {sc : List Value} {w w' : List zE} {m : Nat} {k k' : mk_T} {hn sn : Int} {cn : List Int} {B B' X Y : List bk_T} {H : List hl_T} {pg : List Int} {b : bk_T}
theorem zc_resettle_f_1 (h : sQ w 1 m k hn cn B) {n z : Int} (hn2 : zrg n) (hb : ∀ b ∈ B, b.1 ≠ n) : Zc sc 88 [zp m, zj n, zj z] w none w 0 0 := by
  obtain ⟨hc, hk, hh, hg, sn, hs, h6⟩ := h
  exact Zc_of rfl rfl (V88_0_1 h6.1 ⟨_, h6.2.1.ob, _, zc_has_f h6.2.1 hn2 hb, by omega, fun q => absurd rfl q, fun _ => ⟨rfl, rfl, rfl, rfl⟩⟩)
theorem zc_resettle_1 (h : sQ w 1 m k hn cn (X ++ b :: Y)) (hB : (X ++ b :: Y).length ≤ 80) (hn9 : ∀ x ∈ X ++ b :: Y, x.1 ≤ 79) {z : Int} (hz : 1 ≤ z ∧ z ≤ 300) :
    ∃ w' hn' cn' B', Zc sc 88 [zp m, zj b.1, zj z] w none w' 0 0 ∧ zFm w w' m (msz 1) ∧ sQ w' 1 m k hn' cn' B' ∧ cLe cn cn' 600 ∧ rzR 1 k hn (X ++ b :: Y) b z hn' B' := by
  obtain ⟨hc, hk, hh, hg, sn, hs, h6⟩ := id h
  have hb : b ∈ X ++ b :: Y := by simp
  have hok := h6.2.1.1
  have gb := hok.2 b hb
  have hm := okB_mid.mp hok
  have hrm := zc_room_1 (sc := sc) h6 hk hz
  have hr := rOK_room (c := 1) (by omega) hk.2.1 hk.2.2.1 hz
  have hr2 := rOK_rg (by omega) hr
  have holz : ∀ r : Int, holF 1 (X ++ (b.1, b.2.1, z, r) :: Y) = holF 1 (X ++ (b.1, b.2.1, b.2.2.1, r) :: Y) ∧ pgF (X ++ (b.1, b.2.1, z, r) :: Y) = pgF (X ++ (b.1, b.2.1, b.2.2.1, r) :: Y) := fun r => by
    have epg : pgF (X ++ (b.1, b.2.1, z, r) :: Y) = pgF (X ++ (b.1, b.2.1, b.2.2.1, r) :: Y) := by
      refine pg_ext (pgF_len _) (pgF_len _) fun q q0 q1 => ?_
      rw [pgF_get _ q0 q1, pgF_get _ q0 q1]
      unfold lastK
      rw [List.foldl_append, List.foldl_append]
      rfl
    refine ⟨?_, epg⟩
    unfold holF
    rw [epg, holL_G, holL_G, holG_mid, holG_mid]
  have gcz : ∀ r : Int, gcB 1 (X ++ (b.1, b.2.1, b.2.2.1, r) :: Y) → gcB 1 (X ++ (b.1, b.2.1, z, r) :: Y) := fun r hg2 => by
    have ren : ∀ {y : bk_T}, y ∈ X ++ (b.1, b.2.1, z, r) :: Y → ∃ y' ∈ X ++ (b.1, b.2.1, b.2.2.1, r) :: Y, y'.2.1 = y.2.1 ∧ y'.2.2.2 = y.2.2.2 := fun {y} hy => by
      rcases mem_mid.mp hy with hy | rfl
      · exact ⟨y, mem_mid.mpr (Or.inl hy), rfl, rfl⟩
      · exact ⟨_, mem_mid.mpr (Or.inr rfl), rfl, rfl⟩
    exact fun y hy => by obtain ⟨y', h1, h2, h3⟩ := ren hy; rw [← h2, ← h3]; exact hg2 y' h1
  by_cases e1 : roomF 1 (k.2.1) (k.2.2.1) z = b.2.2.2
  · obtain ⟨w1, z1, z2, z3⟩ := zc_setSize (sc := sc) h6.2.1 hz
    have r1 := sR_B h6 z2 z3
    have hz2 := holz b.2.2.2
    refine ⟨w1, hn, cn, _, Zc_of rfl rfl (V88_0_1 h6.1 ⟨_, h6.2.1.ob, _, zc_has_t h6.2.1 hb, by omega, fun _ => ⟨_, hrm, _, zc_roomOf_t h6.2.1 hb, by omega, fun _ => ⟨w1, z1, rfl, rfl, rfl, rfl⟩, fun q => absurd e1 q⟩, fun q => by omega⟩), zFm_B z2, ⟨hc, hk, hh, gcz _ hg, sn, hs, by rw [hz2.1, hz2.2]; exact r1⟩, cLe_refl hc (by omega), X, Y, rfl, Or.inl ⟨rfl, by rw [e1], Or.inl e1⟩⟩
  · have mv := rs_move_1 (sc := sc) h hB hn9 hz hr
    have hst : Zc sc 91 [zp m, zj b.1, zj (roomF 1 (k.2.1) (k.2.2.1) z)] w (some (zj 0)) w 0 0 := Zc_of rfl rfl (V91_0_1 ⟨rfl, rfl, rfl, rfl⟩)
    have hnf : ¬ fitB 1 (roomF 1 (k.2.1) (k.2.2.1) z) b Y := fun q => absurd q.1 (by decide)
    rcases mv with ⟨w2, cn2, y1, y2, y3, y4, y5⟩ | ⟨w1, w2, w3, w4, sn1, sn2, sn3, hn1, cn1, cn2, cn3, B1, B2, B3, H1, H2, H3, pg1, pg2, pg3, p, Z1, Z2, y1, r1, y2, r2, y3, r3, y4, y5, y6, y7, y8, y9, y10⟩
    · exact ⟨w2, hn, cn2, _, Zc_of rfl rfl (V88_0_1 h6.1 ⟨_, h6.2.1.ob, _, zc_has_t h6.2.1 hb, by omega, fun _ => ⟨_, hrm, _, zc_roomOf_t h6.2.1 hb, by omega, fun q => absurd q e1, fun _ => ⟨_, hst, by omega, fun _ => ⟨_, zc_sizeOf_t h6.2.1 hb, by omega, _, w2, y1, by omega, fun _ => ⟨rfl, rfl, rfl, rfl⟩, fun q => absurd rfl q⟩, fun q => absurd rfl q⟩⟩, fun q => by omega⟩), y2, y3, cLe_mono y4 (by omega), X, Y, rfl, Or.inr ⟨e1, hnf, Or.inl ⟨rfl, rfl, y5⟩⟩⟩
    · exact ⟨w4, _, cn3, _, Zc_of rfl rfl (V88_0_1 h6.1 ⟨_, h6.2.1.ob, _, zc_has_t h6.2.1 hb, by omega, fun _ => ⟨_, hrm, _, zc_roomOf_t h6.2.1 hb, by omega, fun q => absurd q e1, fun _ => ⟨_, hst, by omega, fun _ => ⟨_, zc_sizeOf_t h6.2.1 hb, by omega, _, w1, y1, by omega, fun q => by omega, fun _ => ⟨_, r1.1, w2, y2, _, _, _, _, _, _, _, _, _, r2.1, _, r2.2.1.ob, w3, y3, _, r3.1, w4, y4, rfl, rfl, rfl, rfl⟩⟩, fun q => absurd rfl q⟩⟩, fun q => by omega⟩), y5, y6, cLe_mono y7 (by omega), X, Y, rfl, Or.inr ⟨e1, hnf, Or.inr ⟨p, Z1, Z2, y8, y9, y10, rfl, rfl⟩⟩⟩
theorem zc_resettle_f_2 (h : sQ w 2 m k hn cn B) {n z : Int} (hn2 : zrg n) (hb : ∀ b ∈ B, b.1 ≠ n) : Zc sc 88 [zp m, zj n, zj z] w none w 0 0 := by
  obtain ⟨hc, hk, hh, hg, sn, hs, h6⟩ := h
  exact Zc_of rfl rfl (V88_0_2 h6.1 ⟨_, h6.2.1.ob, _, zc_has_f h6.2.1 hn2 hb, by omega, fun q => absurd rfl q, fun _ => ⟨rfl, rfl, rfl, rfl⟩⟩)
theorem zc_resettle_2 (h : sQ w 2 m k hn cn (X ++ b :: Y)) (hB : (X ++ b :: Y).length ≤ 80) (hn9 : ∀ x ∈ X ++ b :: Y, x.1 ≤ 79) {z : Int} (hz : 1 ≤ z ∧ z ≤ 300) :
    ∃ w' hn' cn' B', Zc sc 88 [zp m, zj b.1, zj z] w none w' 0 0 ∧ zFm w w' m (msz 2) ∧ sQ w' 2 m k hn' cn' B' ∧ cLe cn cn' 600 ∧ rzR 2 k hn (X ++ b :: Y) b z hn' B' := by
  obtain ⟨hc, hk, hh, hg, sn, hs, h6⟩ := id h
  have hb : b ∈ X ++ b :: Y := by simp
  have hok := h6.2.1.1
  have gb := hok.2 b hb
  have hm := okB_mid.mp hok
  have hrm := zc_room_2 (sc := sc) h6 hk hz
  have hr := rOK_room (c := 2) (by omega) hk.2.1 hk.2.2.1 hz
  have hr2 := rOK_rg (by omega) hr
  have holz : ∀ r : Int, holF 2 (X ++ (b.1, b.2.1, z, r) :: Y) = holF 2 (X ++ (b.1, b.2.1, b.2.2.1, r) :: Y) ∧ pgF (X ++ (b.1, b.2.1, z, r) :: Y) = pgF (X ++ (b.1, b.2.1, b.2.2.1, r) :: Y) := fun r => by
    have epg : pgF (X ++ (b.1, b.2.1, z, r) :: Y) = pgF (X ++ (b.1, b.2.1, b.2.2.1, r) :: Y) := by
      refine pg_ext (pgF_len _) (pgF_len _) fun q q0 q1 => ?_
      rw [pgF_get _ q0 q1, pgF_get _ q0 q1]
      unfold lastK
      rw [List.foldl_append, List.foldl_append]
      rfl
    refine ⟨?_, epg⟩
    unfold holF
    rw [epg, holL_G, holL_G, holG_mid, holG_mid]
  have gcz : ∀ r : Int, gcB 2 (X ++ (b.1, b.2.1, b.2.2.1, r) :: Y) → gcB 2 (X ++ (b.1, b.2.1, z, r) :: Y) := fun r hg2 => by
    have ren : ∀ {y : bk_T}, y ∈ X ++ (b.1, b.2.1, z, r) :: Y → ∃ y' ∈ X ++ (b.1, b.2.1, b.2.2.1, r) :: Y, y'.2.1 = y.2.1 ∧ y'.2.2.2 = y.2.2.2 := fun {y} hy => by
      rcases mem_mid.mp hy with hy | rfl
      · exact ⟨y, mem_mid.mpr (Or.inl hy), rfl, rfl⟩
      · exact ⟨_, mem_mid.mpr (Or.inr rfl), rfl, rfl⟩
    trivial
  by_cases e1 : roomF 2 (k.2.1) (k.2.2.1) z = b.2.2.2
  · obtain ⟨w1, z1, z2, z3⟩ := zc_setSize (sc := sc) h6.2.1 hz
    have r1 := sR_B h6 z2 z3
    have hz2 := holz b.2.2.2
    refine ⟨w1, hn, cn, _, Zc_of rfl rfl (V88_0_2 h6.1 ⟨_, h6.2.1.ob, _, zc_has_t h6.2.1 hb, by omega, fun _ => ⟨_, hrm, _, zc_roomOf_t h6.2.1 hb, by omega, fun _ => ⟨w1, z1, rfl, rfl, rfl, rfl⟩, fun q => absurd e1 q⟩, fun q => by omega⟩), zFm_B z2, ⟨hc, hk, hh, gcz _ hg, sn, hs, by rw [hz2.1, hz2.2]; exact r1⟩, cLe_refl hc (by omega), X, Y, rfl, Or.inl ⟨rfl, by rw [e1], Or.inl e1⟩⟩
  · have mv := rs_move_2 (sc := sc) h hB hn9 hz hr
    rcases zc_stretches_2 (sc := sc) h hr2 e1 with ⟨hfit, w1, cn1, z1, z2, z3, z4⟩ | ⟨hnf, hst⟩
    · obtain ⟨hc1, -, hh1, hg1, sn1, hs1, r1⟩ := z3
      obtain ⟨w2, y1, y2, y3⟩ := zc_setSize (sc := sc) r1.2.1 hz
      have r2 := sR_B r1 y2 y3
      have hz2 := holz (roomF 2 (k.2.1) (k.2.2.1) z)
      exact ⟨w2, hn, cn1, _, Zc_of rfl rfl (V88_0_2 h6.1 ⟨_, h6.2.1.ob, _, zc_has_t h6.2.1 hb, by omega, fun _ => ⟨_, hrm, _, zc_roomOf_t h6.2.1 hb, by omega, fun q => absurd q e1, fun _ => ⟨_, w1, z1, by omega, fun q => by omega, fun _ => ⟨_, _, _, _, _, _, _, _, _, r1.1, _, r1.2.1.ob, w2, y1, rfl, rfl, rfl, rfl⟩⟩⟩, fun q => by omega⟩), zFm_trans z2 (zFm_B y2), ⟨hc1, hk, hh1, trivial, sn1, hs1, by rw [hz2.1, hz2.2]; exact r2⟩, cLe_mono z4 (by omega), X, Y, rfl, Or.inl ⟨rfl, rfl, Or.inr hfit⟩⟩
    · rcases mv with ⟨w2, cn2, y1, y2, y3, y4, y5⟩ | ⟨w1, w2, w3, w4, sn1, sn2, sn3, hn1, cn1, cn2, cn3, B1, B2, B3, H1, H2, H3, pg1, pg2, pg3, p, Z1, Z2, y1, r1, y2, r2, y3, r3, y4, y5, y6, y7, y8, y9, y10⟩
      · exact ⟨w2, hn, cn2, _, Zc_of rfl rfl (V88_0_2 h6.1 ⟨_, h6.2.1.ob, _, zc_has_t h6.2.1 hb, by omega, fun _ => ⟨_, hrm, _, zc_roomOf_t h6.2.1 hb, by omega, fun q => absurd q e1, fun _ => ⟨_, w, hst, by omega, fun _ => ⟨_, _, _, _, _, _, _, _, _, h6.1, _, h6.2.1.ob, _, zc_sizeOf_t h6.2.1 hb, by omega, _, w2, y1, by omega, fun _ => ⟨rfl, rfl, rfl, rfl⟩, fun q => absurd rfl q⟩, fun q => absurd rfl q⟩⟩, fun q => by omega⟩), y2, y3, cLe_mono y4 (by omega), X, Y, rfl, Or.inr ⟨e1, hnf, Or.inl ⟨rfl, rfl, y5⟩⟩⟩
      · exact ⟨w4, _, cn3, _, Zc_of rfl rfl (V88_0_2 h6.1 ⟨_, h6.2.1.ob, _, zc_has_t h6.2.1 hb, by omega, fun _ => ⟨_, hrm, _, zc_roomOf_t h6.2.1 hb, by omega, fun q => absurd q e1, fun _ => ⟨_, w, hst, by omega, fun _ => ⟨_, _, _, _, _, _, _, _, _, h6.1, _, h6.2.1.ob, _, zc_sizeOf_t h6.2.1 hb, by omega, _, w1, y1, by omega, fun q => by omega, fun _ => ⟨_, r1.1, w2, y2, _, _, _, _, _, _, _, _, _, r2.1, _, r2.2.1.ob, w3, y3, _, r3.1, w4, y4, rfl, rfl, rfl, rfl⟩⟩, fun q => absurd rfl q⟩⟩, fun q => by omega⟩), y5, y6, cLe_mono y7 (by omega), X, Y, rfl, Or.inr ⟨e1, hnf, Or.inr ⟨p, Z1, Z2, y8, y9, y10, rfl, rfl⟩⟩⟩
theorem zc_resettle_f_4 (h : sQ w 4 m k hn cn B) {n z : Int} (hn2 : zrg n) (hb : ∀ b ∈ B, b.1 ≠ n) : Zc sc 88 [zp m, zj n, zj z] w none w 0 0 := by
  obtain ⟨hc, hk, hh, hg, sn, hs, h6⟩ := h
  exact Zc_of rfl rfl (V88_0_4 h6.1 ⟨_, h6.2.1.ob, _, zc_has_f h6.2.1 hn2 hb, by omega, fun q => absurd rfl q, fun _ => ⟨rfl, rfl, rfl, rfl⟩⟩)
theorem zc_resettle_4 (h : sQ w 4 m k hn cn (X ++ b :: Y)) (hB : (X ++ b :: Y).length ≤ 80) (hn9 : ∀ x ∈ X ++ b :: Y, x.1 ≤ 79) {z : Int} (hz : 1 ≤ z ∧ z ≤ 300) :
    ∃ w' hn' cn' B', Zc sc 88 [zp m, zj b.1, zj z] w none w' 0 0 ∧ zFm w w' m (msz 4) ∧ sQ w' 4 m k hn' cn' B' ∧ cLe cn cn' 600 ∧ rzR 4 k hn (X ++ b :: Y) b z hn' B' := by
  obtain ⟨hc, hk, hh, hg, sn, hs, h6⟩ := id h
  have hb : b ∈ X ++ b :: Y := by simp
  have hok := h6.2.1.1
  have gb := hok.2 b hb
  have hm := okB_mid.mp hok
  have hrm := zc_room_4 (sc := sc) h6 hk hz
  have hr := rOK_room (c := 4) (by omega) hk.2.1 hk.2.2.1 hz
  have hr2 := rOK_rg (by omega) hr
  have holz : ∀ r : Int, holF 4 (X ++ (b.1, b.2.1, z, r) :: Y) = holF 4 (X ++ (b.1, b.2.1, b.2.2.1, r) :: Y) ∧ pgF (X ++ (b.1, b.2.1, z, r) :: Y) = pgF (X ++ (b.1, b.2.1, b.2.2.1, r) :: Y) := fun r => by
    have epg : pgF (X ++ (b.1, b.2.1, z, r) :: Y) = pgF (X ++ (b.1, b.2.1, b.2.2.1, r) :: Y) := by
      refine pg_ext (pgF_len _) (pgF_len _) fun q q0 q1 => ?_
      rw [pgF_get _ q0 q1, pgF_get _ q0 q1]
      unfold lastK
      rw [List.foldl_append, List.foldl_append]
      rfl
    refine ⟨?_, epg⟩
    unfold holF
    rw [epg, holL_G, holL_G, holG_mid, holG_mid]
  have gcz : ∀ r : Int, gcB 4 (X ++ (b.1, b.2.1, b.2.2.1, r) :: Y) → gcB 4 (X ++ (b.1, b.2.1, z, r) :: Y) := fun r hg2 => by
    have ren : ∀ {y : bk_T}, y ∈ X ++ (b.1, b.2.1, z, r) :: Y → ∃ y' ∈ X ++ (b.1, b.2.1, b.2.2.1, r) :: Y, y'.2.1 = y.2.1 ∧ y'.2.2.2 = y.2.2.2 := fun {y} hy => by
      rcases mem_mid.mp hy with hy | rfl
      · exact ⟨y, mem_mid.mpr (Or.inl hy), rfl, rfl⟩
      · exact ⟨_, mem_mid.mpr (Or.inr rfl), rfl, rfl⟩
    exact ⟨fun y hy => by obtain ⟨y', h1, h2, h3⟩ := ren hy; rw [← h2, ← h3]; exact hg2.1 y' h1, fun y hy x hx => by obtain ⟨y', h1, h2, h3⟩ := ren hy; obtain ⟨x', h4, h5, h6⟩ := ren hx; rw [← h2, ← h3, ← h5, ← h6]; exact hg2.2 y' h1 x' h4⟩
  by_cases e1 : roomF 4 (k.2.1) (k.2.2.1) z = b.2.2.2
  · obtain ⟨w1, z1, z2, z3⟩ := zc_setSize (sc := sc) h6.2.1 hz
    have r1 := sR_B h6 z2 z3
    have hz2 := holz b.2.2.2
    refine ⟨w1, hn, cn, _, Zc_of rfl rfl (V88_0_4 h6.1 ⟨_, h6.2.1.ob, _, zc_has_t h6.2.1 hb, by omega, fun _ => ⟨_, hrm, _, zc_roomOf_t h6.2.1 hb, by omega, fun _ => ⟨w1, z1, rfl, rfl, rfl, rfl⟩, fun q => absurd e1 q⟩, fun q => by omega⟩), zFm_B z2, ⟨hc, hk, hh, gcz _ hg, sn, hs, by rw [hz2.1, hz2.2]; exact r1⟩, cLe_refl hc (by omega), X, Y, rfl, Or.inl ⟨rfl, by rw [e1], Or.inl e1⟩⟩
  · have mv := rs_move_4 (sc := sc) h hB hn9 hz hr
    have hst : Zc sc 91 [zp m, zj b.1, zj (roomF 4 (k.2.1) (k.2.2.1) z)] w (some (zj 0)) w 0 0 := Zc_of rfl rfl (V91_0_4 ⟨rfl, rfl, rfl, rfl⟩)
    have hnf : ¬ fitB 4 (roomF 4 (k.2.1) (k.2.2.1) z) b Y := fun q => absurd q.1 (by decide)
    rcases mv with ⟨w2, cn2, y1, y2, y3, y4, y5⟩ | ⟨w1, w2, w3, w4, sn1, sn2, sn3, hn1, cn1, cn2, cn3, B1, B2, B3, H1, H2, H3, pg1, pg2, pg3, p, Z1, Z2, y1, r1, y2, r2, y3, r3, y4, y5, y6, y7, y8, y9, y10⟩
    · exact ⟨w2, hn, cn2, _, Zc_of rfl rfl (V88_0_4 h6.1 ⟨_, h6.2.1.ob, _, zc_has_t h6.2.1 hb, by omega, fun _ => ⟨_, hrm, _, zc_roomOf_t h6.2.1 hb, by omega, fun q => absurd q e1, fun _ => ⟨_, hst, by omega, fun _ => ⟨_, zc_sizeOf_t h6.2.1 hb, by omega, _, w2, y1, by omega, fun _ => ⟨rfl, rfl, rfl, rfl⟩, fun q => absurd rfl q⟩, fun q => absurd rfl q⟩⟩, fun q => by omega⟩), y2, y3, cLe_mono y4 (by omega), X, Y, rfl, Or.inr ⟨e1, hnf, Or.inl ⟨rfl, rfl, y5⟩⟩⟩
    · exact ⟨w4, _, cn3, _, Zc_of rfl rfl (V88_0_4 h6.1 ⟨_, h6.2.1.ob, _, zc_has_t h6.2.1 hb, by omega, fun _ => ⟨_, hrm, _, zc_roomOf_t h6.2.1 hb, by omega, fun q => absurd q e1, fun _ => ⟨_, hst, by omega, fun _ => ⟨_, zc_sizeOf_t h6.2.1 hb, by omega, _, w1, y1, by omega, fun q => by omega, fun _ => ⟨_, r1.1, w2, y2, _, _, _, _, _, _, _, _, _, r2.1, _, r2.2.1.ob, w3, y3, _, r3.1, w4, y4, rfl, rfl, rfl, rfl⟩⟩, fun q => absurd rfl q⟩⟩, fun q => by omega⟩), y5, y6, cLe_mono y7 (by omega), X, Y, rfl, Or.inr ⟨e1, hnf, Or.inr ⟨p, Z1, Z2, y8, y9, y10, rfl, rfl⟩⟩⟩
theorem zc_pack_2 (h : sQ w 2 m k hn cn B) : ∃ w', Zc sc 94 [zp m] w none w' 0 0 ∧ zFm w w' m (msz 2) ∧ sQ w' 2 m k (if 1024 ≤ sumR B then 0 else sumR B) (zsi cn 3 (zgi cn 3 + pkM B 0)) (packF B 0) := by
  obtain ⟨hc, hk, hh, hg, sn, hs, h6⟩ := h
  have hok := h6.2.1.1
  have key : ∀ (Y X : List bk_T) (w : List zE) (cn : List Int) (H : List hl_T) (pg : List Int) (v : Value), B = X ++ Y → cn.length = 5 → pg.length = 8 → sR w 2 m k hn sn cn (packF X 0 ++ Y) H pg → ∃ w', Zr sc 94 4 [zp m, zj (sumR X), zj X.length, v] [] w none w' 0 0 ∧ zFm w w' m (msz 2) ∧ sQ w' 2 m k (if 1024 ≤ sumR B then 0 else sumR B) (zsi cn 3 (zgi cn 3 + (pkM B 0 - pkM X 0))) (packF B 0) := by
    intro Y
    induction Y with
    | nil =>
      intro X w cn H pg v e hc hp h
      rw [List.append_nil] at e h
      subst e
      have hs2 := sumR_rg hok
      have hl := h.2.1.2.1
      have hl2 := packF_len B 0
      obtain ⟨w1, z1, z2, z3⟩ := zc_handBehind_2 (sc := sc) h (e := sumR B) (by omega)
      obtain ⟨w2, y1, y2, y3⟩ := zc_layOut_2 (sc := sc) z3 hp trivial
      have ecn : zsi cn 3 (zgi cn 3 + (pkM B 0 - pkM B 0)) = cn := zsi_same (by omega) (by omega) (by omega)
      rw [ecn]
      refine ⟨w2, V94_4 h.1 ⟨_, h.2.1.ob, _, zc_howMany h.2.1, by omega, fun _ => ⟨w1, z1, _, z3.1, w2, y1, rfl, rfl, rfl, rfl⟩, fun q => by omega⟩, zFm_trans z2 y2, hc, hk, ?_, trivial, sn, hs, y3⟩
      split <;> omega
    | cons b Y ih =>
      intro X w cn H pg v e hc hp h
      have hl := h.2.1.2.1
      have hl2 := packF_len X 0
      have hokb := h.2.1.1
      have hm := okB_mid.mp hokb
      have gb := hm.2.2.2
      have hbm : b ∈ packF X 0 ++ b :: Y := by simp
      have hk1 : (packF X 0 ++ b :: Y)[X.length]? = some b := by rw [← hl2]; exact mid_eq
      have hlt := (List.getElem?_eq_some_iff.mp hk1).1
      have hsX := sumR_pre X b Y 0 (e ▸ hok) (fun x hx => ((e ▸ hok : okB (X ++ b :: Y)).2 x hx).2.2.1)
      have hs0 : 0 ≤ sumR X := by
        have := (sumR_rg (B := X) ⟨(List.pairwise_append.mp (e ▸ hok : okB (X ++ b :: Y)).1).1, fun x hx => (e ▸ hok : okB (X ++ b :: Y)).2 x (by simp [hx])⟩).1
        exact this
      have e2 : B = (X ++ [b]) ++ Y := by rw [e]; simp
      have ps := packF_snoc X b 0
      have pm := pkM_snoc X b 0
      have ss := sumR_snoc X b
      have hlx : ((X ++ [b]).length : Int) = (X.length : Int) + 1 := by simp
      have hs3 := sumR_rg (B := packF X 0 ++ b :: Y) hokb
      rw [Int.zero_add] at ps pm
      have po := (packF_ok (X ++ [b]) Y 0 (by rw [← e2]; exact hok) (fun x hx => (hok.2 x (by rw [e2]; exact List.mem_append.mpr (Or.inl hx))).2.2.1) (Int.le_refl _)).1
      rw [ps, List.append_assoc, List.singleton_append] at po
      by_cases g : b.2.1 = sumR X
      · have eb : packF (X ++ [b]) 0 ++ Y = packF X 0 ++ b :: Y := by rw [ps, ← g, List.append_assoc]; rfl
        obtain ⟨w1, z1, z2, z3⟩ := ih (X ++ [b]) w cn H pg (zj b.1) e2 hc hp (by rw [eb]; exact h)
        rw [ss, hlx] at z1
        rw [pm, if_pos g, Int.add_zero] at z3
        exact ⟨w1, V94_4 h.1 ⟨_, h.2.1.ob, _, zc_howMany h.2.1, by omega, fun q => by omega, fun _ => ⟨_, zc_inOrder h.2.1 hk1, _, zc_placeOf_t h.2.1 hbm, by omega, fun _ => ⟨_, zc_roomOf_t h.2.1 hbm, z1⟩, fun q => absurd g q⟩⟩, z2, z3⟩
      · obtain ⟨w1, z1, z2, z3⟩ := zc_setPlace (sc := sc) h.2.1 (p := sumR X) po
        have r1 := sR_B h z2 z3
        have hb1 : (b.1, sumR X, b.2.2) ∈ packF X 0 ++ (b.1, sumR X, b.2.2) :: Y := by simp
        obtain ⟨w2, y1, y2, y3⟩ := zc_count_2 (sc := sc) r1 hc (x := 3) (v := b.2.2.2) (by omega)
        have eb : packF (X ++ [b]) 0 ++ Y = packF X 0 ++ (b.1, sumR X, b.2.2) :: Y := by rw [ps, List.append_assoc]; rfl
        have hc2 : (zsi cn 3 (zgi cn 3 + b.2.2.2)).length = 5 := by rw [zsi_len]; exact hc
        obtain ⟨w3, x1, x2, x3⟩ := ih (X ++ [b]) w2 _ H pg (zj b.1) e2 hc2 hp (by rw [eb]; exact y3)
        rw [ss, hlx] at x1
        rw [zgi_set (by omega) (by omega) (by omega), if_pos rfl, pm, if_neg g] at x3
        have ecn : zsi (zsi cn 3 (zgi cn 3 + b.2.2.2)) 3 (zgi cn 3 + b.2.2.2 + (pkM B 0 - (pkM X 0 + b.2.2.2))) = zsi cn 3 (zgi cn 3 + (pkM B 0 - pkM X 0)) := by
          unfold zsi
          rw [List.set_set]
          congr 1
          omega
        rw [ecn] at x3
        have q1 := zc_roomOf_t (sc := sc) r1.2.1 hb1
        have q2 := zc_roomOf_t (sc := sc) y3.2.1 hb1
        exact ⟨w3, V94_4 h.1 ⟨_, h.2.1.ob, _, zc_howMany h.2.1, by omega, fun q => by omega, fun _ => ⟨_, zc_inOrder h.2.1 hk1, _, zc_placeOf_t h.2.1 hbm, by omega, fun q => absurd q g, fun _ => ⟨w1, z1, _, _, _, _, _, _, _, _, _, r1.1, _, r1.2.1.ob, _, q1, w2, y1, _, _, _, _, _, _, _, _, _, y3.1, _, y3.2.1.ob, _, q2, x1⟩⟩⟩, zFm_trans (zFm_B z2) (zFm_trans y2 x2), x3⟩
  obtain ⟨w', z1, z2, z3⟩ := key B [] w cn _ _ zmk rfl hc (pgF_len _) h6
  rw [show pkM B 0 - pkM [] 0 = pkM B 0 by show pkM B 0 - 0 = _; omega] at z3
  exact ⟨w', Zc_of rfl rfl (V94_0 z1), z2, z3⟩
theorem zc_welcome_1 (h : sQ w 1 m k hn cn B) (hB : B.length ≤ k.2.2.2.1) (hnm : ∀ b ∈ B, b.1 < k.2.2.2.1) {z : Int} (hz : 1 ≤ z ∧ z ≤ 300) :
    (80 ≤ k.2.2.2.1 ∧ Zc sc 62 [zp m, zj z] w none w 0 0) ∨
    (k.2.2.2.1 < 80 ∧ ∃ w' hn' cn' B', Zc sc 62 [zp m, zj z] w none w' 0 0 ∧ zFm w w' m (msz 1) ∧ sQ w' 1 m (k.1, k.2.1, k.2.2.1, k.2.2.2.1 + 1, k.2.2.2.2.1, k.2.2.2.2.2.1, k.2.2.2.2.2.2.1, zsi (k.2.2.2.2.2.2.2) (k.2.2.2.1) (k.2.2.2.2.1)) hn' cn' B' ∧ cLe cn cn' 150 ∧
      ((B' = B ∧ hn' = hn ∧ selP 1 (k.1) hn (holF 1 B) (roomF 1 (k.2.1) (k.2.2.1) z) (-1)) ∨ ∃ X Y p, B = X ++ Y ∧ B' = X ++ (k.2.2.2.1, p, z, roomF 1 (k.2.1) (k.2.2.1) z) :: Y ∧ hn' = hnF (k.1) hn p (roomF 1 (k.2.1) (k.2.2.1) z) ∧ selP 1 (k.1) hn (holF 1 B) (roomF 1 (k.2.1) (k.2.2.1) z) p ∧ 0 ≤ p)) := by
  obtain ⟨hc, hk, hh, hg, sn, hs, h6⟩ := id h
  have hkc := hk
  obtain ⟨k1, k2, k3, k4, k5, k6, k7, k8, k9⟩ := hkc
  by_cases g : 80 ≤ k.2.2.2.1
  · exact Or.inl ⟨g, Zc_of rfl rfl (V62_0_1 h6.1 h6.2.2.2.2.1 ⟨by omega, fun q => by omega, fun _ => ⟨rfl, rfl, rfl, rfl⟩⟩)⟩
  · right
    refine ⟨by omega, ?_⟩
    have f1 : zFm w (w.set (m + 10) (za (zsi (k.2.2.2.2.2.2.2) (k.2.2.2.1) (k.2.2.2.2.1)))) (m + 10) 1 := zFm_set (by omega) (by omega)
    have f2 : zFm (w.set (m + 10) (za (zsi (k.2.2.2.2.2.2.2) (k.2.2.2.1) (k.2.2.2.2.1)))) ((w.set (m + 10) (za (zsi (k.2.2.2.2.2.2.2) (k.2.2.2.1) (k.2.2.2.2.1)))).set m (mobj 1 m (k.1, k.2.1, k.2.2.1, k.2.2.2.1 + 1, k.2.2.2.2.1, k.2.2.2.2.2.1, k.2.2.2.2.2.2.1, zsi (k.2.2.2.2.2.2.2) (k.2.2.2.1) (k.2.2.2.2.1)) hn sn)) m 1 := zFm_set (by omega) (by omega)
    have hf : zFm w ((w.set (m + 10) (za (zsi (k.2.2.2.2.2.2.2) (k.2.2.2.1) (k.2.2.2.2.1)))).set m (mobj 1 m (k.1, k.2.1, k.2.2.1, k.2.2.2.1 + 1, k.2.2.2.2.1, k.2.2.2.2.2.1, k.2.2.2.2.2.2.1, zsi (k.2.2.2.2.2.2.2) (k.2.2.2.1) (k.2.2.2.2.1)) hn sn)) m (msz 1) := zFm_trans (zFm_mono f1 (by omega) (by have := msz_ge 1; omega)) (zFm_mono f2 (by omega) (by have := msz_ge 1; omega))
    have r1 : sR ((w.set (m + 10) (za (zsi (k.2.2.2.2.2.2.2) (k.2.2.2.1) (k.2.2.2.2.1)))).set m (mobj 1 m (k.1, k.2.1, k.2.2.1, k.2.2.2.1 + 1, k.2.2.2.2.1, k.2.2.2.2.2.1, k.2.2.2.2.2.2.1, zsi (k.2.2.2.2.2.2.2) (k.2.2.2.1) (k.2.2.2.2.1)) hn sn)) 1 m (k.1, k.2.1, k.2.2.1, k.2.2.2.1 + 1, k.2.2.2.2.1, k.2.2.2.2.2.1, k.2.2.2.2.2.2.1, zsi (k.2.2.2.2.2.2.2) (k.2.2.2.1) (k.2.2.2.2.1)) hn sn cn B (holF 1 B) (pgF B) :=
      ⟨zw_s (zw_o (by omega) h6.1), sB_fm f2 (by omega) (sB_fm f1 (by omega) h6.2.1), sH_fm f2 (by omega) (sH_fm f1 (by omega) h6.2.2.1), zFm_get f2 (zFm_get f1 h6.2.2.2.1 (by omega)) (by omega), zw_o (by omega) (zw_s h6.2.2.2.2.1), fun e => zFm_get f2 (zFm_get f1 (h6.2.2.2.2.2 e) (by omega)) (by omega)⟩
    have hk' : okK (k.1, k.2.1, k.2.2.1, k.2.2.2.1 + 1, k.2.2.2.2.1, k.2.2.2.2.2.1, k.2.2.2.2.2.2.1, zsi (k.2.2.2.2.2.2.2) (k.2.2.2.1) (k.2.2.2.2.1)) := by
      refine ⟨k1, k2, k3, ?_, k5, k6, k7, by dsimp only; rw [zsi_len]; exact k8, fun i => ?_⟩
      · dsimp only; omega
      · dsimp only
        by_cases hi : 0 ≤ i
        · rw [zgi_set (by omega) (by omega) hi]
          split
          · exact k5
          · exact k9 i
        · by_cases h0 : k.2.2.2.1 = 0
          · have e : zgi (zsi (k.2.2.2.2.2.2.2) (k.2.2.2.1) (k.2.2.2.2.1)) i = zgi (zsi (k.2.2.2.2.2.2.2) (k.2.2.2.1) (k.2.2.2.2.1)) 0 := by unfold zgi; rw [show i.toNat = (0 : Int).toNat by omega]
            rw [e, zgi_set (by omega) (by omega) (by omega), if_pos h0.symm]
            exact k5
          · have e : zgi (zsi (k.2.2.2.2.2.2.2) (k.2.2.2.1) (k.2.2.2.2.1)) i = zgi (zsi (k.2.2.2.2.2.2.2) (k.2.2.2.1) (k.2.2.2.2.1)) 0 := by unfold zgi; rw [show i.toNat = (0 : Int).toNat by omega]
            rw [e, zgi_set (by omega) (by omega) (by omega), if_neg (fun q => h0 q.symm)]
            exact k9 0
    have hrm := zc_room_1 (sc := sc) r1 hk' hz
    have hr := rOK_room (c := 1) (by omega) hk.2.1 hk.2.2.1 hz
    rcases zc_settle_1 (sc := sc) (⟨hc, hk', hh, hg, sn, hs, r1⟩ : sQ _ 1 m _ hn cn B) (by omega) (n := k.2.2.2.1) (by omega) (fun b hb => by have := hnm b hb; omega) hz hr with ⟨w1, cn1, z1, z2, z3, z4, z5⟩ | ⟨w1, cn1, X, Y, p, e0, z1, z2, z3, z4, z5, z6⟩
    · exact ⟨w1, hn, cn1, B, Zc_of rfl rfl (V62_0_1 h6.1 h6.2.2.2.2.1 ⟨by omega, fun _ => ⟨by omega, _, hrm, _, w1, z1, rfl, rfl, rfl, rfl⟩, fun q => by omega⟩), zFm_trans hf z2, z3, z4, Or.inl ⟨rfl, rfl, z5⟩⟩
    · exact ⟨w1, _, cn1, _, Zc_of rfl rfl (V62_0_1 h6.1 h6.2.2.2.2.1 ⟨by omega, fun _ => ⟨by omega, _, hrm, _, w1, z1, rfl, rfl, rfl, rfl⟩, fun q => by omega⟩), zFm_trans hf z2, z3, z4, Or.inr ⟨X, Y, p, e0, rfl, rfl, z5, z6⟩⟩
theorem zc_leave_1 (h : sQ w 1 m k hn cn B) (hnm : ∀ b ∈ B, b.1 < k.2.2.2.1) (har : -150 ≤ k.2.2.2.2.1) : ∃ w' cn', Zc sc 97 [zp m] w none w' 0 0 ∧ zFm w w' m (msz 1) ∧ sQ w' 1 m (k.1, k.2.1, k.2.2.1, k.2.2.2.1, k.2.2.2.2.1 - 1, k.2.2.2.2.2.1, k.2.2.2.2.2.2.1, k.2.2.2.2.2.2.2) hn cn' (B.filter fun b => !decide (zgi (k.2.2.2.2.2.2.2) b.1 = k.2.2.2.2.1)) ∧ cLe cn cn' 800 := by
  have key : ∀ (n : Nat) (x : Int) (w : List zE) (cn : List Int) (B : List bk_T), x + 1 = n → x < k.2.2.2.1 → sQ w 1 m k hn cn B → ∃ w' cn', Zr sc 97 7 [zp m, zj x] [] w none w' 0 0 ∧ zFm w w' m (msz 1) ∧ sQ w' 1 m (k.1, k.2.1, k.2.2.1, k.2.2.2.1, k.2.2.2.2.1 - 1, k.2.2.2.2.2.1, k.2.2.2.2.2.2.1, k.2.2.2.2.2.2.2) hn cn' (B.filter fun b => !(decide (b.1 ≤ x) && decide (zgi (k.2.2.2.2.2.2.2) b.1 = k.2.2.2.2.1))) ∧ cLe cn cn' (10 * n) := by
    intro n
    induction n with
    | zero =>
      intro x w cn B hx hxn h
      obtain ⟨hc, hk, hh, hg, sn, hs, h6⟩ := h
      have hk' : okK (k.1, k.2.1, k.2.2.1, k.2.2.2.1, k.2.2.2.2.1 - 1, k.2.2.2.2.2.1, k.2.2.2.2.2.2.1, k.2.2.2.2.2.2.2) := by
        obtain ⟨k1, k2, k3, k4, k5, k6, k7, k8, k9⟩ := hk
        exact ⟨k1, k2, k3, k4, by dsimp only; omega, k6, k7, k8, k9⟩
      obtain ⟨r1, hf⟩ := sR_obj (k' := (k.1, k.2.1, k.2.2.1, k.2.2.2.1, k.2.2.2.2.1 - 1, k.2.2.2.2.2.1, k.2.2.2.2.2.2.1, k.2.2.2.2.2.2.2)) (hn' := hn) (sn' := sn) h6 rfl
      have ef : (B.filter fun b => !(decide (b.1 ≤ x) && decide (zgi (k.2.2.2.2.2.2.2) b.1 = k.2.2.2.2.1))) = B := by
        rw [List.filter_eq_self]
        intro b hb
        have := (h6.2.1.1.2 b hb).1
        rw [decide_eq_false (show ¬ b.1 ≤ x by omega)]
        rfl
      rw [ef]
      exact ⟨_, cn, V97_7_1 h6.1 h6.2.2.2.2.1 ⟨by omega, fun _ => ⟨rfl, rfl, rfl, rfl⟩, fun q => by omega⟩, hf, ⟨hc, hk', hh, hg, sn, hs, r1⟩, cLe_refl hc (by omega)⟩
    | succ n ih =>
      intro x w cn B hx hxn h
      obtain ⟨hc, hk, hh, hg, sn, hs, h6⟩ := id h
      have hkc := hk
      obtain ⟨k1, k2, k3, k4, k5, k6, k7, k8, k9⟩ := hkc
      have k9x := k9 x
      by_cases g : zgi (k.2.2.2.2.2.2.2) x = k.2.2.2.2.1
      · rcases bcase B x with ⟨b, hb, e⟩ | hno
        · obtain ⟨X, Y, rfl⟩ := List.append_of_mem hb
          subst e
          obtain ⟨w1, cn1, z1, z2, z3, z4⟩ := zc_release_1 (sc := sc) h
          obtain ⟨w2, cn2, y1, y2, y3, y4⟩ := ih (b.1 - 1) w1 cn1 (X ++ Y) (by omega) (by omega) z3
          have hm := okB_mid.mp h6.2.1.1
          have ef : ((X ++ b :: Y).filter fun y => !(decide (y.1 ≤ b.1) && decide (zgi (k.2.2.2.2.2.2.2) y.1 = k.2.2.2.2.1))) = ((X ++ Y).filter fun y => !(decide (y.1 ≤ b.1 - 1) && decide (zgi (k.2.2.2.2.2.2.2) y.1 = k.2.2.2.2.1))) := by
            rw [filter_mid _ _ _ _ (by rw [decide_eq_true (Int.le_refl b.1), decide_eq_true g]; rfl)]
            refine List.filter_congr fun y hy => ?_
            have : y.1 ≠ b.1 := by
              rcases List.mem_append.mp hy with hy | hy
              · exact (hm.2.1 y hy).1
              · exact fun e => (hm.2.2.1 y hy).1 e.symm
            by_cases q : y.1 ≤ b.1
            · rw [decide_eq_true q, decide_eq_true (show y.1 ≤ b.1 - 1 by omega)]
            · rw [decide_eq_false q, decide_eq_false (show ¬ y.1 ≤ b.1 - 1 by omega)]
          rw [ef]
          rw [show b.1 - 1 = b.1 + -1 by omega] at y1
          exact ⟨w2, cn2, V97_7_1 h6.1 h6.2.2.2.2.1 ⟨by omega, fun q => by omega, fun _ => ⟨by omega, by omega, fun q => absurd g q, fun _ => ⟨w1, z1, y1⟩⟩⟩, zFm_trans z2 y2, y3, cLe_trans z4 y4 (by omega)⟩
        · have z1 := zc_release_f_1 (sc := sc) h (n := x) (by omega) hno
          obtain ⟨w2, cn2, y1, y2, y3, y4⟩ := ih (x - 1) w cn B (by omega) (by omega) h
          have ef : (B.filter fun y => !(decide (y.1 ≤ x) && decide (zgi (k.2.2.2.2.2.2.2) y.1 = k.2.2.2.2.1))) = (B.filter fun y => !(decide (y.1 ≤ x - 1) && decide (zgi (k.2.2.2.2.2.2.2) y.1 = k.2.2.2.2.1))) := by
            refine List.filter_congr fun y hy => ?_
            have := hno y hy
            by_cases q : y.1 ≤ x
            · rw [decide_eq_true q, decide_eq_true (show y.1 ≤ x - 1 by omega)]
            · rw [decide_eq_false q, decide_eq_false (show ¬ y.1 ≤ x - 1 by omega)]
          rw [ef]
          rw [show x - 1 = x + -1 by omega] at y1
          exact ⟨w2, cn2, V97_7_1 h6.1 h6.2.2.2.2.1 ⟨by omega, fun q => by omega, fun _ => ⟨by omega, by omega, fun q => absurd g q, fun _ => ⟨w, z1, y1⟩⟩⟩, y2, y3, cLe_mono y4 (by omega)⟩
      · obtain ⟨w2, cn2, y1, y2, y3, y4⟩ := ih (x - 1) w cn B (by omega) (by omega) h
        have ef : (B.filter fun y => !(decide (y.1 ≤ x) && decide (zgi (k.2.2.2.2.2.2.2) y.1 = k.2.2.2.2.1))) = (B.filter fun y => !(decide (y.1 ≤ x - 1) && decide (zgi (k.2.2.2.2.2.2.2) y.1 = k.2.2.2.2.1))) := by
          refine List.filter_congr fun y hy => ?_
          by_cases q2 : y.1 = x
          · rw [q2, decide_eq_false g, Bool.and_false, Bool.and_false]
          · by_cases q : y.1 ≤ x
            · rw [decide_eq_true q, decide_eq_true (show y.1 ≤ x - 1 by omega)]
            · rw [decide_eq_false q, decide_eq_false (show ¬ y.1 ≤ x - 1 by omega)]
        rw [ef]
        rw [show x - 1 = x + -1 by omega] at y1
        exact ⟨w2, cn2, V97_7_1 h6.1 h6.2.2.2.2.1 ⟨by omega, fun q => by omega, fun _ => ⟨by omega, by omega, fun _ => y1, fun q => absurd g q⟩⟩, y2, y3, cLe_mono y4 (by omega)⟩
  have hk4 := h.2.1.2.2.2.1
  have h60 := h.2.2.2.2
  obtain ⟨w', cn', z1, z2, z3, z4⟩ := key (k.2.2.2.1).toNat (k.2.2.2.1 - 1) w cn B (by omega) (by omega) h
  have ef : (B.filter fun b => !(decide (b.1 ≤ k.2.2.2.1 - 1) && decide (zgi (k.2.2.2.2.2.2.2) b.1 = k.2.2.2.2.1))) = B.filter fun b => !decide (zgi (k.2.2.2.2.2.2.2) b.1 = k.2.2.2.2.1) := by
    refine List.filter_congr fun y hy => ?_
    have := hnm y hy
    rw [decide_eq_true (show y.1 ≤ k.2.2.2.1 - 1 by omega), Bool.true_and]
  rw [ef] at z3
  obtain ⟨sn, hs, h6⟩ := h60
  exact ⟨w', cn', Zc_of rfl rfl (V97_0_1 h6.1 z1), z2, z3, cLe_mono z4 (by omega)⟩
theorem zc_welcome_2 (h : sQ w 2 m k hn cn B) (hB : B.length ≤ k.2.2.2.1) (hnm : ∀ b ∈ B, b.1 < k.2.2.2.1) {z : Int} (hz : 1 ≤ z ∧ z ≤ 300) :
    (80 ≤ k.2.2.2.1 ∧ Zc sc 62 [zp m, zj z] w none w 0 0) ∨
    (k.2.2.2.1 < 80 ∧ ∃ w' hn' cn' B', Zc sc 62 [zp m, zj z] w none w' 0 0 ∧ zFm w w' m (msz 2) ∧ sQ w' 2 m (k.1, k.2.1, k.2.2.1, k.2.2.2.1 + 1, k.2.2.2.2.1, k.2.2.2.2.2.1, k.2.2.2.2.2.2.1, zsi (k.2.2.2.2.2.2.2) (k.2.2.2.1) (k.2.2.2.2.1)) hn' cn' B' ∧ cLe cn cn' 150 ∧
      ((B' = B ∧ hn' = hn ∧ selP 2 (k.1) hn (holF 2 B) (roomF 2 (k.2.1) (k.2.2.1) z) (-1)) ∨ ∃ X Y p, B = X ++ Y ∧ B' = X ++ (k.2.2.2.1, p, z, roomF 2 (k.2.1) (k.2.2.1) z) :: Y ∧ hn' = hnF (k.1) hn p (roomF 2 (k.2.1) (k.2.2.1) z) ∧ selP 2 (k.1) hn (holF 2 B) (roomF 2 (k.2.1) (k.2.2.1) z) p ∧ 0 ≤ p)) := by
  obtain ⟨hc, hk, hh, hg, sn, hs, h6⟩ := id h
  have hkc := hk
  obtain ⟨k1, k2, k3, k4, k5, k6, k7, k8, k9⟩ := hkc
  by_cases g : 80 ≤ k.2.2.2.1
  · exact Or.inl ⟨g, Zc_of rfl rfl (V62_0_2 h6.1 h6.2.2.2.2.1 ⟨by omega, fun q => by omega, fun _ => ⟨rfl, rfl, rfl, rfl⟩⟩)⟩
  · right
    refine ⟨by omega, ?_⟩
    have f1 : zFm w (w.set (m + 10) (za (zsi (k.2.2.2.2.2.2.2) (k.2.2.2.1) (k.2.2.2.2.1)))) (m + 10) 1 := zFm_set (by omega) (by omega)
    have f2 : zFm (w.set (m + 10) (za (zsi (k.2.2.2.2.2.2.2) (k.2.2.2.1) (k.2.2.2.2.1)))) ((w.set (m + 10) (za (zsi (k.2.2.2.2.2.2.2) (k.2.2.2.1) (k.2.2.2.2.1)))).set m (mobj 2 m (k.1, k.2.1, k.2.2.1, k.2.2.2.1 + 1, k.2.2.2.2.1, k.2.2.2.2.2.1, k.2.2.2.2.2.2.1, zsi (k.2.2.2.2.2.2.2) (k.2.2.2.1) (k.2.2.2.2.1)) hn sn)) m 1 := zFm_set (by omega) (by omega)
    have hf : zFm w ((w.set (m + 10) (za (zsi (k.2.2.2.2.2.2.2) (k.2.2.2.1) (k.2.2.2.2.1)))).set m (mobj 2 m (k.1, k.2.1, k.2.2.1, k.2.2.2.1 + 1, k.2.2.2.2.1, k.2.2.2.2.2.1, k.2.2.2.2.2.2.1, zsi (k.2.2.2.2.2.2.2) (k.2.2.2.1) (k.2.2.2.2.1)) hn sn)) m (msz 2) := zFm_trans (zFm_mono f1 (by omega) (by have := msz_ge 2; omega)) (zFm_mono f2 (by omega) (by have := msz_ge 2; omega))
    have r1 : sR ((w.set (m + 10) (za (zsi (k.2.2.2.2.2.2.2) (k.2.2.2.1) (k.2.2.2.2.1)))).set m (mobj 2 m (k.1, k.2.1, k.2.2.1, k.2.2.2.1 + 1, k.2.2.2.2.1, k.2.2.2.2.2.1, k.2.2.2.2.2.2.1, zsi (k.2.2.2.2.2.2.2) (k.2.2.2.1) (k.2.2.2.2.1)) hn sn)) 2 m (k.1, k.2.1, k.2.2.1, k.2.2.2.1 + 1, k.2.2.2.2.1, k.2.2.2.2.2.1, k.2.2.2.2.2.2.1, zsi (k.2.2.2.2.2.2.2) (k.2.2.2.1) (k.2.2.2.2.1)) hn sn cn B (holF 2 B) (pgF B) :=
      ⟨zw_s (zw_o (by omega) h6.1), sB_fm f2 (by omega) (sB_fm f1 (by omega) h6.2.1), sH_fm f2 (by omega) (sH_fm f1 (by omega) h6.2.2.1), zFm_get f2 (zFm_get f1 h6.2.2.2.1 (by omega)) (by omega), zw_o (by omega) (zw_s h6.2.2.2.2.1), fun e => zFm_get f2 (zFm_get f1 (h6.2.2.2.2.2 e) (by omega)) (by omega)⟩
    have hk' : okK (k.1, k.2.1, k.2.2.1, k.2.2.2.1 + 1, k.2.2.2.2.1, k.2.2.2.2.2.1, k.2.2.2.2.2.2.1, zsi (k.2.2.2.2.2.2.2) (k.2.2.2.1) (k.2.2.2.2.1)) := by
      refine ⟨k1, k2, k3, ?_, k5, k6, k7, by dsimp only; rw [zsi_len]; exact k8, fun i => ?_⟩
      · dsimp only; omega
      · dsimp only
        by_cases hi : 0 ≤ i
        · rw [zgi_set (by omega) (by omega) hi]
          split
          · exact k5
          · exact k9 i
        · by_cases h0 : k.2.2.2.1 = 0
          · have e : zgi (zsi (k.2.2.2.2.2.2.2) (k.2.2.2.1) (k.2.2.2.2.1)) i = zgi (zsi (k.2.2.2.2.2.2.2) (k.2.2.2.1) (k.2.2.2.2.1)) 0 := by unfold zgi; rw [show i.toNat = (0 : Int).toNat by omega]
            rw [e, zgi_set (by omega) (by omega) (by omega), if_pos h0.symm]
            exact k5
          · have e : zgi (zsi (k.2.2.2.2.2.2.2) (k.2.2.2.1) (k.2.2.2.2.1)) i = zgi (zsi (k.2.2.2.2.2.2.2) (k.2.2.2.1) (k.2.2.2.2.1)) 0 := by unfold zgi; rw [show i.toNat = (0 : Int).toNat by omega]
            rw [e, zgi_set (by omega) (by omega) (by omega), if_neg (fun q => h0 q.symm)]
            exact k9 0
    have hrm := zc_room_2 (sc := sc) r1 hk' hz
    have hr := rOK_room (c := 2) (by omega) hk.2.1 hk.2.2.1 hz
    rcases zc_settle_2 (sc := sc) (⟨hc, hk', hh, hg, sn, hs, r1⟩ : sQ _ 2 m _ hn cn B) (by omega) (n := k.2.2.2.1) (by omega) (fun b hb => by have := hnm b hb; omega) hz hr with ⟨w1, cn1, z1, z2, z3, z4, z5⟩ | ⟨w1, cn1, X, Y, p, e0, z1, z2, z3, z4, z5, z6⟩
    · exact ⟨w1, hn, cn1, B, Zc_of rfl rfl (V62_0_2 h6.1 h6.2.2.2.2.1 ⟨by omega, fun _ => ⟨by omega, _, hrm, _, w1, z1, rfl, rfl, rfl, rfl⟩, fun q => by omega⟩), zFm_trans hf z2, z3, z4, Or.inl ⟨rfl, rfl, z5⟩⟩
    · exact ⟨w1, _, cn1, _, Zc_of rfl rfl (V62_0_2 h6.1 h6.2.2.2.2.1 ⟨by omega, fun _ => ⟨by omega, _, hrm, _, w1, z1, rfl, rfl, rfl, rfl⟩, fun q => by omega⟩), zFm_trans hf z2, z3, z4, Or.inr ⟨X, Y, p, e0, rfl, rfl, z5, z6⟩⟩
theorem zc_leave_2 (h : sQ w 2 m k hn cn B) (hnm : ∀ b ∈ B, b.1 < k.2.2.2.1) (har : -150 ≤ k.2.2.2.2.1) : ∃ w' cn', Zc sc 97 [zp m] w none w' 0 0 ∧ zFm w w' m (msz 2) ∧ sQ w' 2 m (k.1, k.2.1, k.2.2.1, k.2.2.2.1, k.2.2.2.2.1 - 1, k.2.2.2.2.2.1, k.2.2.2.2.2.2.1, k.2.2.2.2.2.2.2) hn cn' (B.filter fun b => !decide (zgi (k.2.2.2.2.2.2.2) b.1 = k.2.2.2.2.1)) ∧ cLe cn cn' 800 := by
  have key : ∀ (n : Nat) (x : Int) (w : List zE) (cn : List Int) (B : List bk_T), x + 1 = n → x < k.2.2.2.1 → sQ w 2 m k hn cn B → ∃ w' cn', Zr sc 97 7 [zp m, zj x] [] w none w' 0 0 ∧ zFm w w' m (msz 2) ∧ sQ w' 2 m (k.1, k.2.1, k.2.2.1, k.2.2.2.1, k.2.2.2.2.1 - 1, k.2.2.2.2.2.1, k.2.2.2.2.2.2.1, k.2.2.2.2.2.2.2) hn cn' (B.filter fun b => !(decide (b.1 ≤ x) && decide (zgi (k.2.2.2.2.2.2.2) b.1 = k.2.2.2.2.1))) ∧ cLe cn cn' (10 * n) := by
    intro n
    induction n with
    | zero =>
      intro x w cn B hx hxn h
      obtain ⟨hc, hk, hh, hg, sn, hs, h6⟩ := h
      have hk' : okK (k.1, k.2.1, k.2.2.1, k.2.2.2.1, k.2.2.2.2.1 - 1, k.2.2.2.2.2.1, k.2.2.2.2.2.2.1, k.2.2.2.2.2.2.2) := by
        obtain ⟨k1, k2, k3, k4, k5, k6, k7, k8, k9⟩ := hk
        exact ⟨k1, k2, k3, k4, by dsimp only; omega, k6, k7, k8, k9⟩
      obtain ⟨r1, hf⟩ := sR_obj (k' := (k.1, k.2.1, k.2.2.1, k.2.2.2.1, k.2.2.2.2.1 - 1, k.2.2.2.2.2.1, k.2.2.2.2.2.2.1, k.2.2.2.2.2.2.2)) (hn' := hn) (sn' := sn) h6 rfl
      have ef : (B.filter fun b => !(decide (b.1 ≤ x) && decide (zgi (k.2.2.2.2.2.2.2) b.1 = k.2.2.2.2.1))) = B := by
        rw [List.filter_eq_self]
        intro b hb
        have := (h6.2.1.1.2 b hb).1
        rw [decide_eq_false (show ¬ b.1 ≤ x by omega)]
        rfl
      rw [ef]
      exact ⟨_, cn, V97_7_2 h6.1 h6.2.2.2.2.1 ⟨by omega, fun _ => ⟨rfl, rfl, rfl, rfl⟩, fun q => by omega⟩, hf, ⟨hc, hk', hh, hg, sn, hs, r1⟩, cLe_refl hc (by omega)⟩
    | succ n ih =>
      intro x w cn B hx hxn h
      obtain ⟨hc, hk, hh, hg, sn, hs, h6⟩ := id h
      have hkc := hk
      obtain ⟨k1, k2, k3, k4, k5, k6, k7, k8, k9⟩ := hkc
      have k9x := k9 x
      by_cases g : zgi (k.2.2.2.2.2.2.2) x = k.2.2.2.2.1
      · rcases bcase B x with ⟨b, hb, e⟩ | hno
        · obtain ⟨X, Y, rfl⟩ := List.append_of_mem hb
          subst e
          obtain ⟨w1, cn1, z1, z2, z3, z4⟩ := zc_release_2 (sc := sc) h
          obtain ⟨w2, cn2, y1, y2, y3, y4⟩ := ih (b.1 - 1) w1 cn1 (X ++ Y) (by omega) (by omega) z3
          have hm := okB_mid.mp h6.2.1.1
          have ef : ((X ++ b :: Y).filter fun y => !(decide (y.1 ≤ b.1) && decide (zgi (k.2.2.2.2.2.2.2) y.1 = k.2.2.2.2.1))) = ((X ++ Y).filter fun y => !(decide (y.1 ≤ b.1 - 1) && decide (zgi (k.2.2.2.2.2.2.2) y.1 = k.2.2.2.2.1))) := by
            rw [filter_mid _ _ _ _ (by rw [decide_eq_true (Int.le_refl b.1), decide_eq_true g]; rfl)]
            refine List.filter_congr fun y hy => ?_
            have : y.1 ≠ b.1 := by
              rcases List.mem_append.mp hy with hy | hy
              · exact (hm.2.1 y hy).1
              · exact fun e => (hm.2.2.1 y hy).1 e.symm
            by_cases q : y.1 ≤ b.1
            · rw [decide_eq_true q, decide_eq_true (show y.1 ≤ b.1 - 1 by omega)]
            · rw [decide_eq_false q, decide_eq_false (show ¬ y.1 ≤ b.1 - 1 by omega)]
          rw [ef]
          rw [show b.1 - 1 = b.1 + -1 by omega] at y1
          exact ⟨w2, cn2, V97_7_2 h6.1 h6.2.2.2.2.1 ⟨by omega, fun q => by omega, fun _ => ⟨by omega, by omega, fun q => absurd g q, fun _ => ⟨w1, z1, y1⟩⟩⟩, zFm_trans z2 y2, y3, cLe_trans z4 y4 (by omega)⟩
        · have z1 := zc_release_f_2 (sc := sc) h (n := x) (by omega) hno
          obtain ⟨w2, cn2, y1, y2, y3, y4⟩ := ih (x - 1) w cn B (by omega) (by omega) h
          have ef : (B.filter fun y => !(decide (y.1 ≤ x) && decide (zgi (k.2.2.2.2.2.2.2) y.1 = k.2.2.2.2.1))) = (B.filter fun y => !(decide (y.1 ≤ x - 1) && decide (zgi (k.2.2.2.2.2.2.2) y.1 = k.2.2.2.2.1))) := by
            refine List.filter_congr fun y hy => ?_
            have := hno y hy
            by_cases q : y.1 ≤ x
            · rw [decide_eq_true q, decide_eq_true (show y.1 ≤ x - 1 by omega)]
            · rw [decide_eq_false q, decide_eq_false (show ¬ y.1 ≤ x - 1 by omega)]
          rw [ef]
          rw [show x - 1 = x + -1 by omega] at y1
          exact ⟨w2, cn2, V97_7_2 h6.1 h6.2.2.2.2.1 ⟨by omega, fun q => by omega, fun _ => ⟨by omega, by omega, fun q => absurd g q, fun _ => ⟨w, z1, y1⟩⟩⟩, y2, y3, cLe_mono y4 (by omega)⟩
      · obtain ⟨w2, cn2, y1, y2, y3, y4⟩ := ih (x - 1) w cn B (by omega) (by omega) h
        have ef : (B.filter fun y => !(decide (y.1 ≤ x) && decide (zgi (k.2.2.2.2.2.2.2) y.1 = k.2.2.2.2.1))) = (B.filter fun y => !(decide (y.1 ≤ x - 1) && decide (zgi (k.2.2.2.2.2.2.2) y.1 = k.2.2.2.2.1))) := by
          refine List.filter_congr fun y hy => ?_
          by_cases q2 : y.1 = x
          · rw [q2, decide_eq_false g, Bool.and_false, Bool.and_false]
          · by_cases q : y.1 ≤ x
            · rw [decide_eq_true q, decide_eq_true (show y.1 ≤ x - 1 by omega)]
            · rw [decide_eq_false q, decide_eq_false (show ¬ y.1 ≤ x - 1 by omega)]
        rw [ef]
        rw [show x - 1 = x + -1 by omega] at y1
        exact ⟨w2, cn2, V97_7_2 h6.1 h6.2.2.2.2.1 ⟨by omega, fun q => by omega, fun _ => ⟨by omega, by omega, fun _ => y1, fun q => absurd g q⟩⟩, y2, y3, cLe_mono y4 (by omega)⟩
  have hk4 := h.2.1.2.2.2.1
  have h60 := h.2.2.2.2
  obtain ⟨w', cn', z1, z2, z3, z4⟩ := key (k.2.2.2.1).toNat (k.2.2.2.1 - 1) w cn B (by omega) (by omega) h
  have ef : (B.filter fun b => !(decide (b.1 ≤ k.2.2.2.1 - 1) && decide (zgi (k.2.2.2.2.2.2.2) b.1 = k.2.2.2.2.1))) = B.filter fun b => !decide (zgi (k.2.2.2.2.2.2.2) b.1 = k.2.2.2.2.1) := by
    refine List.filter_congr fun y hy => ?_
    have := hnm y hy
    rw [decide_eq_true (show y.1 ≤ k.2.2.2.1 - 1 by omega), Bool.true_and]
  rw [ef] at z3
  obtain ⟨sn, hs, h6⟩ := h60
  exact ⟨w', cn', Zc_of rfl rfl (V97_0_2 h6.1 z1), z2, z3, cLe_mono z4 (by omega)⟩
theorem zc_welcome_4 (h : sQ w 4 m k hn cn B) (hB : B.length ≤ k.2.2.2.1) (hnm : ∀ b ∈ B, b.1 < k.2.2.2.1) {z : Int} (hz : 1 ≤ z ∧ z ≤ 300) :
    (80 ≤ k.2.2.2.1 ∧ Zc sc 62 [zp m, zj z] w none w 0 0) ∨
    (k.2.2.2.1 < 80 ∧ ∃ w' hn' cn' B', Zc sc 62 [zp m, zj z] w none w' 0 0 ∧ zFm w w' m (msz 4) ∧ sQ w' 4 m (k.1, k.2.1, k.2.2.1, k.2.2.2.1 + 1, k.2.2.2.2.1, k.2.2.2.2.2.1, k.2.2.2.2.2.2.1, zsi (k.2.2.2.2.2.2.2) (k.2.2.2.1) (k.2.2.2.2.1)) hn' cn' B' ∧ cLe cn cn' 150 ∧
      ((B' = B ∧ hn' = hn ∧ selP 4 (k.1) hn (holF 4 B) (roomF 4 (k.2.1) (k.2.2.1) z) (-1)) ∨ ∃ X Y p, B = X ++ Y ∧ B' = X ++ (k.2.2.2.1, p, z, roomF 4 (k.2.1) (k.2.2.1) z) :: Y ∧ hn' = hnF (k.1) hn p (roomF 4 (k.2.1) (k.2.2.1) z) ∧ selP 4 (k.1) hn (holF 4 B) (roomF 4 (k.2.1) (k.2.2.1) z) p ∧ 0 ≤ p)) := by
  obtain ⟨hc, hk, hh, hg, sn, hs, h6⟩ := id h
  have hkc := hk
  obtain ⟨k1, k2, k3, k4, k5, k6, k7, k8, k9⟩ := hkc
  by_cases g : 80 ≤ k.2.2.2.1
  · exact Or.inl ⟨g, Zc_of rfl rfl (V62_0_4 h6.1 h6.2.2.2.2.1 ⟨by omega, fun q => by omega, fun _ => ⟨rfl, rfl, rfl, rfl⟩⟩)⟩
  · right
    refine ⟨by omega, ?_⟩
    have f1 : zFm w (w.set (m + 10) (za (zsi (k.2.2.2.2.2.2.2) (k.2.2.2.1) (k.2.2.2.2.1)))) (m + 10) 1 := zFm_set (by omega) (by omega)
    have f2 : zFm (w.set (m + 10) (za (zsi (k.2.2.2.2.2.2.2) (k.2.2.2.1) (k.2.2.2.2.1)))) ((w.set (m + 10) (za (zsi (k.2.2.2.2.2.2.2) (k.2.2.2.1) (k.2.2.2.2.1)))).set m (mobj 4 m (k.1, k.2.1, k.2.2.1, k.2.2.2.1 + 1, k.2.2.2.2.1, k.2.2.2.2.2.1, k.2.2.2.2.2.2.1, zsi (k.2.2.2.2.2.2.2) (k.2.2.2.1) (k.2.2.2.2.1)) hn sn)) m 1 := zFm_set (by omega) (by omega)
    have hf : zFm w ((w.set (m + 10) (za (zsi (k.2.2.2.2.2.2.2) (k.2.2.2.1) (k.2.2.2.2.1)))).set m (mobj 4 m (k.1, k.2.1, k.2.2.1, k.2.2.2.1 + 1, k.2.2.2.2.1, k.2.2.2.2.2.1, k.2.2.2.2.2.2.1, zsi (k.2.2.2.2.2.2.2) (k.2.2.2.1) (k.2.2.2.2.1)) hn sn)) m (msz 4) := zFm_trans (zFm_mono f1 (by omega) (by have := msz_ge 4; omega)) (zFm_mono f2 (by omega) (by have := msz_ge 4; omega))
    have r1 : sR ((w.set (m + 10) (za (zsi (k.2.2.2.2.2.2.2) (k.2.2.2.1) (k.2.2.2.2.1)))).set m (mobj 4 m (k.1, k.2.1, k.2.2.1, k.2.2.2.1 + 1, k.2.2.2.2.1, k.2.2.2.2.2.1, k.2.2.2.2.2.2.1, zsi (k.2.2.2.2.2.2.2) (k.2.2.2.1) (k.2.2.2.2.1)) hn sn)) 4 m (k.1, k.2.1, k.2.2.1, k.2.2.2.1 + 1, k.2.2.2.2.1, k.2.2.2.2.2.1, k.2.2.2.2.2.2.1, zsi (k.2.2.2.2.2.2.2) (k.2.2.2.1) (k.2.2.2.2.1)) hn sn cn B (holF 4 B) (pgF B) :=
      ⟨zw_s (zw_o (by omega) h6.1), sB_fm f2 (by omega) (sB_fm f1 (by omega) h6.2.1), sH_fm f2 (by omega) (sH_fm f1 (by omega) h6.2.2.1), zFm_get f2 (zFm_get f1 h6.2.2.2.1 (by omega)) (by omega), zw_o (by omega) (zw_s h6.2.2.2.2.1), fun e => zFm_get f2 (zFm_get f1 (h6.2.2.2.2.2 e) (by omega)) (by omega)⟩
    have hk' : okK (k.1, k.2.1, k.2.2.1, k.2.2.2.1 + 1, k.2.2.2.2.1, k.2.2.2.2.2.1, k.2.2.2.2.2.2.1, zsi (k.2.2.2.2.2.2.2) (k.2.2.2.1) (k.2.2.2.2.1)) := by
      refine ⟨k1, k2, k3, ?_, k5, k6, k7, by dsimp only; rw [zsi_len]; exact k8, fun i => ?_⟩
      · dsimp only; omega
      · dsimp only
        by_cases hi : 0 ≤ i
        · rw [zgi_set (by omega) (by omega) hi]
          split
          · exact k5
          · exact k9 i
        · by_cases h0 : k.2.2.2.1 = 0
          · have e : zgi (zsi (k.2.2.2.2.2.2.2) (k.2.2.2.1) (k.2.2.2.2.1)) i = zgi (zsi (k.2.2.2.2.2.2.2) (k.2.2.2.1) (k.2.2.2.2.1)) 0 := by unfold zgi; rw [show i.toNat = (0 : Int).toNat by omega]
            rw [e, zgi_set (by omega) (by omega) (by omega), if_pos h0.symm]
            exact k5
          · have e : zgi (zsi (k.2.2.2.2.2.2.2) (k.2.2.2.1) (k.2.2.2.2.1)) i = zgi (zsi (k.2.2.2.2.2.2.2) (k.2.2.2.1) (k.2.2.2.2.1)) 0 := by unfold zgi; rw [show i.toNat = (0 : Int).toNat by omega]
            rw [e, zgi_set (by omega) (by omega) (by omega), if_neg (fun q => h0 q.symm)]
            exact k9 0
    have hrm := zc_room_4 (sc := sc) r1 hk' hz
    have hr := rOK_room (c := 4) (by omega) hk.2.1 hk.2.2.1 hz
    rcases zc_settle_4 (sc := sc) (⟨hc, hk', hh, hg, sn, hs, r1⟩ : sQ _ 4 m _ hn cn B) (by omega) (n := k.2.2.2.1) (by omega) (fun b hb => by have := hnm b hb; omega) hz hr with ⟨w1, cn1, z1, z2, z3, z4, z5⟩ | ⟨w1, cn1, X, Y, p, e0, z1, z2, z3, z4, z5, z6⟩
    · exact ⟨w1, hn, cn1, B, Zc_of rfl rfl (V62_0_4 h6.1 h6.2.2.2.2.1 ⟨by omega, fun _ => ⟨by omega, _, hrm, _, w1, z1, rfl, rfl, rfl, rfl⟩, fun q => by omega⟩), zFm_trans hf z2, z3, z4, Or.inl ⟨rfl, rfl, z5⟩⟩
    · exact ⟨w1, _, cn1, _, Zc_of rfl rfl (V62_0_4 h6.1 h6.2.2.2.2.1 ⟨by omega, fun _ => ⟨by omega, _, hrm, _, w1, z1, rfl, rfl, rfl, rfl⟩, fun q => by omega⟩), zFm_trans hf z2, z3, z4, Or.inr ⟨X, Y, p, e0, rfl, rfl, z5, z6⟩⟩
theorem zc_leave_4 (h : sQ w 4 m k hn cn B) (hnm : ∀ b ∈ B, b.1 < k.2.2.2.1) (har : -150 ≤ k.2.2.2.2.1) : ∃ w' cn', Zc sc 97 [zp m] w none w' 0 0 ∧ zFm w w' m (msz 4) ∧ sQ w' 4 m (k.1, k.2.1, k.2.2.1, k.2.2.2.1, k.2.2.2.2.1 - 1, k.2.2.2.2.2.1, k.2.2.2.2.2.2.1, k.2.2.2.2.2.2.2) hn cn' (B.filter fun b => !decide (zgi (k.2.2.2.2.2.2.2) b.1 = k.2.2.2.2.1)) ∧ cLe cn cn' 800 := by
  have key : ∀ (n : Nat) (x : Int) (w : List zE) (cn : List Int) (B : List bk_T), x + 1 = n → x < k.2.2.2.1 → sQ w 4 m k hn cn B → ∃ w' cn', Zr sc 97 7 [zp m, zj x] [] w none w' 0 0 ∧ zFm w w' m (msz 4) ∧ sQ w' 4 m (k.1, k.2.1, k.2.2.1, k.2.2.2.1, k.2.2.2.2.1 - 1, k.2.2.2.2.2.1, k.2.2.2.2.2.2.1, k.2.2.2.2.2.2.2) hn cn' (B.filter fun b => !(decide (b.1 ≤ x) && decide (zgi (k.2.2.2.2.2.2.2) b.1 = k.2.2.2.2.1))) ∧ cLe cn cn' (10 * n) := by
    intro n
    induction n with
    | zero =>
      intro x w cn B hx hxn h
      obtain ⟨hc, hk, hh, hg, sn, hs, h6⟩ := h
      have hk' : okK (k.1, k.2.1, k.2.2.1, k.2.2.2.1, k.2.2.2.2.1 - 1, k.2.2.2.2.2.1, k.2.2.2.2.2.2.1, k.2.2.2.2.2.2.2) := by
        obtain ⟨k1, k2, k3, k4, k5, k6, k7, k8, k9⟩ := hk
        exact ⟨k1, k2, k3, k4, by dsimp only; omega, k6, k7, k8, k9⟩
      obtain ⟨r1, hf⟩ := sR_obj (k' := (k.1, k.2.1, k.2.2.1, k.2.2.2.1, k.2.2.2.2.1 - 1, k.2.2.2.2.2.1, k.2.2.2.2.2.2.1, k.2.2.2.2.2.2.2)) (hn' := hn) (sn' := sn) h6 rfl
      have ef : (B.filter fun b => !(decide (b.1 ≤ x) && decide (zgi (k.2.2.2.2.2.2.2) b.1 = k.2.2.2.2.1))) = B := by
        rw [List.filter_eq_self]
        intro b hb
        have := (h6.2.1.1.2 b hb).1
        rw [decide_eq_false (show ¬ b.1 ≤ x by omega)]
        rfl
      rw [ef]
      exact ⟨_, cn, V97_7_4 h6.1 h6.2.2.2.2.1 ⟨by omega, fun _ => ⟨rfl, rfl, rfl, rfl⟩, fun q => by omega⟩, hf, ⟨hc, hk', hh, hg, sn, hs, r1⟩, cLe_refl hc (by omega)⟩
    | succ n ih =>
      intro x w cn B hx hxn h
      obtain ⟨hc, hk, hh, hg, sn, hs, h6⟩ := id h
      have hkc := hk
      obtain ⟨k1, k2, k3, k4, k5, k6, k7, k8, k9⟩ := hkc
      have k9x := k9 x
      by_cases g : zgi (k.2.2.2.2.2.2.2) x = k.2.2.2.2.1
      · rcases bcase B x with ⟨b, hb, e⟩ | hno
        · obtain ⟨X, Y, rfl⟩ := List.append_of_mem hb
          subst e
          obtain ⟨w1, cn1, z1, z2, z3, z4⟩ := zc_release_4 (sc := sc) h
          obtain ⟨w2, cn2, y1, y2, y3, y4⟩ := ih (b.1 - 1) w1 cn1 (X ++ Y) (by omega) (by omega) z3
          have hm := okB_mid.mp h6.2.1.1
          have ef : ((X ++ b :: Y).filter fun y => !(decide (y.1 ≤ b.1) && decide (zgi (k.2.2.2.2.2.2.2) y.1 = k.2.2.2.2.1))) = ((X ++ Y).filter fun y => !(decide (y.1 ≤ b.1 - 1) && decide (zgi (k.2.2.2.2.2.2.2) y.1 = k.2.2.2.2.1))) := by
            rw [filter_mid _ _ _ _ (by rw [decide_eq_true (Int.le_refl b.1), decide_eq_true g]; rfl)]
            refine List.filter_congr fun y hy => ?_
            have : y.1 ≠ b.1 := by
              rcases List.mem_append.mp hy with hy | hy
              · exact (hm.2.1 y hy).1
              · exact fun e => (hm.2.2.1 y hy).1 e.symm
            by_cases q : y.1 ≤ b.1
            · rw [decide_eq_true q, decide_eq_true (show y.1 ≤ b.1 - 1 by omega)]
            · rw [decide_eq_false q, decide_eq_false (show ¬ y.1 ≤ b.1 - 1 by omega)]
          rw [ef]
          rw [show b.1 - 1 = b.1 + -1 by omega] at y1
          exact ⟨w2, cn2, V97_7_4 h6.1 h6.2.2.2.2.1 ⟨by omega, fun q => by omega, fun _ => ⟨by omega, by omega, fun q => absurd g q, fun _ => ⟨w1, z1, y1⟩⟩⟩, zFm_trans z2 y2, y3, cLe_trans z4 y4 (by omega)⟩
        · have z1 := zc_release_f_4 (sc := sc) h (n := x) (by omega) hno
          obtain ⟨w2, cn2, y1, y2, y3, y4⟩ := ih (x - 1) w cn B (by omega) (by omega) h
          have ef : (B.filter fun y => !(decide (y.1 ≤ x) && decide (zgi (k.2.2.2.2.2.2.2) y.1 = k.2.2.2.2.1))) = (B.filter fun y => !(decide (y.1 ≤ x - 1) && decide (zgi (k.2.2.2.2.2.2.2) y.1 = k.2.2.2.2.1))) := by
            refine List.filter_congr fun y hy => ?_
            have := hno y hy
            by_cases q : y.1 ≤ x
            · rw [decide_eq_true q, decide_eq_true (show y.1 ≤ x - 1 by omega)]
            · rw [decide_eq_false q, decide_eq_false (show ¬ y.1 ≤ x - 1 by omega)]
          rw [ef]
          rw [show x - 1 = x + -1 by omega] at y1
          exact ⟨w2, cn2, V97_7_4 h6.1 h6.2.2.2.2.1 ⟨by omega, fun q => by omega, fun _ => ⟨by omega, by omega, fun q => absurd g q, fun _ => ⟨w, z1, y1⟩⟩⟩, y2, y3, cLe_mono y4 (by omega)⟩
      · obtain ⟨w2, cn2, y1, y2, y3, y4⟩ := ih (x - 1) w cn B (by omega) (by omega) h
        have ef : (B.filter fun y => !(decide (y.1 ≤ x) && decide (zgi (k.2.2.2.2.2.2.2) y.1 = k.2.2.2.2.1))) = (B.filter fun y => !(decide (y.1 ≤ x - 1) && decide (zgi (k.2.2.2.2.2.2.2) y.1 = k.2.2.2.2.1))) := by
          refine List.filter_congr fun y hy => ?_
          by_cases q2 : y.1 = x
          · rw [q2, decide_eq_false g, Bool.and_false, Bool.and_false]
          · by_cases q : y.1 ≤ x
            · rw [decide_eq_true q, decide_eq_true (show y.1 ≤ x - 1 by omega)]
            · rw [decide_eq_false q, decide_eq_false (show ¬ y.1 ≤ x - 1 by omega)]
        rw [ef]
        rw [show x - 1 = x + -1 by omega] at y1
        exact ⟨w2, cn2, V97_7_4 h6.1 h6.2.2.2.2.1 ⟨by omega, fun q => by omega, fun _ => ⟨by omega, by omega, fun _ => y1, fun q => absurd g q⟩⟩, y2, y3, cLe_mono y4 (by omega)⟩
  have hk4 := h.2.1.2.2.2.1
  have h60 := h.2.2.2.2
  obtain ⟨w', cn', z1, z2, z3, z4⟩ := key (k.2.2.2.1).toNat (k.2.2.2.1 - 1) w cn B (by omega) (by omega) h
  have ef : (B.filter fun b => !(decide (b.1 ≤ k.2.2.2.1 - 1) && decide (zgi (k.2.2.2.2.2.2.2) b.1 = k.2.2.2.2.1))) = B.filter fun b => !decide (zgi (k.2.2.2.2.2.2.2) b.1 = k.2.2.2.2.1) := by
    refine List.filter_congr fun y hy => ?_
    have := hnm y hy
    rw [decide_eq_true (show y.1 ≤ k.2.2.2.1 - 1 by omega), Bool.true_and]
  rw [ef] at z3
  obtain ⟨sn, hs, h6⟩ := h60
  exact ⟨w', cn', Zc_of rfl rfl (V97_0_4 h6.1 z1), z2, z3, cLe_mono z4 (by omega)⟩
end DEE
