/-! ===== the law's own loops: the cells of a hole ===== -/
section LWH
variable {sc : List Value} {w w' w2 : List zE} {q a4 a6 : Nat} {x x' : ps_T} {ow ow' sz rm am cn de : List Int} {B B' X Y : List bk_T} {S : List Int} {wy : Nat} {st hd : Int} {D : List dd_T} {K : Nat → mk_T} {HN : Nat → Int} {CN : Nat → List Int} {BB : Nat → List bk_T}
theorem lw_hole (ha : q + 78 ≤ a6) (hne : a6 ≠ x.2.2.2.2.2.2.2.2) {t x1 x5 x7 x8 x9 x11 x12 x13 x14 : Int} (ht : t ≤ 1024) {v16 v17 v18 v19 : Value} : ∀ (m : Nat) (u : Int) (w : List zE) (l : List Int), u + m = t → 0 ≤ u → LK w q wy st hd D K HN CN BB x ow sz rm am cn de → w[a6]? = some (za l) → l.length = 1024 →
    ∃ w' l', LK w' q wy st hd D K HN CN BB x ow sz rm am cn de ∧ w'[a6]? = some (za l') ∧ l'.length = 1024 ∧ zFm w w' a6 1 ∧ (∀ v : Int, 0 ≤ v → zgi l' v = if u ≤ v ∧ v < t then zgi l v + 1 else zgi l v) ∧
      ∀ {ov w2 c s}, Zr sc 151 270 [.ref 0, zj x1, zp q, zp (q + 1), zp a4, zj x5, zp a6, zj x7, zj x8, zj x9, zj t, zj x11, zj (x12 + 1), zj x13, zj x14, zj t, v16, v17, v18, v19] [] w' ov w2 c s → Zr sc 151 350 [.ref 0, zj x1, zp q, zp (q + 1), zp a4, zj x5, zp a6, zj x7, zj x8, zj x9, zj t, zj x11, zj x12, zj x13, zj x14, zj u, v16, v17, v18, v19] [] w ov w2 c s := by
  intro m
  induction m with
  | zero =>
    intro u w l hm h0 h hl hl2
    have e : u = t := by omega
    exact ⟨w, l, h, hl, hl2, zFm_refl _ _ _, fun v hv => by rw [if_neg (by omega)], fun {ov w2 c s} hz => V151_350 ⟨by omega, fun _ => by rw [e]; exact hz, fun q => by omega⟩⟩
  | succ m ih =>
    intro u w l hm h0 h hl hl2
    obtain ⟨w', l', z1, z2, z3, z4, z5, z6⟩ := ih (u + 1) (w.set a6 (za (zsi l u (zgi l u + 1)))) (zsi l u (zgi l u + 1)) (by omega) (by omega) (LK_set h ha hne) (zw_s hl) (by rw [zsi_len]; exact hl2)
    refine ⟨w', l', z1, z2, z3, zFm_trans (zFm_set (by omega) (by omega)) z4, fun v hv => ?_, fun {ov w2 c s} hz => V151_350 ⟨by omega, fun q => by omega, fun _ => ⟨l, hl, by omega, by omega, z6 hz⟩⟩⟩
    rw [z5 v hv, zgi_set (by omega) (by omega) hv]
    by_cases e : v = u
    · rw [if_neg (by omega), if_pos e, if_pos (by omega), e]
    · rw [if_neg e]
      by_cases c : u + 1 ≤ v ∧ v < t
      · rw [if_pos c, if_pos (by omega)]
      · rw [if_neg c, if_neg (by omega)]
end LWH
