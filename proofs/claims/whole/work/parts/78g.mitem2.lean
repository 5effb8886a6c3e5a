/-! PURE PART: the reference's items, all -/
theorem ICat.mix {M : JM} {i : Nat} (hi : i < 3) (hc : ICat M i) {p : Int32} (hp : 0 ≤ p ∧ p ≤ 21) : (0 ≤ 22 * nI i + p ∧ 22 * nI i + p < 66) ∧ gi M 34 (22 * nI i + p) = gi M (62 + 4 * i) p ∧ gi M 35 (22 * nI i + p) = gi M (63 + 4 * i) p ∧ ∀ t : Nat, t < 14 → (0 ≤ 14 * (22 * nI i + p) + nI t ∧ 14 * (22 * nI i + p) + nI t < 924) ∧ gi M 36 (14 * (22 * nI i + p) + nI t) = gi M (64 + 4 * i) (p * 14 + nI t) := by
  obtain ⟨k1, k2, k3⟩ := hc.2.2.1 p hp.1 hp.2
  refine ⟨ix_kind hi hp.1 hp.2, k1.symm, k2.symm, fun t ht => ?_⟩
  have h1 : nI t < 14 := nI_lt (b := 14) ht (by decide)
  have h0 : 0 ≤ nI t := nI_pos' (by omega)
  exact ⟨ix_part hi hp.1 hp.2 h0 h1, (hc.2.2.2.2.1 p (nI t) hp.1 hp.2 h0 h1).1.symm⟩
theorem mitem_eq {M : JM} {T : Int32 → Int32} {z : Nat} (h : RdD M T z) (p0 : Int32) {i : Nat} (hi : i < 3) (hc : ICat M i) {p : Int32} (hp : 0 ≤ p ∧ p ≤ 21) (h9 : gi M (62 + 4 * i) p ≠ -9) {x : Nat} (hx : x ≤ z) : mY M p0 (cItem M i T (nI z) p (nI x)) (f_X8_readItem 32 (nI i) p (mdM M (nI x) 0 p0)) := by
  obtain ⟨k1, k2, k3⟩ := hc.2.2.1 p hp.1 hp.2
  obtain ⟨y, ey, hy⟩ := k3.k1 h9
  obtain ⟨m1, m2, m3, m4⟩ := hc.mix hi hp
  obtain ⟨wn, hwn⟩ := hc.wx hp
  unfold f_X8_readItem cItem sItem
  rw [Gr_md, h.1.r32_3, orf_e, ln_35, if_pos m1, sv_e, h.1.r32_2, orf_e, ln_34, if_pos m1, md_k (by omega), md_k (by omega), m2, m3, ey]
  by_cases c0 : gi M (62 + 4 * i) p = 0
  · rw [if_pos c0, if_pos c0, ob_u]
    exact (needs_eq h p0 hx (by omega)).y (MB.refl M)
  · rw [if_neg c0, if_neg c0]
    by_cases c1 : gi M (62 + 4 * i) p = 1
    · rw [if_pos c1, if_pos c1, ob_u]
      exact (mgoing_eq h p0 hx).y (MB.refl M)
    · rw [if_neg c1, if_neg c1]
      by_cases c2 : gi M (62 + 4 * i) p = 2
      · rw [if_pos c2, if_pos c2]
        unfold sAgain f_X8_readItem_L98
        have hz := h.2.2.1
        by_cases c : x < z
        · rw [if_pos (nI_lt c (by omega)), takes_y h p0 c, ob_e, sv_e, md11, if_pos (show (0 : Int32) = 0 from rfl)]
          by_cases b : 1 ≤ T (nI x) ∧ T (nI x) ≤ 5
          · obtain ⟨t, et, ht⟩ := nI_ex (x := T (nI x)) (h := 5) (by grind) b.2 (by decide)
            rw [if_pos b, in_t _ b, ob_e, if_pos rfl, ob_u, et, pk_mul, nI_p1]
            exact (needs_eq h p0 (x := x + 1) (n := t * y) (by omega) (by have := Nat.mul_le_mul ht hy; omega)).y (MB.refl M)
          · rw [if_neg b, in_f _ b, ob_e, if_neg (by decide), md9, nI_pred, fails_y, ob_e, needs_d (by decide), ob_e]
            exact mY_r (by decide) rfl (MB.refl M)
        · obtain ⟨n', e⟩ := takes_n h p0 (x := x) (by omega)
          rw [if_neg (Int32.not_lt.mpr (nI_le (by omega) (by omega))), e, ob_e, sv_e, md11, if_neg (by decide), needs_d (by decide), ob_e]
          exact mY_r (by decide) rfl (MB.refl M)
      · rw [if_neg c2, if_neg c2, ob_u]
        exact mmade_eq h p0 m4 hwn hx
theorem mitem_d {M : JM} (hr : RF (gr M)) {i : Nat} (hi : i < 3) (hc : ICat M i) {p : Int32} (hp : 0 ≤ p ∧ p ≤ 21) {n9 g u : Int32} (hg : g ≠ 0) : ∃ D, f_X8_readItem 32 (nI i) p (mdM M n9 g u) = some ((), mdM D n9 g u) ∧ MB M D := by
  obtain ⟨m1, m2, m3, m4⟩ := hc.mix hi hp
  unfold f_X8_readItem
  rw [Gr_md, hr.r32_3, orf_e, ln_35, if_pos m1, sv_e, hr.r32_2, orf_e, ln_34, if_pos m1]
  by_cases c0 : gi (mdM M n9 g u) 34 (22 * nI i + p) = 0
  · rw [if_pos c0, ob_u, needs_d hg]
    exact ⟨M, rfl, MB.refl M⟩
  · rw [if_neg c0]
    by_cases c1 : gi (mdM M n9 g u) 34 (22 * nI i + p) = 1
    · rw [if_pos c1, ob_u, mgoing_d hg]
      exact ⟨M, rfl, MB.refl M⟩
    · rw [if_neg c1]
      by_cases c2 : gi (mdM M n9 g u) 34 (22 * nI i + p) = 2
      · unfold f_X8_readItem_L98
        rw [if_pos c2, takes_d hg, ob_e, sv_e, md11, if_neg hg, ob_u, needs_d hg]
        exact ⟨M, rfl, MB.refl M⟩
      · rw [if_neg c2, ob_u]
        exact mmade_d hr hg (fun t ht => (m4 t ht).1)
