/-! PURE PART: what the table's calls answer -/
theorem ti_0 : (0 : Int32).toInt = 0 := rfl
theorem mul22 {x : Int32} (h0 : 0 ≤ x) (h1 : x ≤ 2) : (22 * x).toInt = 22 * x.toInt := by
  have e : (22 : Int32).toInt = 22 := rfl
  have e0 : (0 : Int32).toInt = 0 := rfl
  have e2 : (2 : Int32).toInt = 2 := rfl
  rw [ti_le, e0] at h0
  rw [ti_le, e2] at h1
  rw [ti_mul (by rw [e]; omega) (by rw [e]; omega), e]
/-- places of a category's table in the reference's rows -/
theorem ix_kind {i : Nat} {p : Int32} (hi : i < 3) (h0 : 0 ≤ p) (h1 : p ≤ 21) : 0 ≤ 22 * nI i + p ∧ 22 * nI i + p < 66 := by
  rcases nI3 hi with ⟨-, h⟩ | ⟨-, h⟩ | ⟨-, h⟩ <;> rw [h] <;> constructor <;> grind
theorem ix_part {i : Nat} {p t : Int32} (hi : i < 3) (h0 : 0 ≤ p) (h1 : p ≤ 21) (h2 : 0 ≤ t) (h3 : t < 14) : 0 ≤ 14 * (22 * nI i + p) + t ∧ 14 * (22 * nI i + p) + t < 924 := by
  rcases nI3 hi with ⟨-, h⟩ | ⟨-, h⟩ | ⟨-, h⟩ <;> rw [h] <;> constructor <;> grind
theorem ix_cpart {p t : Int32} (h0 : 0 ≤ p) (h1 : p ≤ 21) (h2 : 0 ≤ t) (h3 : t < 14) : 0 ≤ p * 14 + t ∧ p * 14 + t < 308 := by
  constructor <;> grind
theorem cpart_eq {i : Nat} {M : JM} (hi : i < 3) (hc : ICat M i) {p t : Int32} (h0 : 0 ≤ p) (h1 : p ≤ 21) (h2 : 0 ≤ t) (h3 : t < 14) : f_X1_partBytes (61 + 4 * i) p t M = some (gi M (64 + 4 * i) (p * 14 + t), M) := by
  unfold f_X1_partBytes
  rw [hc.1.2.2.2, orf_e, ln_parts hi, if_pos (ix_cpart h0 h1 h2 h3)]
theorem eqs_table {M : JM} (hr : RF (gr M)) (hT : ITab M) (v p w : Int32) : ∃ r, f_X7_table 0 v p w M = some (r, M) ∧ f_X8_table 32 v p w M = some (r, M) := by
  unfold f_X7_table f_X8_table
  rcases hT.look v with ⟨h1, h2⟩ | ⟨i, rfl, hi, hc, h1, h2⟩
  · exact ⟨-1, by rw [cCat_no h1, ob_e, oca_n], by rw [mCat_eq, ob_e, decide_eq_false h2]; simp⟩
  · rw [cCat_yes hr hi hc h1, ob_e, oca_s, mCat_eq, ob_e, decide_eq_true h2, if_pos rfl, cPlace_eq, ob_e, mPlace_eq, ob_e, in_eq, ob_e]
    by_cases hp : 1 ≤ p ∧ p ≤ 21
    · rw [decide_eq_true hp, if_pos rfl, if_pos rfl]
      by_cases hw : 0 ≤ w ∧ w ≤ 15
      · rw [decide_eq_true hw, if_pos rfl, if_neg (by grind), if_neg (by grind), sv_e]
        have hk := ix_kind (p := p) hi (by grind) hp.2
        have h3 := hc.2.2.1 p (by grind) hp.2
        by_cases w0 : w = 0
        · rw [if_pos w0, if_pos w0, hc.1.2.1, orf_e, hr.r32_2, orf_e, ln_kinds hi, ln_34, if_pos (by grind), if_pos hk, h3.1]
          exact ⟨_, rfl, rfl⟩
        · rw [if_neg w0, if_neg w0]
          by_cases w1 : w = 1
          · rw [if_pos w1, if_pos w1, hc.1.2.2.1, orf_e, hr.r32_3, orf_e, ln_sizes hi, ln_35, if_pos (by grind), if_pos hk, h3.2.1]
            exact ⟨_, rfl, rfl⟩
          · have h5 := hc.2.2.2.2.1 p (w - 2) (by grind) hp.2 (by grind) (by grind)
            have hx := ix_part (p := p) (t := w - 2) hi (by grind) hp.2 (by grind) (by grind)
            have he : 14 * (22 * nI i + p) + w - 2 = 14 * (22 * nI i + p) + (w - 2) := by grind
            rw [if_neg w1, if_neg w1, cpart_eq hi hc (by grind) hp.2 (by grind) (by grind), ob_e, hr.r32_4, orf_e, he, ln_36, if_pos hx, h5.1]
            exact ⟨_, rfl, rfl⟩
      · rw [decide_eq_false hw]
        refine ⟨-1, ?_, by simp⟩
        by_cases w0 : w < 0
        · rw [if_pos w0]
        · rw [if_neg w0, if_pos (by grind)]
    · rw [decide_eq_false hp]
      exact ⟨-1, by simp, by simp⟩
