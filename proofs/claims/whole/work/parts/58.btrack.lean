/-! PURE PART: track: class and reference answer alike -/
theorem in_t {v lo hi : Int32} (M : JM) (h : lo ≤ v ∧ v ≤ hi) : f_X8_in v lo hi M = some (true, M) := by
  rw [in_eq, decide_eq_true h]
theorem in_f {v lo hi : Int32} (M : JM) (h : ¬ (lo ≤ v ∧ v ≤ hi)) : f_X8_in v lo hi M = some (false, M) := by
  rw [in_eq, decide_eq_false h]
theorem eq_track {M : JM} (hI : Inv M) (v w : Int32) : Eqi M (f_X7_track 0 v w) (f_X8_track 32 v w) := by
  have hI0 := hI
  obtain ⟨hr, hT, hP, hB, hO, hK, hM⟩ := hI
  obtain ⟨⟨k1, k2, k3, k4, k5, k6⟩, π, p1, p2, p3⟩ := hK
  by_cases hv : 0 ≤ v ∧ v < gi M 18 1
  · have v12 : v < 12 := by grind
    have l1 : 0 ≤ v ∧ v < 12 := ⟨hv.1, v12⟩
    obtain ⟨q1, q2, q3⟩ := p1 v hv.1 v12
    obtain ⟨t0, t1, t2, t3, t4, t5, t6, t7, t8, t9, t10, t11⟩ := p3 v hv.1 hv.2
    have hvm : 0 ≤ v ∧ v ≤ gi M 32 28 - 1 := by rw [← k1]; grind
    unfold Eqi f_X7_track f_X8_track
    rw [if_neg (show ¬ v < 0 by grind), hr.r0_7, orf_e, if_pos hv.2, orf_e, hr.r18_0, orf_e, ln_19, if_pos l1, q1, orf_e]
    by_cases w0 : w = 0
    · exact ⟨_, M, M, by rw [if_pos w0], by rw [in_t M hvm, ob_e, if_pos rfl, if_pos w0, hr.r32_29, orf_e, ln_50, if_pos l1, t0], hI0⟩
    by_cases w1 : w = 1
    · exact ⟨_, M, M, by rw [if_neg w0, if_pos w1], by rw [in_t M hvm, ob_e, if_pos rfl, if_neg w0, if_pos w1, hr.r32_30, orf_e, ln_51, if_pos l1, t1], hI0⟩
    by_cases w2 : w = 2
    · exact ⟨_, M, M, by rw [if_neg w0, if_neg w1, if_pos w2], by rw [in_t M hvm, ob_e, if_pos rfl, if_neg w0, if_neg w1, if_pos w2, hr.r32_31, orf_e, ln_52, if_pos l1, t2], hI0⟩
    by_cases w3 : w = 3
    · exact ⟨_, M, M, by rw [if_neg w0, if_neg w1, if_neg w2, if_pos w3], by rw [in_t M hvm, ob_e, if_pos rfl, if_neg w0, if_neg w1, if_neg w2, if_pos w3, hr.r32_32, orf_e, ln_53, if_pos l1, t5], hI0⟩
    by_cases w4 : w = 4
    · exact ⟨_, M, M, by rw [if_neg w0, if_neg w1, if_neg w2, if_neg w3, if_pos w4], by rw [in_t M hvm, ob_e, if_pos rfl, if_neg w0, if_neg w1, if_neg w2, if_neg w3, if_pos w4, hr.r32_33, orf_e, ln_54, if_pos l1, t6], hI0⟩
    by_cases w5 : w = 5
    · exact ⟨_, M, M, by rw [if_neg w0, if_neg w1, if_neg w2, if_neg w3, if_neg w4, if_pos w5], by rw [in_t M hvm, ob_e, if_pos rfl, if_neg w0, if_neg w1, if_neg w2, if_neg w3, if_neg w4, if_pos w5, hr.r32_34, orf_e, ln_55, if_pos l1, t7], hI0⟩
    by_cases w6 : w = 6
    · exact ⟨_, M, M, by rw [if_neg w0, if_neg w1, if_neg w2, if_neg w3, if_neg w4, if_neg w5, if_pos w6], by rw [in_t M hvm, ob_e, if_pos rfl, if_neg w0, if_neg w1, if_neg w2, if_neg w3, if_neg w4, if_neg w5, if_pos w6, hr.r32_35, orf_e, ln_56, if_pos l1, t8], hI0⟩
    exact ⟨_, M, M, by rw [if_neg w0, if_neg w1, if_neg w2, if_neg w3, if_neg w4, if_neg w5, if_neg w6], by rw [in_t M hvm, ob_e, if_pos rfl, if_neg w0, if_neg w1, if_neg w2, if_neg w3, if_neg w4, if_neg w5, if_neg w6], hI0⟩
  · have hvm : ¬ (0 ≤ v ∧ v ≤ gi M 32 28 - 1) := by rw [← k1]; grind
    refine Eqi.same hI0 (r := -1) ?_ ?_
    · unfold f_X7_track
      by_cases a : v < 0
      · rw [if_pos a]
      · rw [if_neg a, hr.r0_7, orf_e, if_neg (by grind)]
    · unfold f_X8_track
      rw [in_f M hvm, ob_e, if_neg (by decide)]
