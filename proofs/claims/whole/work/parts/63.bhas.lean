/-! PURE PART: has, at: class and reference answer alike -/
theorem RF.rq {g : Nat → Int32 → Option Nat} (h : RF g) {q : Nat} (hq : q = 5 ∨ q = 10) : g q 2 = some (q + 1) ∧ g q 4 = some (q + 2) ∧ g q 5 = some (q + 3) ∧ g q 6 = some (q + 4) := by
  rcases hq with rfl | rfl
  · exact ⟨h.r5_2, h.r5_4, h.r5_5, h.r5_6⟩
  · exact ⟨h.r10_2, h.r10_4, h.r10_5, h.r10_6⟩
theorem ln_q {q : Nat} (hq : q = 5 ∨ q = 10) : ln (q + 1) = 300 ∧ ln (q + 2) = 8 ∧ ln (q + 3) = 168 ∧ ln (q + 4) = 168 := by
  rcases hq with rfl | rfl <;> exact ⟨rfl, rfl, rfl, rfl⟩
theorem IBlq.cnt {M : JM} {q : Nat} (h : IBlq M q) : 0 ≤ gi M q 1 ∧ gi M q 1 ≤ 8 := by
  rcases h.2.2.2.2.2 with ⟨a, -⟩ | ⟨i, -, -, -, a, b, -⟩
  · rw [a]; decide
  · grind
theorem cRec_eq {M : JM} {q : Nat} (h : IBlq M q) (r : Int32) : f_X7_isRecord 0 r M = some (decide (0 ≤ r ∧ r < gi M q 1), M) := by
  unfold f_X7_isRecord
  by_cases a : r < 0
  · rw [if_pos a, decide_eq_false (by grind)]
  · rw [if_neg a, h.2.1, orf_e]
    by_cases b : r < gi M q 1
    · rw [if_pos b, decide_eq_true ⟨by grind, b⟩]
    · rw [if_neg b, decide_eq_false (fun x => b x.2)]
theorem mRec_eq {M : JM} {q : Nat} (h : IBlq M q) (r : Int32) : f_X8_isRecord 32 r M = some (decide (0 ≤ r ∧ r < gi M q 1), M) := by
  obtain ⟨a, b⟩ := h.cnt
  unfold f_X8_isRecord
  rw [in_eq, ob_e, ← h.2.2.2.1, decide_eq_decide.mpr (show (0 ≤ r ∧ r ≤ gi M q 1 - 1) ↔ (0 ≤ r ∧ r < gi M q 1) by generalize gi M q 1 = c at *; grind)]
theorem ix_slot {r p : Int32} (h0 : 0 ≤ r) (h1 : r < 8) (h2 : 1 ≤ p) (h3 : p ≤ 21) : (0 ≤ r * 21 + p - 1 ∧ r * 21 + p - 1 < 168) ∧ (0 ≤ 22 * r + p ∧ 22 * r + p < 176) := by
  refine ⟨⟨?_, ?_⟩, ?_, ?_⟩ <;> grind
/-- a block with records: where its place of a record's item is -/
theorem IBlq.rec {M : JM} {q : Nat} (h : IBlq M q) {r : Int32} (hr : 0 ≤ r ∧ r < gi M q 1) : ∃ i : Nat, i < 3 ∧ nI i < gi M 0 1 ∧ gi M q 0 = nI i ∧ gi M 32 15 = nI i ∧ r < 8 ∧ BStr M q i := by
  rcases h.2.2.2.2.2 with ⟨a, -⟩ | ⟨i, a, b, c, d, e, f⟩
  · rw [a] at hr; grind
  · exact ⟨i, a, b, c, by rw [← h.2.2.2.2.1]; exact c, by grind, f⟩
theorem cSize_eq {M : JM} {q : Nat} (hr : RF (gr M)) (hq : q = 5 ∨ q = 10) {r p : Int32} (h0 : 0 ≤ r) (h1 : r < 8) (h2 : 1 ≤ p) (h3 : p ≤ 21) : f_X0_sizeOf q r p M = some (gi M (q + 4) (r * 21 + p - 1), M) := by
  unfold f_X0_sizeOf f_X0_slot
  rw [(hr.rq hq).2.2.2, orf_e, ob_e, (ln_q hq).2.2.2, if_pos (ix_slot h0 h1 h2 h3).1]
theorem cBegin_eq {M : JM} {q : Nat} (hr : RF (gr M)) (hq : q = 5 ∨ q = 10) {r p : Int32} (h0 : 0 ≤ r) (h1 : r < 8) (h2 : 1 ≤ p) (h3 : p ≤ 21) : f_X0_beginOf q r p M = some (if gi M (q + 4) (r * 21 + p - 1) = 0 then -9 else gi M (q + 3) (r * 21 + p - 1), M) := by
  unfold f_X0_beginOf
  rw [cSize_eq hr hq h0 h1 h2 h3, ob_e]
  by_cases c : gi M (q + 4) (r * 21 + p - 1) = 0
  · rw [if_pos c, if_pos c]
  · unfold f_X0_slot
    rw [if_neg c, if_neg c, (hr.rq hq).2.2.1, orf_e, ob_e, (ln_q hq).2.2.1, if_pos (ix_slot h0 h1 h2 h3).1]
theorem eq_has {M : JM} (hI : Inv M) (r p w : Int32) : Eqi M (f_X7_has 0 r p w) (f_X8_has 32 r p w) := by
  have hI0 := hI
  obtain ⟨hr, hT, hP, ⟨q, hB⟩, hO, hK, hM⟩ := hI
  unfold Eqi f_X7_has f_X8_has
  rw [cRec_eq hB]
  by_cases h1 : 0 ≤ r ∧ r < gi M q 1
  · obtain ⟨i, i1, i2, i3, i4, r8, hS⟩ := hB.rec h1
    rw [decide_eq_true h1, ob_e, if_pos rfl, cPlace_eq, ob_e]
    by_cases h2 : 1 ≤ p ∧ p ≤ 21
    · obtain ⟨s1, s2⟩ := ix_slot h1.1 r8 h2.1 h2.2
      obtain ⟨b1, b2⟩ := hS.2.2.2.2 r p h1.1 h1.2 h2.1 h2.2
      rw [decide_eq_true h2, if_pos rfl, hB.2.1, orf_e, orf_e, cSize_eq hr hB.1 h1.1 r8 h2.1 h2.2, cBegin_eq hr hB.1 h1.1 r8 h2.1 h2.2, ob_e, ob_e, b1]
      by_cases h3 : 0 ≤ w ∧ w ≤ 1
      · by_cases w0 : w = 0
        · refine ⟨_, M, M, by rw [if_neg (by grind), if_neg (by grind), if_pos w0], ?_, hI0⟩
          rw [mRec_eq hB, decide_eq_true h1, ob_e, if_pos rfl, mPlace_eq, ob_e, decide_eq_true h2, if_pos rfl, in_t M h3, ob_e, if_pos rfl, hr.r32_19, orf_e, ln_43, if_pos s2, sv_e, if_pos w0]
        · refine ⟨_, M, M, by rw [if_neg (by grind), if_neg (by grind), if_neg w0], ?_, hI0⟩
          rw [mRec_eq hB, decide_eq_true h1, ob_e, if_pos rfl, mPlace_eq, ob_e, decide_eq_true h2, if_pos rfl, in_t M h3, ob_e, if_pos rfl, hr.r32_19, orf_e, ln_43, if_pos s2, sv_e, if_neg w0]
          rcases b2 with b2 | ⟨b2, b3, -⟩
          · rw [if_pos b2, if_pos b2]
          · rw [if_neg (show ¬ gi M 43 (22 * r + p) = 0 by grind), if_neg (show ¬ gi M 43 (22 * r + p) = 0 by grind), hr.r32_18, orf_e, ln_42, if_pos s2, b3]
      · refine ⟨-1, M, M, ?_, ?_, hI0⟩
        · by_cases a : w < 0
          · rw [if_pos a]
          · rw [if_neg a, if_pos (by grind)]
        · rw [mRec_eq hB, decide_eq_true h1, ob_e, if_pos rfl, mPlace_eq, ob_e, decide_eq_true h2, if_pos rfl, in_f M h3, ob_e, if_neg (by decide)]
    · refine ⟨-1, M, M, by rw [decide_eq_false h2, if_neg (by decide)], ?_, hI0⟩
      rw [mRec_eq hB, decide_eq_true h1, ob_e, if_pos rfl, mPlace_eq, ob_e, decide_eq_false h2, if_neg (by decide)]
  · refine ⟨-1, M, M, by rw [decide_eq_false h1, ob_e, if_neg (by decide)], ?_, hI0⟩
    rw [mRec_eq hB, decide_eq_false h1, ob_e, if_neg (by decide)]
theorem eq_at {M : JM} (hI : Inv M) (r p w : Int32) : Eqi M (f_X7_at 0 r p w) (f_X8_at 32 r p w) := by
  have hI0 := hI
  obtain ⟨hr, hT, hP, ⟨q, hB⟩, hO, hK, hM⟩ := hI
  unfold Eqi f_X7_at f_X8_at
  rw [cRec_eq hB]
  by_cases h1 : 0 ≤ r ∧ r < gi M q 1
  · obtain ⟨i, i1, i2, i3, i4, r8, hS⟩ := hB.rec h1
    rw [decide_eq_true h1, ob_e, if_pos rfl, cPlace_eq, ob_e]
    by_cases h2 : 1 ≤ p ∧ p ≤ 21
    · obtain ⟨s1, s2⟩ := ix_slot h1.1 r8 h2.1 h2.2
      obtain ⟨b1, b2⟩ := hS.2.2.2.2 r p h1.1 h1.2 h2.1 h2.2
      rw [decide_eq_true h2, if_pos rfl, hB.2.1, orf_e, cSize_eq hr hB.1 h1.1 r8 h2.1 h2.2, ob_e, hB.2.1, orf_e, (hr.rq hB.1).1, orf_e, orf_e, cBegin_eq hr hB.1 h1.1 r8 h2.1 h2.2, ob_e, b1, (ln_q hB.1).1]
      by_cases h3 : 0 ≤ w ∧ w < gi M 43 (22 * r + p)
      · rcases b2 with b2 | ⟨b2, b3, b4, b5, b6, b7, -⟩
        · rw [b2] at h3; exfalso; grind
        · obtain ⟨z1, z2⟩ := hS.1
          generalize hb : gi M 42 (22 * r + p) = b at *
          generalize hs : gi M 43 (22 * r + p) = s at *
          have l1 : 0 ≤ b + w ∧ b + w < 300 := by constructor <;> grind
          refine ⟨_, M, M, by rw [if_neg (by grind), if_pos h3.2, if_neg (show ¬ s = 0 by grind), b3, if_pos l1], ?_, hI0⟩
          rw [mRec_eq hB, decide_eq_true h1, ob_e, if_pos rfl, mPlace_eq, ob_e, decide_eq_true h2, if_pos rfl, hr.r32_19, orf_e, ln_43, if_pos s2, hs, in_t M (show 0 ≤ w ∧ w ≤ s - 1 by grind), ob_e, if_pos rfl, hr.r32_16, orf_e, hr.r32_18, orf_e, ln_42, if_pos s2, hb, ln_40, if_pos l1, (hS.2.1 (b + w) l1.1 (by grind)).1]
      · refine ⟨-9, M, M, ?_, ?_, hI0⟩
        · by_cases a : w < 0
          · rw [if_pos a]
          · rw [if_neg a, if_neg (by grind)]
        · rw [mRec_eq hB, decide_eq_true h1, ob_e, if_pos rfl, mPlace_eq, ob_e, decide_eq_true h2, if_pos rfl, hr.r32_19, orf_e, ln_43, if_pos s2, in_f M (by rcases b2 with b2 | ⟨b2, b3, b4, b5, b6, b7, -⟩ <;> grind), ob_e, if_neg (by decide)]
    · refine ⟨-1, M, M, by rw [decide_eq_false h2, if_neg (by decide)], ?_, hI0⟩
      rw [mRec_eq hB, decide_eq_true h1, ob_e, if_pos rfl, mPlace_eq, ob_e, decide_eq_false h2, if_neg (by decide)]
  · refine ⟨-1, M, M, by rw [decide_eq_false h1, ob_e, if_neg (by decide)], ?_, hI0⟩
    rw [mRec_eq hB, decide_eq_false h1, ob_e, if_neg (by decide)]
