/-! PURE PART: tells; what only looks; the tape -/
theorem and255 (x : Int32) : 0 ≤ x &&& 255 ∧ x &&& 255 ≤ 255 := by
  obtain ⟨j, hj, e⟩ := pk_andE x (m := 255) 8 (by decide)
  have hj : j < 256 := hj
  rw [e]
  exact ⟨nI_pos' (by omega), nI_le (a := j) (b := 255) (by omega) (by decide)⟩
theorem nI_ne3 {i i' : Nat} (hi : i < 3) (hi' : i' < 3) (h : i' ≠ i) : ¬ nI i' = nI i := fun q => h (nI_inj (by omega) (by omega) q)
theorem eq_tells {M : JM} (hI : Inv M) (v a w : Int32) : Eqi M (f_X7_tells 0 v a w) (f_X8_tells 32 v a w) := by
  have hI0 := hI
  obtain ⟨hr, hT, hP, hB, hO, hK, hM⟩ := hI
  rcases hT.look v with ⟨h1, h2⟩ | ⟨i, rfl, hi, hc, h1, h2⟩
  · refine Eqi.same hI0 (r := -1) ?_ ?_
    · unfold f_X7_tells
      rw [cCat_no h1, ob_e, oca_n]
    · unfold f_X8_tells
      rw [mCat_eq, ob_e, decide_eq_false h2, if_neg (by decide)]
  · by_cases ha : 1 ≤ a ∧ a ≤ 21
    · by_cases hw : 1 ≤ w ∧ w ≤ 21
      · have xa := ix_kind (p := a) hi (by grind) ha.2
        have xw := ix_kind (p := w) hi (by grind) hw.2
        by_cases fa : gi M (62 + 4 * i) a = 0 ∧ gi M (63 + 4 * i) a = 2
        · by_cases fw : gi M (62 + 4 * i) w = 0 ∧ gi M (63 + 4 * i) w = 4
          · have hcl : f_X7_tells 0 (nI i) a w M = some (1, si (si M (61 + 4 * i) 4 a) (61 + 4 * i) 5 w) := by
              unfold f_X7_tells
              rw [cCat_yes hr hi hc h1, ob_e, oca_s, cPlace_eq, ob_e, decide_eq_true ha, if_pos rfl, cPlace_eq, ob_e, decide_eq_true hw, if_pos rfl, cFixed_eq hi hc _ (by grind) ha.2, ob_e, decide_eq_true fa, if_pos rfl, cFixed_eq hi hc _ (by grind) hw.2, ob_e, decide_eq_true fw, if_pos rfl, sq_e, sq_e]
            have k1 : ∀ k j, k ≠ 61 + 4 * i → gi (si (si M (61 + 4 * i) 4 a) (61 + 4 * i) 5 w) k j = gi M k j := by
              intro k j hk
              rw [gi_si, gi_si, if_neg (fun q => hk q.1), if_neg (fun q => hk q.1)]
            have hiv : 0 ≤ nI i ∧ nI i < 3 := ⟨h1.1, nI_lt hi (by decide)⟩
            refine ⟨_, _, si (si (si (si M (61 + 4 * i) 4 a) (61 + 4 * i) 5 w) 37 (nI i) a) 38 (nI i) w, hcl, ?_, ?_⟩
            · have hr1 : RF (gr (si (si M (61 + 4 * i) 4 a) (61 + 4 * i) 5 w)) := hr
              unfold f_X8_tells
              rw [mCat_eq, ob_e, k1 32 0 (by omega), decide_eq_true h2, if_pos rfl, mPlace_eq, ob_e, decide_eq_true ha, if_pos rfl, mPlace_eq, ob_e, decide_eq_true hw, if_pos rfl, mFixed_eq hr1 _ xa, ob_e, k1 34 _ (by omega), k1 35 _ (by omega), decide_eq_true ((Fixed_iff hc 2 (by grind) ha.2).mpr fa), if_pos rfl, mFixed_eq hr1 _ xw, ob_e, k1 34 _ (by omega), k1 35 _ (by omega), decide_eq_true ((Fixed_iff hc 4 (by grind) hw.2).mpr fw), if_pos rfl, hr1.r32_5, orf_e, ln_37, if_pos hiv, sq_e, Gr_si _ 37, hr1.r32_6, orf_e, ln_38, if_pos hiv, sq_e]
            · have k2 : ∀ k j, k ≠ 61 + 4 * i → k ≠ 37 → k ≠ 38 → gi (si (si (si (si M (61 + 4 * i) 4 a) (61 + 4 * i) 5 w) 37 (nI i) a) 38 (nI i) w) k j = gi M k j := by
                intro k j b1 b2 b3
                rw [gi_si, gi_si, if_neg (fun q => b3 q.1), if_neg (fun q => b2 q.1), k1 k j b1]
              refine ⟨hr, ?_, ?_, ?_, ?_, ?_, ?_⟩
              · obtain ⟨c, c1, c2, c3, c4, c5⟩ := hT
                refine ⟨c, c1, by rw [k2 _ _ (by omega) (by omega) (by omega)]; exact c2, by rw [k2 _ _ (by omega) (by omega) (by omega)]; exact c3, c4, fun i' hi' => ?_⟩
                obtain ⟨d1, d2, d3, d4, d5, d6⟩ := c5 i' hi'
                refine ⟨d1, ?_, fun p b1 b2 => ?_, ?_, fun p t b1 b2 b3 b4 => ?_, ?_⟩
                · rw [k2 33 _ (by omega) (by omega) (by omega)]
                  rw [gi_si, gi_si, gi_si, gi_si, if_neg (by omega), if_neg (by omega), if_neg (fun q => absurd q.2 (by decide)), if_neg (fun q => absurd q.2 (by decide))]
                  exact d2
                · rw [k2 (62 + 4 * i') _ (by omega) (by omega) (by omega), k2 (63 + 4 * i') _ (by omega) (by omega) (by omega), k2 34 _ (by omega) (by omega) (by omega), k2 35 _ (by omega) (by omega) (by omega)]; exact d3 p b1 b2
                · rw [k2 (62 + 4 * i') _ (by omega) (by omega) (by omega)]; exact d4
                · rw [k2 (64 + 4 * i') _ (by omega) (by omega) (by omega), k2 36 _ (by omega) (by omega) (by omega)]; exact d5 p t b1 b2 b3 b4
                · by_cases hii : i' = i
                  · subst hii
                    have e4 : gi (si (si (si (si M (61 + 4 * i') 4 a) (61 + 4 * i') 5 w) 37 (nI i') a) 38 (nI i') w) (61 + 4 * i') 4 = a := by
                      rw [gi_si, gi_si, gi_si, gi_si, if_neg (by omega), if_neg (by omega), if_neg (fun q => absurd q.2 (by decide)), if_pos ⟨rfl, rfl⟩]
                    have e5 : gi (si (si (si (si M (61 + 4 * i') 4 a) (61 + 4 * i') 5 w) 37 (nI i') a) 38 (nI i') w) (61 + 4 * i') 5 = w := by
                      rw [gi_si, gi_si, gi_si, if_neg (by omega), if_neg (by omega), if_pos ⟨rfl, rfl⟩]
                    have e37 : gi (si (si (si (si M (61 + 4 * i') 4 a) (61 + 4 * i') 5 w) 37 (nI i') a) 38 (nI i') w) 37 (nI i') = a := by
                      rw [gi_si, gi_si, if_neg (by omega), if_pos ⟨rfl, rfl⟩]
                    have e38 : gi (si (si (si (si M (61 + 4 * i') 4 a) (61 + 4 * i') 5 w) 37 (nI i') a) 38 (nI i') w) 38 (nI i') = w := by
                      rw [gi_si, if_pos ⟨rfl, rfl⟩]
                    rw [e4, e5, e37, e38]
                    exact Or.inr ⟨ha.1, ha.2, hw.1, hw.2, rfl, rfl⟩
                  · have hne := nI_ne3 hi (by omega) hii
                    have e1 : ∀ j, gi (si (si (si (si M (61 + 4 * i) 4 a) (61 + 4 * i) 5 w) 37 (nI i) a) 38 (nI i) w) (61 + 4 * i') j = gi M (61 + 4 * i') j := fun j => k2 _ _ (by omega) (by omega) (by omega)
                    rw [e1, e1]
                    rw [gi_si, gi_si, gi_si, gi_si]
                    rw [if_neg (fun q => absurd q.1 (by decide)), if_neg (fun q => hne q.2), if_neg (by omega), if_neg (by omega)]
                    rw [gi_si, gi_si, gi_si, gi_si]
                    rw [if_neg (fun q => hne q.2), if_neg (by omega), if_neg (by omega), if_neg (by omega)]
                    exact d6
              · exact hP.congr (fun k j hd => by unfold depTape at hd; exact k2 _ _ (by omega) (by omega) (by omega))
              · exact hB.congr rfl (fun k j hd => by unfold depBlk at hd; exact k2 _ _ (by omega) (by omega) (by omega)) (k2 _ _ (by omega) (by omega) (by omega)) (fun i' k j hi' hx hk => k2 _ _ (by omega) (by omega) (by omega))
              · exact hO.congr (fun k j hd => by unfold depOwn at hd; exact k2 _ _ (by omega) (by omega) (by omega)) (k2 _ _ (by omega) (by omega) (by omega))
              · exact hK.congr rfl (fun k j hd => by unfold depTrk at hd; exact k2 _ _ (by omega) (by omega) (by omega))
              · unfold IMis
                rw [k2 0 _ (by omega) (by omega) (by omega), k2 32 _ (by omega) (by omega) (by omega), k2 0 _ (by omega) (by omega) (by omega), k2 32 _ (by omega) (by omega) (by omega)]
                exact hM
          · refine Eqi.same hI0 (r := -1) ?_ ?_
            · unfold f_X7_tells
              rw [cCat_yes hr hi hc h1, ob_e, oca_s, cPlace_eq, ob_e, decide_eq_true ha, if_pos rfl, cPlace_eq, ob_e, decide_eq_true hw, if_pos rfl, cFixed_eq hi hc _ (by grind) ha.2, ob_e, decide_eq_true fa, if_pos rfl, cFixed_eq hi hc _ (by grind) hw.2, ob_e, decide_eq_false fw, if_neg (by decide)]
            · unfold f_X8_tells
              rw [mCat_eq, ob_e, decide_eq_true h2, if_pos rfl, mPlace_eq, ob_e, decide_eq_true ha, if_pos rfl, mPlace_eq, ob_e, decide_eq_true hw, if_pos rfl, mFixed_eq hr _ xa, ob_e, decide_eq_true ((Fixed_iff hc 2 (by grind) ha.2).mpr fa), if_pos rfl, mFixed_eq hr _ xw, ob_e, decide_eq_false (fun q => fw ((Fixed_iff hc 4 (by grind) hw.2).mp q)), if_neg (by decide)]
        · refine Eqi.same hI0 (r := -1) ?_ ?_
          · unfold f_X7_tells
            rw [cCat_yes hr hi hc h1, ob_e, oca_s, cPlace_eq, ob_e, decide_eq_true ha, if_pos rfl, cPlace_eq, ob_e, decide_eq_true hw, if_pos rfl, cFixed_eq hi hc _ (by grind) ha.2, ob_e, decide_eq_false fa, if_neg (by decide)]
          · unfold f_X8_tells
            rw [mCat_eq, ob_e, decide_eq_true h2, if_pos rfl, mPlace_eq, ob_e, decide_eq_true ha, if_pos rfl, mPlace_eq, ob_e, decide_eq_true hw, if_pos rfl, mFixed_eq hr _ xa, ob_e, decide_eq_false (fun q => fa ((Fixed_iff hc 2 (by grind) ha.2).mp q)), if_neg (by decide)]
      · refine Eqi.same hI0 (r := -1) ?_ ?_
        · unfold f_X7_tells
          rw [cCat_yes hr hi hc h1, ob_e, oca_s, cPlace_eq, ob_e, decide_eq_true ha, if_pos rfl, cPlace_eq, ob_e, decide_eq_false hw, if_neg (by decide)]
        · unfold f_X8_tells
          rw [mCat_eq, ob_e, decide_eq_true h2, if_pos rfl, mPlace_eq, ob_e, decide_eq_true ha, if_pos rfl, mPlace_eq, ob_e, decide_eq_false hw, if_neg (by decide)]
    · refine Eqi.same hI0 (r := -1) ?_ ?_
      · unfold f_X7_tells
        rw [cCat_yes hr hi hc h1, ob_e, oca_s, cPlace_eq, ob_e, decide_eq_false ha, if_neg (by decide)]
      · unfold f_X8_tells
        rw [mCat_eq, ob_e, decide_eq_true h2, if_pos rfl, mPlace_eq, ob_e, decide_eq_false ha, if_neg (by decide)]
theorem eq_fault {M : JM} (hI : Inv M) : Eqi M (f_X7_fault 0) (f_X8_fault 32) := by
  refine Eqi.same hI (r := gi M 0 8) rfl ?_
  unfold f_X8_fault
  rw [hI.2.2.2.2.2.2.1]
theorem eq_records {M : JM} (hI : Inv M) (v : Int32) : Eqi M (f_X7_records 0 v) (f_X8_records 32 v) := by
  obtain ⟨q, hq, h1, h2, h3, h4, h5⟩ := hI.2.2.2.1
  refine Eqi.same hI (r := if v = 0 then gi M q 1 else if v = 1 then gi M q 0 else -1) ?_ ?_
  · unfold f_X7_records
    rw [h1, orf_e, orf_e]
    repeat' split
    all_goals rfl
  · unfold f_X8_records
    rw [← h3, ← h4]
    repeat' split
    all_goals rfl
theorem eq_count {M : JM} (hI : Inv M) (v : Int32) : Eqi M (f_X7_count 0 v) (f_X8_count 32 v) := by
  have hI0 := hI
  obtain ⟨hr, ⟨c, t1, t2, t3, -⟩, hP, hB, hO, ⟨⟨k1, k2, k3, k4, k5, k6⟩, -⟩, hM⟩ := hI
  refine Eqi.same hI0 (r := if v = 0 then gi M 0 1 else if v = 1 then gi M 18 1 else if v = 2 then gi M 18 2 else if v = 3 then gi M 18 3 else if v = 4 then gi M 18 4 else if v = 5 then gi M 2 1 else if v = 6 then gi M 0 9 else -1) ?_ ?_
  · unfold f_X7_count
    rw [hr.r0_7, hr.r0_2, orf_e, orf_e, orf_e, orf_e, orf_e]
    repeat' split
    all_goals rfl
  · unfold f_X8_count
    rw [t2, ← t3, k1, k4, k5, k6, hP.1, hM.2]
    repeat' split
    all_goals rfl
theorem eq_tape {M : JM} (hI : Inv M) (v : Int32) : Eqi M (f_X7_tape 0 v) (f_X8_tape 32 v) := by
  have hI0 := hI
  obtain ⟨hr, hT, ⟨p1, p2, p3, p4⟩, hB, hO, hK, hM⟩ := hI
  by_cases hv : 0 ≤ v ∧ v < gi M 2 1
  · refine Eqi.same hI0 (r := gi M 3 v) ?_ ?_
    · unfold f_X7_tape
      rw [if_neg (by grind), hr.r0_2, orf_e, if_pos hv.2, orf_e, hr.r2_0, orf_e, ln_3, if_pos (by grind)]
    · unfold f_X8_tape
      rw [in_eq, ob_e, decide_eq_true (by rw [← p1]; grind), if_pos rfl, hr.r32_7, orf_e, ln_39, if_pos (by grind), (p4 v hv.1 hv.2).1]
  · refine Eqi.same hI0 (r := -9) ?_ ?_
    · unfold f_X7_tape f_X7_tape_L15
      by_cases h0 : v < 0
      · rw [if_pos h0]
      · rw [if_neg h0, hr.r0_2, orf_e, if_neg (by grind)]
    · unfold f_X8_tape
      rw [in_eq, ob_e, decide_eq_false (by rw [← p1]; grind), if_neg (by decide)]
