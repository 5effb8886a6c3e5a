/-! PURE PART: part, tells -/
theorem cFixed_eq {M : JM} {i : Nat} (hi : i < 3) (hc : ICat M i) {p : Int32} (n : Int32) (h0 : 0 ≤ p) (h1 : p ≤ 21) : f_X1_isFixed (61 + 4 * i) p n M = some (decide (gi M (62 + 4 * i) p = 0 ∧ gi M (63 + 4 * i) p = n), M) := by
  have l1 : 0 ≤ p ∧ p < 22 := ⟨h0, by grind⟩
  unfold f_X1_isFixed
  rw [hc.1.2.1, orf_e, ln_kinds hi, if_pos l1]
  by_cases a : gi M (62 + 4 * i) p = 0
  · rw [if_pos a, hc.1.2.2.1, orf_e, ln_sizes hi, if_pos l1]
    by_cases b : gi M (63 + 4 * i) p = n
    · rw [if_pos b, decide_eq_true ⟨a, b⟩]
    · rw [if_neg b, decide_eq_false (fun q => b q.2)]
  · rw [if_neg a, decide_eq_false (fun q => a q.1)]
theorem mFixed_eq {M : JM} (hr : RF (gr M)) {c p : Int32} (n : Int32) (h : 0 ≤ 22 * c + p ∧ 22 * c + p < 66) : f_X8_isFixed 32 c p n M = some (decide (gi M 34 (22 * c + p) = 0 ∧ gi M 35 (22 * c + p) = n), M) := by
  unfold f_X8_isFixed
  rw [hr.r32_2, orf_e, ln_34, if_pos h]
  by_cases a : gi M 34 (22 * c + p) = 0
  · rw [if_pos a, hr.r32_3, orf_e, ln_35, if_pos h]
    by_cases b : gi M 35 (22 * c + p) = n
    · rw [if_pos b, decide_eq_true ⟨a, b⟩]
    · rw [if_neg b, decide_eq_false (fun q => b q.2)]
  · rw [if_neg a, decide_eq_false (fun q => a q.1)]
theorem Fixed_iff {M : JM} {i : Nat} (hc : ICat M i) {p : Int32} (n : Int32) (h0 : 0 ≤ p) (h1 : p ≤ 21) : (gi M 34 (22 * nI i + p) = 0 ∧ gi M 35 (22 * nI i + p) = n) ↔ (gi M (62 + 4 * i) p = 0 ∧ gi M (63 + 4 * i) p = n) := by
  have := hc.2.2.1 p h0 h1
  rw [this.1, this.2.1]
/-- the part's bytes: class and reference -/
theorem cPutPart_eq {M : JM} {i : Nat} (hi : i < 3) (hc : ICat M i) {p t : Int32} (n : Int32) (h0 : 0 ≤ p) (h1 : p ≤ 21) (h2 : 0 ≤ t) (h3 : t < 14) : f_X1_putPart (61 + 4 * i) p t n M = some ((), si M (64 + 4 * i) (p * 14 + t) n) := by
  unfold f_X1_putPart
  rw [hc.1.2.2.2, orf_e, ln_parts hi, if_pos (ix_cpart h0 h1 h2 h3), sq_e]
theorem ICat_part {M : JM} {i i' : Nat} {p t n : Int32} (hi : i < 3) (hi' : i' < 3) (hc : ICat M i') (h0 : 1 ≤ p) (h1 : p ≤ 21) (h2 : 0 ≤ t) (h3 : t < 14) (hn : 0 ≤ n ∧ n ≤ 4) : ICat (si (si M (64 + 4 * i) (p * 14 + t) n) 36 (14 * (22 * nI i + p) + t) n) i' := by
  obtain ⟨c1, c2, c3, c4, c5, c6⟩ := hc
  have kp : ∀ k j, k ≠ 64 + 4 * i → k ≠ 36 → gi (si (si M (64 + 4 * i) (p * 14 + t) n) 36 (14 * (22 * nI i + p) + t) n) k j = gi M k j := by
    intro k j a b
    rw [gi_si, gi_si, if_neg (fun q => b q.1), if_neg (fun q => a q.1)]
  refine ⟨c1, ?_, fun p' b1 b2 => ?_, ?_, fun p' t' b1 b2 b3 b4 => ?_, ?_⟩
  · rw [kp _ _ (by omega) (by omega), kp _ _ (by omega) (by omega)]; exact c2
  · rw [kp _ _ (by omega) (by omega), kp _ _ (by omega) (by omega), kp _ _ (by omega) (by omega), kp _ _ (by omega) (by omega)]; exact c3 p' b1 b2
  · rw [kp _ _ (by omega) (by omega)]; exact c4
  · rw [gi_si, gi_si, gi_si, gi_si]
    rw [if_neg (c := 64 + 4 * i' = 36 ∧ _) (by omega), if_neg (c := 36 = 64 + 4 * i ∧ _) (by omega)]
    have h5 := c5 p' t' b1 b2 b3 b4
    by_cases hii : i' = i
    · subst hii
      by_cases hpp : p' = p ∧ t' = t
      · obtain ⟨rfl, rfl⟩ := hpp
        simp only [and_self, if_true]
        exact ⟨trivial, hn⟩
      · rw [if_neg (by grind), if_neg ?_]
        · exact h5
        · rcases nI3 hi with ⟨-, h⟩ | ⟨-, h⟩ | ⟨-, h⟩ <;> rw [h] <;> grind
    · rw [if_neg (by omega), if_neg ?_]
      · exact h5
      · rcases nI3 hi with ⟨e, h⟩ | ⟨e, h⟩ | ⟨e, h⟩ <;> rcases nI3 hi' with ⟨e', h'⟩ | ⟨e', h'⟩ | ⟨e', h'⟩ <;> first | (exfalso; omega) | (rw [h, h']; grind)
  · rw [kp _ _ (by omega) (by omega), kp _ _ (by omega) (by omega), kp _ _ (by omega) (by omega), kp _ _ (by omega) (by omega)]; exact c6
theorem Inv_part {M : JM} {i : Nat} {p t n : Int32} (hI : Inv M) (hi : i < 3) (h0 : 1 ≤ p) (h1 : p ≤ 21) (h2 : 0 ≤ t) (h3 : t < 14) (hn : 0 ≤ n ∧ n ≤ 4) (hu : ¬ Use M (nI i)) : Inv (si (si M (64 + 4 * i) (p * 14 + t) n) 36 (14 * (22 * nI i + p) + t) n) := by
  obtain ⟨hr, hT, hP, hB, hO, hK, hM⟩ := hI
  have kp : ∀ k j, k ≠ 64 + 4 * i → k ≠ 36 → gi (si (si M (64 + 4 * i) (p * 14 + t) n) 36 (14 * (22 * nI i + p) + t) n) k j = gi M k j := by
    intro k j a b
    rw [gi_si, gi_si, if_neg (fun q => b q.1), if_neg (fun q => a q.1)]
  have hB0 := hB
  obtain ⟨q, hBq⟩ := hB
  refine ⟨hr, ?_, ?_, ?_, ?_, ?_, ?_⟩
  · obtain ⟨c, c1, c2, c3, c4, c5⟩ := hT
    exact ⟨c, c1, by rw [kp _ _ (by omega) (by omega)]; exact c2, by rw [kp _ _ (by omega) (by omega)]; exact c3, c4, fun i' hi' => ICat_part hi (by omega) (c5 i' hi') h0 h1 h2 h3 hn⟩
  · exact hP.congr (fun k j hd => by unfold depTape at hd; exact kp _ _ (by omega) (by omega))
  · refine hB0.congr rfl (fun k j hd => ?_) (kp _ _ (by omega) (by omega)) (fun i' k j hi' hx hk => ?_)
    · unfold depBlk at hd
      exact kp _ _ (by omega) (by omega)
    · obtain ⟨q', hq', e1, e2⟩ := hx
      have hii : i' ≠ i := by
        intro e
        subst e
        have hqq : q' = q := by
          have := hBq.2.1
          rw [e1] at this
          exact Option.some.inj this
        subst hqq
        exact hu ((use_iff hBq hO hi).mpr (Or.inl e2))
      exact kp _ _ (by omega) (by omega)
  · exact hO.congr (fun k j hd => by unfold depOwn at hd; exact kp _ _ (by omega) (by omega)) (kp _ _ (by omega) (by omega))
  · exact hK.congr rfl (fun k j hd => by unfold depTrk at hd; exact kp _ _ (by omega) (by omega))
  · unfold IMis
    rw [kp 0 _ (by omega) (by omega), kp 32 _ (by omega) (by omega), kp 0 _ (by omega) (by omega), kp 32 _ (by omega) (by omega)]
    exact hM
theorem eq_part {M : JM} (hI : Inv M) (v p t n : Int32) : Eqi M (f_X7_part 0 v p t n) (f_X8_part 32 v p t n) := by
  have hI0 := hI
  obtain ⟨hr, hT, hP, ⟨q, hBq⟩, hO, hK, hM⟩ := hI
  rcases hT.look v with ⟨h1, h2⟩ | ⟨i, rfl, hi, hc, h1, h2⟩
  · refine Eqi.same hI0 (r := -1) ?_ ?_
    · unfold f_X7_part
      rw [cCat_no h1, ob_e, oca_n]
    · unfold f_X8_part
      rw [mCat_eq, ob_e, decide_eq_false h2, if_neg (by decide)]
  · by_cases hp : 1 ≤ p ∧ p ≤ 21
    · have hx := ix_kind (p := p) hi (by grind) hp.2
      have hk := (hc.2.2.1 p (by grind) hp.2).1
      by_cases ht : 0 ≤ t ∧ t ≤ 13
      · by_cases hn : 0 ≤ n ∧ n ≤ 4
        · have hcl : f_X7_part 0 (nI i) p t n M = if gi M (62 + 4 * i) p = 3 then (if Use M (nI i) then some (-2, M) else some (gi M (64 + 4 * i) (p * 14 + t), si M (64 + 4 * i) (p * 14 + t) n)) else some (-1, M) := by
            unfold f_X7_part
            rw [cCat_yes hr hi hc h1, ob_e, oca_s, cPlace_eq, ob_e, decide_eq_true hp, if_pos rfl, hc.1.2.1, orf_e, ln_kinds hi, if_pos (by grind)]
            by_cases k3 : gi M (62 + 4 * i) p = 3
            · rw [if_pos k3, if_pos k3, if_neg (by grind), if_pos (by grind), if_neg (by grind), if_neg (by grind)]
              by_cases hu : Use M (nI i)
              · rw [cUse_t hr hBq hO hi hu, ob_e, if_pos rfl, if_pos hu]
              · rw [cUse_f hr hBq hO hi hu, ob_e, if_neg (by decide), if_neg hu, cpart_eq hi hc (by grind) hp.2 ht.1 (by grind), ob_e, sv_e, cPutPart_eq hi hc n (by grind) hp.2 ht.1 (by grind), ob_e]
            · rw [if_neg k3, if_neg k3]
          have hm : ∀ M1, RF (gr M1) → (∀ k j, k ≠ 64 + 4 * i → gi M1 k j = gi M k j) → f_X8_part 32 (nI i) p t n M1 = if gi M (62 + 4 * i) p = 3 then (if Use M (nI i) then some (-2, M1) else some (gi M 36 (14 * (22 * nI i + p) + t), si M1 36 (14 * (22 * nI i + p) + t) n)) else some (-1, M1) := by
            intro M1 hr1 e
            have eU : Use M1 (nI i) ↔ Use M (nI i) := by
              unfold Use
              rw [e _ _ (by omega), e _ _ (by omega), e _ _ (by omega)]
            unfold f_X8_part
            rw [mCat_eq, ob_e, e 32 0 (by omega), decide_eq_true h2, if_pos rfl, mPlace_eq, ob_e, decide_eq_true hp, if_pos rfl, in_eq, ob_e, decide_eq_true ht, if_pos rfl, in_eq, ob_e, decide_eq_true hn, if_pos rfl, hr1.r32_2, orf_e, ln_34, if_pos hx, e 34 _ (by omega), ← hk]
            by_cases k3 : gi M (62 + 4 * i) p = 3
            · rw [if_pos k3, if_pos k3]
              by_cases hu : Use M (nI i)
              · rw [mUse_t (eU.mpr hu), ob_e, if_pos rfl, if_pos hu]
              · rw [mUse_f (fun q => hu (eU.mp q)), ob_e, if_neg (by decide), if_neg hu, hr1.r32_4, orf_e, ln_36, if_pos (ix_part hi (by grind) hp.2 ht.1 (by grind)), sv_e, orf_e, ln_36, if_pos (ix_part hi (by grind) hp.2 ht.1 (by grind)), sq_e, e 36 _ (by omega)]
            · rw [if_neg k3, if_neg k3]
          by_cases k3 : gi M (62 + 4 * i) p = 3
          · by_cases hu : Use M (nI i)
            · rw [if_pos k3, if_pos hu] at hcl
              refine Eqi.same hI0 hcl ?_
              rw [hm M hr (fun _ _ _ => rfl), if_pos k3, if_pos hu]
            · rw [if_pos k3, if_neg hu] at hcl
              refine ⟨_, _, _, hcl, ?_, Inv_part hI0 hi hp.1 hp.2 ht.1 (by grind) hn hu⟩
              rw [hm (si M (64 + 4 * i) (p * 14 + t) n) hr (fun k j hk => by rw [gi_si, if_neg (fun q => hk q.1)]), if_pos k3, if_neg hu, (hc.2.2.2.2.1 p t (by grind) hp.2 ht.1 (by grind)).1]
          · rw [if_neg k3] at hcl
            refine Eqi.same hI0 hcl ?_
            rw [hm M hr (fun _ _ _ => rfl), if_neg k3]
        · refine Eqi.same hI0 (r := -1) ?_ ?_
          · unfold f_X7_part
            rw [cCat_yes hr hi hc h1, ob_e, oca_s, cPlace_eq, ob_e, decide_eq_true hp, if_pos rfl, hc.1.2.1, orf_e, ln_kinds hi, if_pos (by grind)]
            split
            · rw [if_neg (by grind), if_pos (by grind)]
              split
              · rfl
              · rw [if_pos (by grind)]
            · rfl
          · unfold f_X8_part
            rw [mCat_eq, ob_e, decide_eq_true h2, if_pos rfl, mPlace_eq, ob_e, decide_eq_true hp, if_pos rfl, in_eq, ob_e, decide_eq_true ht, if_pos rfl, in_eq, ob_e, decide_eq_false hn, if_neg (by decide)]
      · refine Eqi.same hI0 (r := -1) ?_ ?_
        · unfold f_X7_part
          rw [cCat_yes hr hi hc h1, ob_e, oca_s, cPlace_eq, ob_e, decide_eq_true hp, if_pos rfl, hc.1.2.1, orf_e, ln_kinds hi, if_pos (by grind)]
          split
          · split
            · rfl
            · rw [if_neg (by grind)]
          · rfl
        · unfold f_X8_part
          rw [mCat_eq, ob_e, decide_eq_true h2, if_pos rfl, mPlace_eq, ob_e, decide_eq_true hp, if_pos rfl, in_eq, ob_e, decide_eq_false ht, if_neg (by decide)]
    · refine Eqi.same hI0 (r := -1) ?_ ?_
      · unfold f_X7_part
        rw [cCat_yes hr hi hc h1, ob_e, oca_s, cPlace_eq, ob_e, decide_eq_false hp, if_neg (by decide)]
      · unfold f_X8_part
        rw [mCat_eq, ob_e, decide_eq_true h2, if_pos rfl, mPlace_eq, ob_e, decide_eq_false hp, if_neg (by decide)]
