/-! PURE PART: begin, take -/
theorem Inv_own {M M' : JM} (hI : Inv M) (hg : gr M' = gr M) (hn : gn M' = gn M) (hk : ∀ k j, ¬ depOwn k j → gi M' k j = gi M k j) (hO : IOwn M') : Inv M' := by
  obtain ⟨hr, hT0, hP, hB, hO0, hK, hM⟩ := hI
  refine ⟨by rw [hg]; exact hr, ?_, ?_, ?_, hO, ?_, ?_⟩
  · exact hT0.congr hg hn (fun k j hd => hk k j (by unfold depTab at hd; unfold depOwn; grind))
  · exact hP.congr (fun k j hd => hk k j (by unfold depTape at hd; unfold depOwn; grind))
  · exact hB.congr hg (fun k j hd => hk k j (by unfold depBlk at hd; unfold depOwn; grind)) (hk 0 1 (by unfold depOwn; grind)) (fun i k j hi hx hk' => hk k j (by unfold depOwn; grind))
  · exact hK.congr hg (fun k j hd => hk k j (by unfold depTrk at hd; unfold depOwn; grind))
  · unfold IMis
    rw [hk 0 8 (by unfold depOwn; grind), hk 0 9 (by unfold depOwn; grind), hk 32 13 (by unfold depOwn; grind), hk 32 42 (by unfold depOwn; grind)]
    exact hM
theorem lp_begin : ∀ (n : Nat) (i : Int32) (M : JM), RF (gr M) → 0 ≤ i → i ≤ 22 → (22 : Int32).toInt - i.toInt < (n : Int) → f_X8_begin_L17 n 32 i M = some (1, fil M 48 i 22 0) := by
  intro n
  induction n with
  | zero => intro i M hr h0 h1 hn; exact (up_no h1 hn).elim
  | succ n ih =>
    intro i M hr h0 h1 hn
    rw [f_X8_begin_L17]
    by_cases c : i < 22
    · rw [if_neg (by grind), hr.r32_26, orf_e, ln_48, if_pos ⟨h0, c⟩, sq_e, sv_e, ih _ _ (by rw [Gr_si]; exact hr) (by grind) (up_le c) (up_lt c hn), fil_si M 48 i 22 0 h0 c]
    · rw [if_pos (by grind), fil_0 M 48 i 22 0 c]
theorem eq_begin {M : JM} (hI : Inv M) (v : Int32) : Eqi M (f_X7_begin 0 v) (f_X8_begin 32 v) := by
  have hI0 := hI
  obtain ⟨hr, hT, hP, hB, hO, hK, hM⟩ := hI
  rcases hT.look v with ⟨h1, h2⟩ | ⟨i, rfl, hi, hc, h1, h2⟩
  · refine Eqi.same hI0 (r := -1) ?_ ?_
    · unfold f_X7_begin
      rw [cCat_no h1, ob_e, oca_n]
    · unfold f_X8_begin
      rw [mCat_eq, ob_e, decide_eq_false h2, if_neg (by decide)]
  · refine ⟨1, fil (si M 15 0 (nI i)) 17 0 22 0, fil (si (fil (si M 15 0 (nI i)) 17 0 22 0) 32 25 (nI i)) 48 0 22 0, ?_, ?_, ?_⟩
    · unfold f_X7_begin f_X2_startFor
      rw [cCat_yes hr hi hc h1, ob_e, oca_s, hr.r0_6, orf_e, sq_e, Gr_si, hr.r15_2, orf_e, fill_all 17 0 _ (by decide) (by decide), ob_e, ob_e, ln_17]
    · unfold f_X8_begin
      have e : gi (fil (si M 15 0 (nI i)) 17 0 22 0) 32 0 = gi M 32 0 := by rw [gi_fil, if_neg (fun q => absurd q.1 (by decide)), gi_si, if_neg (fun q => absurd q.1 (by decide))]
      rw [mCat_eq, ob_e, e, decide_eq_true h2, if_pos rfl, sq_e, sv_e]
      exact lp_begin FU 0 _ hr (by decide) (by decide) (by decide)
    · have kp : ∀ k j, gi (fil (si (fil (si M 15 0 (nI i)) 17 0 22 0) 32 25 (nI i)) 48 0 22 0) k j = if k = 48 ∧ 0 ≤ j ∧ j < 22 then 0 else if k = 32 ∧ j = 25 then nI i else if k = 17 ∧ 0 ≤ j ∧ j < 22 then 0 else if k = 15 ∧ j = 0 then nI i else gi M k j := fun k j => rfl
      refine Inv_own hI0 rfl rfl (fun k j hd => ?_) ⟨Or.inr ⟨i, hi, ?_, ?_, ?_⟩, fun p a1 a2 => ?_⟩
      · unfold depOwn at hd
        rw [kp, if_neg (by grind), if_neg (by grind), if_neg (by grind), if_neg (by grind)]
      · rw [kp, if_neg (by decide), if_neg (by decide), if_neg (by decide), if_neg (by decide)]; exact h1.2
      · rw [kp, if_neg (by decide), if_neg (by decide), if_neg (by decide), if_pos (by decide)]
      · rw [kp, if_neg (by decide), if_pos (by decide)]
      · have e17 : gi (fil (si (fil (si M 15 0 (nI i)) 17 0 22 0) 32 25 (nI i)) 48 0 22 0) 17 p = 0 := by
          rw [kp, if_neg (fun q => absurd q.1 (by decide)), if_neg (fun q => absurd q.1 (by decide)), if_pos ⟨rfl, by grind, by grind⟩]
        have e48 : gi (fil (si (fil (si M 15 0 (nI i)) 17 0 22 0) 32 25 (nI i)) 48 0 22 0) 48 p = 0 := by
          rw [kp, if_pos ⟨rfl, by grind, by grind⟩]
        rw [e17, e48]
        exact ⟨rfl, by decide, by decide, fun k b1 b2 => by exfalso; grind⟩
theorem eq_take {M : JM} (hI : Inv M) (p : Int32) : Eqi M (f_X7_take 0 p) (f_X8_take 32 p) := by
  have hI0 := hI
  obtain ⟨hr, hT, hP, hB, hO, hK, hM⟩ := hI
  by_cases hp : 1 ≤ p ∧ p ≤ 21
  · have l1 : 0 ≤ p ∧ p < 22 := by grind
    obtain ⟨o1, o2, o3, o4⟩ := hO.2 p hp.1 hp.2
    rcases hO.1 with ⟨b1, b2⟩ | ⟨i, hi, c1, c2, c3⟩
    · refine Eqi.same hI0 (r := -2) ?_ ?_
      · unfold f_X7_take
        rw [cPlace_eq, ob_e, decide_eq_true hp, if_pos rfl, hr.r0_6, orf_e, if_pos b1]
      · unfold f_X8_take
        rw [mPlace_eq, ob_e, decide_eq_true hp, if_pos rfl, b2, if_pos (by decide)]
    · have hn : 0 ≤ nI i := nI_pos' (by omega)
      by_cases hz : gi M 17 p = 0
      · refine Eqi.same hI0 (r := -1) ?_ ?_
        · unfold f_X7_take
          rw [cPlace_eq, ob_e, decide_eq_true hp, if_pos rfl, hr.r0_6, orf_e, if_neg (by rw [c2]; grind), orf_e, hr.r15_2, orf_e, ln_17, if_pos l1, sv_e, if_pos hz]
        · unfold f_X8_take
          rw [mPlace_eq, ob_e, decide_eq_true hp, if_pos rfl, c3, if_neg (by grind), hr.r32_26, orf_e, ln_48, if_pos l1, ← o1, if_pos hz]
      · refine ⟨gi M 17 p, si M 17 p 0, si (si M 17 p 0) 48 p 0, ?_, ?_, ?_⟩
        · unfold f_X7_take
          rw [cPlace_eq, ob_e, decide_eq_true hp, if_pos rfl, hr.r0_6, orf_e, if_neg (by rw [c2]; grind), orf_e, hr.r15_2, orf_e, ln_17, if_pos l1, sv_e, if_neg hz, orf_e, hr.r15_2, orf_e, ln_17, if_pos l1, sq_e]
        · have hr1 : RF (gr (si M 17 p 0)) := hr
          have e25 : gi (si M 17 p 0) 32 25 = nI i := by rw [gi_si, if_neg (fun q => absurd q.1 (by decide)), c3]
          have e48 : gi (si M 17 p 0) 48 p = gi M 17 p := by rw [gi_si, if_neg (fun q => absurd q.1 (by decide)), o1]
          unfold f_X8_take
          rw [mPlace_eq, ob_e, decide_eq_true hp, if_pos rfl, e25, if_neg (by grind), hr1.r32_26, orf_e, ln_48, if_pos l1, e48, if_neg hz, orf_e, ln_48, if_pos l1, sv_e, orf_e, ln_48, if_pos l1, sq_e, e48]
        · have kp : ∀ k j, gi (si (si M 17 p 0) 48 p 0) k j = if k = 48 ∧ j = p then 0 else if k = 17 ∧ j = p then 0 else gi M k j := fun k j => rfl
          refine Inv_own hI0 rfl rfl (fun k j hd => ?_) ⟨Or.inr ⟨i, hi, ?_, ?_, ?_⟩, fun p' a1 a2 => ?_⟩
          · unfold depOwn at hd
            rw [kp, if_neg (by grind), if_neg (by grind)]
          · rw [kp, if_neg (fun q => absurd q.1 (by decide)), if_neg (fun q => absurd q.1 (by decide))]; exact c1
          · rw [kp, if_neg (fun q => absurd q.1 (by decide)), if_neg (fun q => absurd q.1 (by decide))]; exact c2
          · rw [kp, if_neg (fun q => absurd q.1 (by decide)), if_neg (fun q => absurd q.1 (by decide))]; exact c3
          · have e17 : gi (si (si M 17 p 0) 48 p 0) 17 p' = if p' = p then 0 else gi M 17 p' := by
              rw [kp, if_neg (fun q => absurd q.1 (by decide))]; simp only [true_and]
            have e48 : gi (si (si M 17 p 0) 48 p 0) 48 p' = if p' = p then 0 else gi M 48 p' := by
              rw [kp, if_neg (c := 48 = 17 ∧ _) (fun q => absurd q.1 (by decide))]; simp only [true_and]
            have e16 : ∀ j, gi (si (si M 17 p 0) 48 p 0) 16 j = gi M 16 j := fun j => by
              rw [kp, if_neg (fun q => absurd q.1 (by decide)), if_neg (fun q => absurd q.1 (by decide))]
            have e49 : ∀ j, gi (si (si M 17 p 0) 48 p 0) 49 j = gi M 49 j := fun j => by
              rw [kp, if_neg (fun q => absurd q.1 (by decide)), if_neg (fun q => absurd q.1 (by decide))]
            rw [e17, e48]
            by_cases hpp : p' = p
            · rw [if_pos hpp, if_pos hpp]
              exact ⟨rfl, by decide, by decide, fun k b1 b2 => by exfalso; grind⟩
            · rw [if_neg hpp, if_neg hpp]
              obtain ⟨q1, q2, q3, q4⟩ := hO.2 p' a1 a2
              exact ⟨q1, q2, q3, fun k b1 b2 => by rw [e16, e49]; exact q4 k b1 b2⟩
  · refine Eqi.same hI0 (r := -1) ?_ ?_
    · unfold f_X7_take
      rw [cPlace_eq, ob_e, decide_eq_false hp, if_neg (by decide)]
    · unfold f_X8_take
      rw [mPlace_eq, ob_e, decide_eq_false hp, if_neg (by decide)]
