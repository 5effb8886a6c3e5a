/-! PURE PART: bytes that come to the tape -/
def ow (M : JM) (k : Nat) (lo hi : Int32) (β : Int32 → Int32) : JM := (fun k' j => if k' = k ∧ lo ≤ j ∧ j < hi then β j else M.1 k' j, M.2)
theorem gi_ow (M : JM) (k : Nat) (lo hi : Int32) (β : Int32 → Int32) (k' : Nat) (j : Int32) : gi (ow M k lo hi β) k' j = if k' = k ∧ lo ≤ j ∧ j < hi then β j else gi M k' j := rfl
theorem Gr_ow (M : JM) (k : Nat) (lo hi : Int32) (β : Int32 → Int32) : gr (ow M k lo hi β) = gr M := rfl
theorem Gn_ow (M : JM) (k : Nat) (lo hi : Int32) (β : Int32 → Int32) : gn (ow M k lo hi β) = gn M := rfl
/-- the tape has grown to the place h, with the bytes β: class and reference -/
def pC (M : JM) (β : Int32 → Int32) (h : Int32) : JM := si (ow M 3 (gi M 2 1) h β) 2 1 h
def pM (M : JM) (β : Int32 → Int32) (h : Int32) : JM := si (ow M 39 (gi M 32 8) h β) 32 8 h
theorem Gr_pC (M : JM) (β : Int32 → Int32) (h : Int32) : gr (pC M β h) = gr M := rfl
theorem Gn_pC (M : JM) (β : Int32 → Int32) (h : Int32) : gn (pC M β h) = gn M := rfl
theorem Gr_pM (M : JM) (β : Int32 → Int32) (h : Int32) : gr (pM M β h) = gr M := rfl
theorem Gn_pM (M : JM) (β : Int32 → Int32) (h : Int32) : gn (pM M β h) = gn M := rfl
theorem gi_pC (M : JM) (β : Int32 → Int32) (h : Int32) (k : Nat) (j : Int32) : gi (pC M β h) k j = if k = 2 ∧ j = 1 then h else if k = 3 ∧ gi M 2 1 ≤ j ∧ j < h then β j else gi M k j := rfl
theorem gi_pM (M : JM) (β : Int32 → Int32) (h : Int32) (k : Nat) (j : Int32) : gi (pM M β h) k j = if k = 32 ∧ j = 8 then h else if k = 39 ∧ gi M 32 8 ≤ j ∧ j < h then β j else gi M k j := rfl
theorem pC_0 (M : JM) (β : Int32 → Int32) : pC M β (gi M 2 1) = M := by
  refine JM_ext (fun k j => ?_) (by rw [Gr_pC]) (by rw [Gn_pC])
  rw [gi_pC]
  by_cases h : k = 2 ∧ j = 1
  · rw [if_pos h, h.1, h.2]
  · rw [if_neg h, if_neg (by grind)]
theorem pM_0 (M : JM) (β : Int32 → Int32) : pM M β (gi M 32 8) = M := by
  refine JM_ext (fun k j => ?_) (by rw [Gr_pM]) (by rw [Gn_pM])
  rw [gi_pM]
  by_cases h : k = 32 ∧ j = 8
  · rw [if_pos h, h.1, h.2]
  · rw [if_neg h, if_neg (by grind)]
theorem pC_1 (M : JM) (β : Int32 → Int32) (h : Int32) (h0 : gi M 2 1 ≤ h) (h1 : h < 300) : si (si (pC M β h) 3 h (β h)) 2 1 (h + 1) = pC M β (h + 1) := by
  refine JM_ext (fun k j => ?_) (by rw [Gr_si, Gr_si, Gr_pC, Gr_pC]) (by rw [Gn_si, Gn_si, Gn_pC, Gn_pC])
  rw [gi_si, gi_si, gi_pC, gi_pC]
  by_cases a : k = 2 ∧ j = 1
  · rw [if_pos a, if_pos a]
  · rw [if_neg a, if_neg a, if_neg a]
    by_cases b : k = 3
    · subst b
      simp only [true_and]
      by_cases c : j = h
      · subst c
        rw [if_pos rfl, if_pos (by grind)]
      · rw [if_neg c]
        by_cases d : gi M 2 1 ≤ j ∧ j < h
        · rw [if_pos d, if_pos (by grind)]
        · rw [if_neg d, if_neg (by grind)]
    · simp only [b, false_and, if_false]
theorem pM_1 (M : JM) (β : Int32 → Int32) (h : Int32) (h0 : gi M 32 8 ≤ h) (h1 : h < 300) : si (si (pM M β h) 39 h (β h)) 32 8 (h + 1) = pM M β (h + 1) := by
  refine JM_ext (fun k j => ?_) (by rw [Gr_si, Gr_si, Gr_pM, Gr_pM]) (by rw [Gn_si, Gn_si, Gn_pM, Gn_pM])
  rw [gi_si, gi_si, gi_pM, gi_pM]
  by_cases a : k = 32 ∧ j = 8
  · rw [if_pos a, if_pos a]
  · rw [if_neg a, if_neg a, if_neg a]
    by_cases b : k = 39
    · subst b
      simp only [true_and]
      by_cases c : j = h
      · subst c
        rw [if_pos rfl, if_pos (by grind)]
      · rw [if_neg c]
        by_cases d : gi M 32 8 ≤ j ∧ j < h
        · rw [if_pos d, if_pos (by grind)]
        · rw [if_neg d, if_neg (by grind)]
    · simp only [b, false_and, if_false]
theorem sz_pC (M : JM) (β : Int32 → Int32) (h : Int32) : gi (pC M β h) 2 1 = h := by rw [gi_pC, if_pos ⟨rfl, rfl⟩]
theorem sz_pM (M : JM) (β : Int32 → Int32) (h : Int32) : gi (pM M β h) 32 8 = h := by rw [gi_pM, if_pos ⟨rfl, rfl⟩]
theorem cPut_eq {M : JM} (hr : RF (gr M)) (β : Int32 → Int32) (h v : Int32) (hb : β h = v) (h0 : gi M 2 1 ≤ h) (h1 : h < 300) (h2 : 0 ≤ gi M 2 1) : f_X4_put 2 v (pC M β h) = some ((), pC M β (h + 1)) := by
  have hr1 : RF (gr (pC M β h)) := hr
  unfold f_X4_put
  rw [sz_pC, if_pos h1, hr1.r2_0, orf_e, ln_3, if_pos (by grind), sq_e, gi_si, if_neg (fun q => absurd q.1 (by decide)), sz_pC, sq_e, ← hb, pC_1 M β h h0 h1]
/-- a longer tape, class and reference with the same bytes -/
theorem pCM_tape {M : JM} (hT : ITape M) {β β' : Int32 → Int32} {h : Int32} (h0 : gi M 2 1 ≤ h) (h1 : h ≤ 300) (hb : ∀ j, gi M 2 1 ≤ j → j < h → β j = β' j ∧ 0 ≤ β j ∧ β j ≤ 255) : ITape (pM (pC M β h) β' h) := by
  obtain ⟨p1, p2, p3, p4⟩ := hT
  have e1 : gi (pM (pC M β h) β' h) 2 1 = h := by rw [gi_pM, if_neg (by decide), if_neg (fun q => absurd q.1 (by decide)), sz_pC]
  refine ⟨by rw [e1, sz_pM], by rw [e1]; grind, by rw [e1]; exact h1, fun j a1 a2 => ?_⟩
  rw [e1] at a2
  have e8 : gi (pC M β h) 32 8 = gi M 2 1 := by rw [gi_pC, if_neg (by decide), if_neg (fun q => absurd q.1 (by decide)), p1]
  have e3 : gi (pM (pC M β h) β' h) 3 j = if gi M 2 1 ≤ j ∧ j < h then β j else gi M 3 j := by
    rw [gi_pM, if_neg (fun q => absurd q.1 (by decide)), if_neg (fun q => absurd q.1 (by decide)), gi_pC, if_neg (fun q => absurd q.1 (by decide))]
    simp only [true_and]
  have e39 : gi (pM (pC M β h) β' h) 39 j = if gi M 2 1 ≤ j ∧ j < h then β' j else gi M 39 j := by
    rw [gi_pM, if_neg (fun q => absurd q.1 (by decide)), e8]
    simp only [true_and]
    rw [gi_pC, if_neg (c := 39 = 2 ∧ _) (fun q => absurd q.1 (by decide)), if_neg (c := 39 = 3 ∧ _) (fun q => absurd q.1 (by decide))]
  rw [e3, e39]
  by_cases c : gi M 2 1 ≤ j
  · rw [if_pos ⟨c, a2⟩, if_pos ⟨c, a2⟩]
    exact hb j c a2
  · rw [if_neg (fun q => c q.1), if_neg (fun q => c q.1)]
    exact p4 j a1 (by grind)
theorem keep_p {M : JM} {β β' : Int32 → Int32} {h h' : Int32} {k : Nat} {j : Int32} (hd : ¬ depTape k j) : gi (pM (pC M β h) β' h') k j = gi M k j := by
  unfold depTape at hd
  rw [gi_pM, if_neg (by grind), if_neg (by grind), gi_pC, if_neg (by grind), if_neg (by grind)]
theorem Inv_tape {M M' : JM} (hI : Inv M) (hg : gr M' = gr M) (hn : gn M' = gn M) (hk : ∀ k j, ¬ depTape k j → gi M' k j = gi M k j) (hT : ITape M') : Inv M' := by
  obtain ⟨hr, hT0, hP, hB, hO, hK, hM⟩ := hI
  refine ⟨by rw [hg]; exact hr, ?_, hT, ?_, ?_, ?_, ?_⟩
  · exact hT0.congr hg hn (fun k j hd => hk k j (by unfold depTab at hd; unfold depTape; grind))
  · exact hB.congr hg (fun k j hd => hk k j (by unfold depBlk at hd; unfold depTape; grind)) (hk 0 1 (by unfold depTape; grind)) (fun i k j hi hx hk' => hk k j (by unfold depTape; grind))
  · exact hO.congr (fun k j hd => hk k j (by unfold depOwn at hd; unfold depTape; grind)) (hk 0 1 (by unfold depTape; grind))
  · exact hK.congr hg (fun k j hd => hk k j (by unfold depTrk at hd; unfold depTape; grind))
  · unfold IMis
    rw [hk 0 8 (by unfold depTape; grind), hk 0 9 (by unfold depTape; grind), hk 32 13 (by unfold depTape; grind), hk 32 42 (by unfold depTape; grind)]
    exact hM
theorem eq_tear {M : JM} (hI : Inv M) : Eqi M (f_X7_tear 0) (f_X8_tear 32) := by
  have hr := hI.1
  have hP := hI.2.2.1
  refine ⟨gi M 2 1, si M 2 1 0, si (si M 2 1 0) 32 8 0, ?_, ?_, ?_⟩
  · unfold f_X7_tear
    rw [hr.r0_2, orf_e, sv_e, orf_e, sq_e]
  · unfold f_X8_tear
    rw [sv_e, sq_e, gi_si, if_neg (by decide), hP.1]
  · refine Inv_tape hI rfl rfl (fun k j hd => ?_) ?_
    · unfold depTape at hd
      rw [gi_si, gi_si, if_neg (by grind), if_neg (by grind)]
    · have e1 : gi (si (si M 2 1 0) 32 8 0) 2 1 = 0 := by rw [gi_si, if_neg (by decide), gi_si, if_pos ⟨rfl, rfl⟩]
      have e2 : gi (si (si M 2 1 0) 32 8 0) 32 8 = 0 := by rw [gi_si, if_pos ⟨rfl, rfl⟩]
      refine ⟨by rw [e1, e2], by rw [e1]; decide, by rw [e1]; decide, fun j a b => ?_⟩
      rw [e1] at b
      grind
theorem dn_1 {i : Int32} (h : 0 ≤ i) : (i + -1).toInt = i.toInt - 1 := by
  have h1 := i32r i
  rw [ti_le, ti_0] at h
  have e : (-1 : Int32).toInt = -1 := rfl
  rw [ti_add (by rw [e]; omega) (by rw [e]; omega), e]
  omega
def fdB (v : Int64) (top : Int32) : Int32 → Int32 := fun j => (v >>> ((8 * (top - j)).toInt64 &&& 63)).toInt32 &&& 255
theorem lp_cfeed {M : JM} (hr : RF (gr M)) (v : Int64) (top : Int32) (h2 : 0 ≤ gi M 2 1) (h3 : gi M 2 1 ≤ 300) (ht0 : 0 ≤ top) (ht : top < 300) : ∀ (n : Nat) (i : Int32), -1 ≤ i → i ≤ top - gi M 2 1 → i.toInt + 1 < (n : Int) → f_X7_feed_L32 n 0 v i (pC M (fdB v top) (top - i)) = some (top + 1, pC M (fdB v top) (top + 1)) := by
  intro n
  induction n with
  | zero =>
    intro i a b hn
    have e : (-1 : Int32).toInt = -1 := rfl
    rw [ti_le, e] at a
    omega
  | succ n ih =>
    intro i a b hn
    have hr1 : ∀ h, RF (gr (pC M (fdB v top) h)) := fun _ => hr
    generalize hz : gi M 2 1 = z at *
    rw [f_X7_feed_L32]
    by_cases c : i < 0
    · have hi : i = -1 := by grind
      subst hi
      rw [if_pos c, show top - -1 = top + 1 by grind]
      unfold f_X7_feed_L62
      rw [(hr1 _).r0_2, orf_e, sz_pC]
    · have c0 : 0 ≤ i := by grind
      rw [if_neg c, (hr1 _).r0_2, orf_e]
      rw [cPut_eq hr (fdB v top) (top - i) _ (by unfold fdB; rw [show top - (top - i) = i by grind]) (by rw [hz]; clear ih hr1; grind) (by clear ih hr1; grind) (by rw [hz]; exact h2), ob_e, sv_e]
      rw [show top - i + 1 = top - (i + -1) by grind]
      exact ih (i + -1) (by grind) (by grind) (by rw [dn_1 c0]; omega)
theorem lp_mfeed {M : JM} (hr : RF (gr M)) (v : Int64) (top : Int32) (h2 : 0 ≤ gi M 32 8) (h3 : gi M 32 8 ≤ 300) (ht0 : 0 ≤ top) (ht : top < 300) : ∀ (n : Nat) (i : Int32), -1 ≤ i → i ≤ top - gi M 32 8 → i.toInt + 1 < (n : Int) → f_X8_feed_L32 n 32 v i (pM M (fdB v top) (top - i)) = some (top + 1, pM M (fdB v top) (top + 1)) := by
  intro n
  induction n with
  | zero =>
    intro i a b hn
    have e : (-1 : Int32).toInt = -1 := rfl
    rw [ti_le, e] at a
    omega
  | succ n ih =>
    intro i a b hn
    have hr1 : ∀ h, RF (gr (pM M (fdB v top) h)) := fun _ => hr
    generalize hz : gi M 32 8 = z at *
    rw [f_X8_feed_L32]
    by_cases c : i < 0
    · have hi : i = -1 := by grind
      subst hi
      rw [if_pos c, show top - -1 = top + 1 by grind]
      unfold f_X8_feed_L74
      rw [sz_pM]
    · have c0 : 0 ≤ i := by grind
      rw [if_neg c, (hr1 _).r32_7, orf_e, sz_pM, ln_39, if_pos (show 0 ≤ top - i ∧ top - i < 300 by clear ih hr1; constructor <;> grind), sq_e]
      rw [show ((v >>> ((8 * i).toInt64 &&& 63)).toInt32 &&& 255) = fdB v top (top - i) by unfold fdB; rw [show top - (top - i) = i by grind]]
      rw [gi_si, if_neg (fun q => absurd q.1 (by decide)), sz_pM, sq_e, pM_1 M (fdB v top) (top - i) (by rw [hz]; clear ih hr1; grind) (by clear ih hr1; grind), sv_e]
      rw [show top - i + 1 = top - (i + -1) by grind]
      exact ih (i + -1) (by grind) (by grind) (by rw [dn_1 c0]; omega)
theorem eq_feed {M : JM} (hI : Inv M) (v : Int64) (n : Int32) : Eqi M (f_X7_feed 0 v n) (f_X8_feed 32 v n) := by
  have hI0 := hI
  obtain ⟨hr, hT, hP, hB, hO, hK, hM⟩ := hI
  obtain ⟨p1, p2, p3, p4⟩ := hP
  by_cases hn : 1 ≤ n ∧ n ≤ 8
  · by_cases hs : 300 < gi M 2 1 + n
    · refine Eqi.same hI0 (r := -3) ?_ ?_
      · unfold f_X7_feed f_X4_hasRoom
        rw [if_neg (by grind), if_neg (by grind), hr.r0_2, orf_e, if_pos (by grind), ob_e, if_neg (by decide)]
      · unfold f_X8_feed
        rw [in_eq, ob_e, decide_eq_true hn, if_pos rfl, if_pos (by rw [← p1]; exact hs)]
    · have ht : gi M 2 1 + n - 1 < 300 := by grind
      have m1 : (n - 1).toInt + 1 < (FU : Int) := by
        have e1 : (1 : Int32).toInt = 1 := rfl
        have e8 : (8 : Int32).toInt = 8 := rfl
        rw [ti_le, ti_le, e1, e8] at hn
        rw [ti_sub (by rw [e1]; omega) (by rw [e1]; omega), e1]
        show _ < ((4096 : Nat) : Int)
        omega
      refine ⟨gi M 2 1 + n, pC M (fdB v (gi M 2 1 + n - 1)) (gi M 2 1 + n), pM (pC M (fdB v (gi M 2 1 + n - 1)) (gi M 2 1 + n)) (fdB v (gi M 2 1 + n - 1)) (gi M 2 1 + n), ?_, ?_, ?_⟩
      · unfold f_X7_feed f_X4_hasRoom
        rw [if_neg (by grind), if_neg (by grind), hr.r0_2, orf_e, if_neg (by grind), ob_e, if_pos rfl, sv_e]
        have h := lp_cfeed hr v (gi M 2 1 + n - 1) p2 p3 (by grind) ht FU (n - 1) (by grind) (by grind) m1
        rw [show gi M 2 1 + n - 1 - (n - 1) = gi M 2 1 by grind, pC_0, show gi M 2 1 + n - 1 + 1 = gi M 2 1 + n by grind] at h
        exact h
      · generalize hM1 : pC M (fdB v (gi M 2 1 + n - 1)) (gi M 2 1 + n) = M1
        have hr1 : RF (gr M1) := by rw [← hM1]; exact hr
        have hs1 : gi M1 32 8 = gi M 2 1 := by rw [← hM1, gi_pC, if_neg (by decide), if_neg (fun q => absurd q.1 (by decide)), p1]
        unfold f_X8_feed
        rw [in_eq, ob_e, decide_eq_true hn, if_pos rfl, hs1, if_neg hs, sv_e]
        have h := lp_mfeed hr1 v (gi M 2 1 + n - 1) (by rw [hs1]; exact p2) (by rw [hs1]; exact p3) (by grind) ht FU (n - 1) (by grind) (by rw [hs1]; grind) m1
        rw [show gi M 2 1 + n - 1 - (n - 1) = gi M1 32 8 by rw [hs1]; grind, pM_0, show gi M 2 1 + n - 1 + 1 = gi M 2 1 + n by grind] at h
        exact h
      · exact Inv_tape hI0 rfl rfl (fun k j hd => keep_p hd) (pCM_tape ⟨p1, p2, p3, p4⟩ (by grind) (by grind) (fun j _ _ => ⟨rfl, and255 _⟩))
  · refine Eqi.same hI0 (r := -1) ?_ ?_
    · unfold f_X7_feed
      by_cases a : n < 1
      · rw [if_pos a]
      · rw [if_neg a, if_pos (by grind)]
    · unfold f_X8_feed
      rw [in_eq, ob_e, decide_eq_false hn, if_neg (by decide)]
