/-! PURE PART: the law: every call alike, then the next -/
theorem two {M : JM} {F G : JM → Option (Int32 × JM)} (h : Eqi M F G) (K : JM → Option (Int32 × JM)) (hK : ∀ N, Inv N → ∃ M', K N = some (1, M')) : ∃ M', (ob (F M) fun r N => ob (G N) fun r2 N2 => if r = r2 then K N2 else some ((0 : Int32), N2)) = some (1, M') := by
  obtain ⟨r, M1, M2, h1, h2, h3⟩ := h
  obtain ⟨M', e⟩ := hK M2 h3
  refine ⟨M', ?_⟩
  rw [h1, ob_e, h2, ob_e, if_pos rfl, e]
theorem cmp0 (r : Int64) : lg_cmp r r = 0 := by
  unfold lg_cmp
  simp
theorem twoL {M : JM} {F G : JM → Option (Int64 × JM)} (h : EqL M F G) (K : JM → Option (Int32 × JM)) (hK : ∀ N, Inv N → ∃ M', K N = some (1, M')) : ∃ M', (ob (F M) fun r N => ob (G N) fun r2 N2 => if (lg_cmp r r2) = 0 then K N2 else some ((0 : Int32), N2)) = some (1, M') := by
  obtain ⟨r, M1, M2, h1, h2, h3⟩ := h
  obtain ⟨M', e⟩ := hK M2 h3
  refine ⟨M', ?_⟩
  rw [h1, ob_e, h2, ob_e, if_pos (cmp0 r), e]
theorem law_ix {v sN : Int32} (h0 : 0 ≤ v) (h1 : sN ≤ 2560) (h2 : 0 ≤ sN) (h : ¬ sN - 5 < v) : (0 ≤ v ∧ v < sN) ∧ (0 ≤ v + 1 ∧ v + 1 < sN) ∧ (0 ≤ v + 2 ∧ v + 2 < sN) ∧ (0 ≤ v + 3 ∧ v + 3 < sN) ∧ (0 ≤ v + 4 ∧ v + 4 < sN) ∧ (0 ≤ v + 5 ∧ v + 5 ≤ sN) := by
  refine ⟨⟨?_, ?_⟩, ⟨?_, ?_⟩, ⟨?_, ?_⟩, ⟨?_, ?_⟩, ⟨?_, ?_⟩, ⟨?_, ?_⟩⟩ <;> grind
theorem law_5 {v sN : Int32} {n : Nat} (h0 : 0 ≤ v) (h1 : sN ≤ 2560) (h5 : v + 5 ≤ sN) (hn : sN.toInt - v.toInt < ((n + 1 : Nat) : Int)) (h : ¬ sN - 5 < v) (h2 : 0 ≤ sN) : sN.toInt - (v + 5).toInt < (n : Int) := by
  have e5 : (5 : Int32).toInt = 5 := rfl
  have e0 : (0 : Int32).toInt = 0 := rfl
  have e25 : (2560 : Int32).toInt = 2560 := rfl
  rw [ti_le, e0] at h0 h2
  rw [ti_le, e25] at h1
  have hv : v.toInt ≤ sN.toInt := by
    rw [ti_lt, ti_sub (by rw [e5]; omega) (by rw [e5]; omega), e5] at h
    omega
  rw [ti_add (by rw [e5]; omega) (by rw [e5]; omega), e5]
  omega
theorem lp_law (sx : Int32 → Int32) (sN : Int32) (h0 : 0 ≤ sN) (h1 : sN ≤ 2560) : ∀ (n : Nat) (v : Int32) (M : JM), Inv M → 0 ≤ v → v ≤ sN → sN.toInt - v.toInt < (n : Int) → ∃ M', f_L_law_L18 sx sN n 0 32 v M = some (1, M') := by
  intro n
  induction n with
  | zero => intro v M _ a b c; exact (up_no b c).elim
  | succ n ih =>
    intro v M hI a b c
    rw [f_L_law_L18]
    by_cases hend : sN - 5 < v
    · rw [if_pos hend]
      exact ⟨M, rfl⟩
    · obtain ⟨c0, c1, c2, c3, c4, c5⟩ := law_ix a h1 h0 hend
      have hK : ∀ N, Inv N → ∃ M', f_L_law_L840 sx sN (f_L_law_L18 sx sN n) 0 32 v N = some (1, M') := by
        intro N hN
        unfold f_L_law_L840
        rw [sv_e]
        exact ih (v + 5) N hN c5.1 c5.2 (law_5 a h1 c5.2 c hend h0)
      rw [if_neg hend, if_pos c0]
      clear ih
      generalize f_L_law_L840 sx sN (f_L_law_L18 sx sN n) 0 32 v = K at *
      have e1 := eq_true c1
      have e2 := eq_true c2
      have e3 := eq_true c3
      have e4 := eq_true c4
      simp only [e1, e2, e3, e4, if_true]
      by_cases k0 : sx v &&& 31 = 0
      · rw [if_pos k0]
        exact two (eq_category hI _) K hK
      rw [if_neg k0]
      by_cases k1 : sx v &&& 31 = 1
      · rw [if_pos k1]
        exact two (eq_item hI _ _ _ _) K hK
      rw [if_neg k1]
      by_cases k2 : sx v &&& 31 = 2
      · rw [if_pos k2]
        exact two (eq_part hI _ _ _ _) K hK
      rw [if_neg k2]
      by_cases k3 : sx v &&& 31 = 3
      · rw [if_pos k3]
        exact two (eq_tells hI _ _ _) K hK
      rw [if_neg k3]
      by_cases k4 : sx v &&& 31 = 4
      · rw [if_pos k4]
        exact two (eq_table hI _ _ _) K hK
      rw [if_neg k4]
      by_cases k5 : sx v &&& 31 = 5
      · rw [if_pos k5]
        exact two (eq_feed hI _ _) K hK
      rw [if_neg k5]
      by_cases k6 : sx v &&& 31 = 6
      · rw [if_pos k6]
        exact two (eq_tear hI) K hK
      rw [if_neg k6]
      by_cases k7 : sx v &&& 31 = 7
      · rw [if_pos k7]
        exact two (eq_read hI) K hK
      rw [if_neg k7]
      by_cases k8 : sx v &&& 31 = 8
      · rw [if_pos k8]
        exact two (eq_fault hI) K hK
      rw [if_neg k8]
      by_cases k9 : sx v &&& 31 = 9
      · rw [if_pos k9]
        exact two (eq_records hI _) K hK
      rw [if_neg k9]
      by_cases k10 : sx v &&& 31 = 10
      · rw [if_pos k10]
        exact two (eq_has hI _ _ _) K hK
      rw [if_neg k10]
      by_cases k11 : sx v &&& 31 = 11
      · rw [if_pos k11]
        exact two (eq_at hI _ _ _) K hK
      rw [if_neg k11]
      by_cases k12 : sx v &&& 31 = 12
      · rw [if_pos k12]
        exact twoL (eq_number hI _ _ _) K hK
      rw [if_neg k12]
      by_cases k13 : sx v &&& 31 = 13
      · rw [if_pos k13]
        exact two (eq_begin hI _) K hK
      rw [if_neg k13]
      by_cases k14 : sx v &&& 31 = 14
      · rw [if_pos k14]
        exact two (eq_set hI _) K hK
      rw [if_neg k14]
      by_cases k15 : sx v &&& 31 = 15
      · rw [if_pos k15]
        exact two (eq_take hI _) K hK
      rw [if_neg k15]
      by_cases k16 : sx v &&& 31 = 16
      · rw [if_pos k16]
        exact two (eq_write hI) K hK
      rw [if_neg k16]
      by_cases k17 : sx v &&& 31 = 17
      · rw [if_pos k17]
        exact two (eq_copy hI _) K hK
      rw [if_neg k17]
      by_cases k18 : sx v &&& 31 = 18
      · rw [if_pos k18]
        exact two (eq_tape hI _) K hK
      rw [if_neg k18]
      by_cases k19 : sx v &&& 31 = 19
      · rw [if_pos k19]
        exact two (eq_report hI _) K hK
      rw [if_neg k19]
      by_cases k20 : sx v &&& 31 = 20
      · rw [if_pos k20]
        exact two (eq_tick hI _) K hK
      rw [if_neg k20]
      by_cases k21 : sx v &&& 31 = 21
      · rw [if_pos k21]
        exact two (eq_track hI _ _) K hK
      rw [if_neg k21]
      by_cases k22 : sx v &&& 31 = 22
      · rw [if_pos k22]
        exact two (eq_count hI _) K hK
      rw [if_neg k22]
      exact hK M hI
