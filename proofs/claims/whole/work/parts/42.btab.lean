/-! PURE PART: the tables -/
def kOk (k n : Int32) : Prop := (k = 0 ∧ 1 ≤ n ∧ n ≤ 8) ∨ (k = 1 ∧ n = 0) ∨ (k = 2 ∧ 1 ≤ n ∧ n ≤ 4) ∨ (k = 3 ∧ n = 0) ∨ (k = -9 ∧ n = 0)
def tellsOk (a b x y : Int32) : Prop := (a = 0 ∧ b = 0 ∧ x = -9 ∧ y = -9) ∨ (1 ≤ a ∧ a ≤ 21 ∧ 1 ≤ b ∧ b ≤ 21 ∧ x = a ∧ y = b)
def ICat (M : JM) (i : Nat) : Prop :=
  (gr M 1 (nI i) = some (61 + 4 * i) ∧ gr M (61 + 4 * i) 1 = some (62 + 4 * i) ∧ gr M (61 + 4 * i) 2 = some (63 + 4 * i) ∧ gr M (61 + 4 * i) 3 = some (64 + 4 * i)) ∧
  (gi M (61 + 4 * i) 0 = gi M 33 (nI i) ∧ 1 ≤ gi M 33 (nI i) ∧ gi M 33 (nI i) ≤ 255) ∧
  (∀ p, 0 ≤ p → p ≤ 21 → gi M (62 + 4 * i) p = gi M 34 (22 * nI i + p) ∧ gi M (63 + 4 * i) p = gi M 35 (22 * nI i + p) ∧ kOk (gi M (62 + 4 * i) p) (gi M (63 + 4 * i) p)) ∧
  gi M (62 + 4 * i) 0 = -9 ∧
  (∀ p t, 0 ≤ p → p ≤ 21 → 0 ≤ t → t < 14 → gi M (64 + 4 * i) (p * 14 + t) = gi M 36 (14 * (22 * nI i + p) + t) ∧ 0 ≤ gi M (64 + 4 * i) (p * 14 + t) ∧ gi M (64 + 4 * i) (p * 14 + t) ≤ 4) ∧
  tellsOk (gi M (61 + 4 * i) 4) (gi M (61 + 4 * i) 5) (gi M 37 (nI i)) (gi M 38 (nI i))
def ITab (M : JM) : Prop := ∃ c : Nat, c ≤ 3 ∧ gi M 0 1 = nI c ∧ gi M 32 0 = nI c ∧ gn M = 61 + 4 * c ∧ ∀ i, i < c → ICat M i
def depCat (i : Nat) (k : Nat) (j : Int32) : Prop := k = 61 + 4 * i ∨ k = 62 + 4 * i ∨ k = 63 + 4 * i ∨ k = 64 + 4 * i ∨ (33 ≤ k ∧ k ≤ 38)
theorem ICat.congr {M M' : JM} {i : Nat} (h : ICat M i) (hg : gr M' = gr M) (hf : ∀ k j, depCat i k j → gi M' k j = gi M k j) : ICat M' i := by
  obtain ⟨h1, h2, h3, h4, h5, h6⟩ := h
  have e : ∀ k j, (k = 61 + 4 * i ∨ k = 62 + 4 * i ∨ k = 63 + 4 * i ∨ k = 64 + 4 * i ∨ (33 ≤ k ∧ k ≤ 38)) → gi M' k j = gi M k j := hf
  refine ⟨by rw [hg]; exact h1, ?_, fun p a1 a2 => ?_, ?_, fun p t a1 a2 a3 a4 => ?_, ?_⟩
  · rw [e (61 + 4 * i) 0 (by omega), e 33 _ (by omega)]; exact h2
  · rw [e (62 + 4 * i) p (by omega), e (63 + 4 * i) p (by omega), e 34 _ (by omega), e 35 _ (by omega)]; exact h3 p a1 a2
  · rw [e (62 + 4 * i) 0 (by omega)]; exact h4
  · rw [e (64 + 4 * i) _ (by omega), e 36 _ (by omega)]; exact h5 p t a1 a2 a3 a4
  · rw [e (61 + 4 * i) 4 (by omega), e (61 + 4 * i) 5 (by omega), e 37 _ (by omega), e 38 _ (by omega)]; exact h6
def depTab (k : Nat) (j : Int32) : Prop := (k = 0 ∧ j = 1) ∨ (k = 32 ∧ j = 0) ∨ (33 ≤ k ∧ k ≤ 38) ∨ 61 ≤ k
theorem ITab.congr {M M' : JM} (h : ITab M) (hg : gr M' = gr M) (hn : gn M' = gn M) (hf : ∀ k j, depTab k j → gi M' k j = gi M k j) : ITab M' := by
  obtain ⟨c, h1, h2, h3, h4, h5⟩ := h
  refine ⟨c, h1, ?_, ?_, by rw [hn]; exact h4, fun i hi => (h5 i hi).congr hg (fun k j hd => hf k j ?_)⟩
  · rw [hf 0 1 (Or.inl ⟨rfl, rfl⟩)]; exact h2
  · rw [hf 32 0 (Or.inr (Or.inl ⟨rfl, rfl⟩))]; exact h3
  · unfold depCat at hd
    unfold depTab
    omega
theorem nI3 {i : Nat} (h : i < 3) : (i = 0 ∧ nI i = 0) ∨ (i = 1 ∧ nI i = 1) ∨ (i = 2 ∧ nI i = 2) := by
  rcases (show i = 0 ∨ i = 1 ∨ i = 2 by omega) with rfl | rfl | rfl
  · exact Or.inl ⟨rfl, rfl⟩
  · exact Or.inr (Or.inl ⟨rfl, rfl⟩)
  · exact Or.inr (Or.inr ⟨rfl, rfl⟩)
theorem ITab.look {M : JM} (h : ITab M) (v : Int32) : (¬ (0 ≤ v ∧ v < gi M 0 1) ∧ ¬ (0 ≤ v ∧ v ≤ gi M 32 0 - 1)) ∨ ∃ i : Nat, v = nI i ∧ i < 3 ∧ ICat M i ∧ (0 ≤ v ∧ v < gi M 0 1) ∧ (0 ≤ v ∧ v ≤ gi M 32 0 - 1) := by
  obtain ⟨c, h1, h2, h3, h4, h5⟩ := h
  by_cases hv : 0 ≤ v ∧ v < gi M 0 1
  · right
    have h0 : ¬ v < 0 := Int32.not_lt.mpr hv.1
    obtain ⟨i, hi, rfl⟩ := nI_of h0
    have hic : i < c := by
      have := hv.2
      rw [h2] at this
      exact (nI_ltI hi (by omega)).mp this
    refine ⟨i, rfl, by omega, h5 i hic, hv, hv.1, ?_⟩
    rw [h3]
    rw [h2] at hv
    obtain ⟨-, hv⟩ := hv
    grind
  · left
    refine ⟨hv, fun q => hv ⟨q.1, ?_⟩⟩
    rw [h2]
    rw [h3] at q
    have : 0 ≤ nI c := nI_pos' (by omega)
    grind
theorem in_eq (v lo hi : Int32) (M : JM) : f_X8_in v lo hi M = some (decide (lo ≤ v ∧ v ≤ hi), M) := by
  unfold f_X8_in
  by_cases h1 : v < lo
  · rw [if_pos h1, decide_eq_false (by grind)]
  · rw [if_neg h1]
    by_cases h2 : hi < v
    · rw [if_pos h2, decide_eq_false (by grind)]
    · rw [if_neg h2, decide_eq_true (by grind)]
theorem mCat_eq (v : Int32) (M : JM) : f_X8_isCategory 32 v M = some (decide (0 ≤ v ∧ v ≤ gi M 32 0 - 1), M) := by
  unfold f_X8_isCategory
  rw [in_eq, ob_e]
theorem mPlace_eq (v : Int32) (M : JM) : f_X8_isPlace v M = some (decide (1 ≤ v ∧ v ≤ 21), M) := by
  unfold f_X8_isPlace
  rw [in_eq, ob_e]
theorem cPlace_eq (v : Int32) (M : JM) : f_X7_isPlace v M = some (decide (1 ≤ v ∧ v ≤ 21), M) := by
  unfold f_X7_isPlace
  by_cases h1 : v < 1
  · rw [if_pos h1, decide_eq_false (by grind)]
  · rw [if_neg h1]
    by_cases h2 : 21 < v
    · rw [if_pos h2, decide_eq_false (by grind)]
    · rw [if_neg h2, decide_eq_true (by grind)]
theorem cCat_no {v : Int32} {M : JM} (h : ¬ (0 ≤ v ∧ v < gi M 0 1)) : f_X7_categoryAt 0 v M = some (none, M) := by
  unfold f_X7_categoryAt f_X7_categoryAt_L12
  by_cases h1 : v < 0
  · rw [if_pos h1]
  · rw [if_neg h1, if_neg (by grind)]
theorem cCat_yes {i : Nat} {M : JM} (hr : RF (gr M)) (hi : i < 3) (hc : ICat M i) (h : 0 ≤ nI i ∧ nI i < gi M 0 1) : f_X7_categoryAt 0 (nI i) M = some (some (61 + 4 * i), M) := by
  unfold f_X7_categoryAt
  have h3 : nI i < ln 1 := nI_lt hi (by decide)
  rw [if_neg (by grind), if_pos h.2, hr.r0_0, orf_e, if_pos ⟨h.1, h3⟩, hc.1.1]
