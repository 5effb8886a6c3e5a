/-! PURE PART: one track's tick, class and reference in step -/
def ITr2 (MC MM : JM) (T : Int32) (t : Nat) (j : Int32) : Prop := gi MC t 0 = gi MM 50 j ∧ gi MC t 1 = gi MM 51 j ∧ gi MC t 2 = gi MM 52 j ∧ gi MC t 3 = gi MM 57 j ∧ gi MC t 4 = gi MM 58 j ∧ gi MC t 5 = gi MM 53 j ∧ gi MC t 6 = gi MM 54 j ∧ gi MC t 7 = gi MM 55 j ∧ gi MC t 8 = gi MM 56 j ∧ gi MM 59 j = T - gi MM 55 j ∧ 0 ≤ gi MM 55 j ∧ gi MM 55 j ≤ 5
def Perm (MC : JM) (π : Int32 → Nat) : Prop := (∀ j, 0 ≤ j → j < 12 → gr MC 19 j = some (π j) ∧ 20 ≤ π j ∧ π j < 32) ∧ (∀ i j, 0 ≤ i → i < 12 → 0 ≤ j → j < 12 → π i = π j → i = j)
def FrL (M M' : JM) : Prop := (∀ k j, ¬ (20 ≤ k ∧ k ≤ 31) → gi M' k j = gi M k j) ∧ (∀ k j, k ≠ 19 → gr M' k j = gr M k j) ∧ gn M' = gn M
def FrN (M M' : JM) : Prop := (∀ k j, ¬ (50 ≤ k ∧ k ≤ 59) → gi M' k j = gi M k j) ∧ gr M' = gr M ∧ gn M' = gn M
theorem FrL.refl (M : JM) : FrL M M := ⟨fun _ _ _ => rfl, fun _ _ _ => rfl, rfl⟩
theorem FrN.refl (M : JM) : FrN M M := ⟨fun _ _ _ => rfl, rfl, rfl⟩
theorem FrL.trans {A B C : JM} (h : FrL A B) (g : FrL B C) : FrL A C := ⟨fun k j x => (g.1 k j x).trans (h.1 k j x), fun k j x => (g.2.1 k j x).trans (h.2.1 k j x), g.2.2.trans h.2.2⟩
theorem FrN.trans {A B C : JM} (h : FrN A B) (g : FrN B C) : FrN A C := ⟨fun k j x => (g.1 k j x).trans (h.1 k j x), g.2.1.trans h.2.1, g.2.2.trans h.2.2⟩
theorem RF.of19 {g g' : Nat → Int32 → Option Nat} (h : RF g) (e : ∀ k j, k ≠ 19 → g' k j = g k j) : RF g' := by
  unfold RF at *
  simp only [e _ _ (show (0 : Nat) ≠ 19 by decide), e _ _ (show (2 : Nat) ≠ 19 by decide), e _ _ (show (4 : Nat) ≠ 19 by decide), e _ _ (show (5 : Nat) ≠ 19 by decide), e _ _ (show (10 : Nat) ≠ 19 by decide), e _ _ (show (15 : Nat) ≠ 19 by decide), e _ _ (show (18 : Nat) ≠ 19 by decide), e _ _ (show (32 : Nat) ≠ 19 by decide)]
  exact h
def LT (MC MM : JM) (T k i s : Int32) : Prop := ∃ π, Perm MC π ∧ (∀ j, 0 ≤ j → j < k → ITr2 MC MM (T + 1) (π j) j) ∧ (∀ j, i ≤ j → j < s → ITr2 MC MM T (π j) j)
/-- one track's tick, as the reference does it -/
def ptN (M : JM) (i : Int32) : JM := if gi M 55 i + 1 < 2 then si M 55 i (gi M 55 i + 1) else if gi M 55 i + 1 < 6 then si (si (si M 55 i (gi M 55 i + 1)) 51 i ((gi M 51 i + gi M 53 i).toInt16.toInt32)) 52 i ((gi M 52 i + gi M 54 i).toInt16.toInt32) else si M 55 i (gi M 55 i + 1)
theorem Gr_ptN (M : JM) (t : Int32) : gr (ptN M t) = gr M := by
  unfold ptN; repeat' split
  all_goals rfl
theorem Gn_ptN (M : JM) (t : Int32) : gn (ptN M t) = gn M := by
  unfold ptN; repeat' split
  all_goals rfl
theorem gi_ptN (M : JM) (t : Int32) (k : Nat) (j : Int32) : gi (ptN M t) k j = if k = 55 ∧ j = t then gi M 55 t + 1 else if k = 51 ∧ j = t ∧ coast (gi M 55 t) then (gi M 51 t + gi M 53 t).toInt16.toInt32 else if k = 52 ∧ j = t ∧ coast (gi M 55 t) then (gi M 52 t + gi M 54 t).toInt16.toInt32 else gi M k j := by
  unfold ptN coast
  by_cases c1 : gi M 55 t + 1 < 2
  · rw [if_pos c1, gi_si]
    simp only [c1, not_true, false_and, and_false, if_false]
  · rw [if_neg c1]
    by_cases c2 : gi M 55 t + 1 < 6
    · rw [if_pos c2]
      simp only [gi_si, c1, c2, not_false_iff, and_true, true_and]
      by_cases hk : j = t
      · subst hk
        simp only [and_true]
        by_cases h7 : k = 55
        · subst h7
          simp only [show ¬ ((55 : Nat) = 52) by decide, show ¬ ((55 : Nat) = 51) by decide, if_false, if_true]
        · simp only [h7, if_false]
          by_cases h1 : k = 51
          · subst h1
            simp only [show ¬ ((51 : Nat) = 52) by decide, if_false, if_true]
          · simp only [h1, if_false]
      · simp only [hk, and_false, if_false]
    · rw [if_neg c2, gi_si]
      simp only [c2, and_false, if_false]
theorem ptN_step {k16 : Nat → Int32 → Int32 → Int32 → JM → Option (Int32 × JM)} {M : JM} (hr : RF (gr M)) (n : Nat) (v1 v2 v3 k i : Int32) (hi : 0 ≤ i ∧ i < 12) (hk : 0 ≤ k ∧ k < 12) (his : i < gi M 32 28) : f_X8_tick_L37 k16 (n + 1) 32 v1 v2 v3 k i M = if gi M 55 i + 1 < 6 then f_X8_tick_L37 k16 n 32 v1 v2 v3 (k + 1) (i + 1) (mvM (ptN M i) i k) else f_X8_tick_L37 k16 n 32 v1 v2 v3 k (i + 1) (ptN M i) := by
  have e55 : gi (si M 55 i (gi M 55 i + 1)) 55 i = gi M 55 i + 1 := by rw [gi_si, if_pos ⟨rfl, rfl⟩]
  have eo : ∀ (A : JM) (r r' : Nat) (j j' v : Int32), r' ≠ r → gi (si A r j v) r' j' = gi A r' j' := fun A r r' j j' v h => by rw [gi_si, if_neg (fun q => h q.1)]
  rw [f_X8_tick_L37, if_pos his, hr.r32_34, orf_e, ln_55, if_pos hi, if_pos hi, sq_e, Gr_si, hr.r32_34, orf_e, ln_55, if_pos hi, e55]
  by_cases c6 : gi M 55 i + 1 < 6
  · rw [if_pos c6, if_pos c6, orf_e, ln_55, if_pos hi, e55]
    by_cases c2 : gi M 55 i + 1 < 2
    · rw [if_neg (show ¬ 1 < gi M 55 i + 1 by grind)]
      unfold f_X8_tick_L132 f_X8_tick_L143
      rw [moves_eq (by exact hr) i k hi hk, ob_e, sv_e, sv_e]
      unfold ptN
      rw [if_pos c2]
    · rw [if_pos (show 1 < gi M 55 i + 1 by grind), hr.r32_30, orf_e, orf_e, ln_51, if_pos hi, hr.r32_32, orf_e, ln_53, if_pos hi, signed_eq, ob_e, if_pos hi, sq_e]
      simp only [Gr_si]
      rw [hr.r32_31, orf_e, orf_e, ln_52, if_pos hi, hr.r32_33, orf_e, ln_54, if_pos hi, signed_eq, ob_e, if_pos hi, sq_e]
      unfold f_X8_tick_L132 f_X8_tick_L143
      rw [moves_eq (by exact hr) i k hi hk, ob_e, sv_e, sv_e]
      unfold ptN
      rw [if_neg c2, if_pos c6]
      rw [eo _ 55 51 _ _ _ (by decide), eo _ 55 53 _ _ _ (by decide), eo _ 51 52 _ _ _ (by decide), eo _ 55 52 _ _ _ (by decide), eo _ 51 54 _ _ _ (by decide), eo _ 55 54 _ _ _ (by decide)]
      rw [Int32.toInt32_toInt64, Int32.toInt32_toInt64]
  · rw [if_neg c6, if_neg c6]
    unfold f_X8_tick_L143
    rw [sv_e]
    unfold ptN
    rw [if_neg (show ¬ gi M 55 i + 1 < 2 by grind), if_neg c6]
def swC (M : JM) (t : Nat) (i k : Int32) (o : Option Nat) : JM := sr (sr (ptM M t) 19 i o) 19 k (some t)
theorem ptC_step {M : JM} {π : Int32 → Nat} (hr : RF (gr M)) (hp : Perm M π) (n : Nat) (k i : Int32) (hi : 0 ≤ i ∧ i < 12) (hk : 0 ≤ k ∧ k < 12) (his : i < gi M 18 1) : f_X6_passTick_L14 (n + 1) 18 k i M = if gi M (π i) 7 + 1 < 6 then f_X6_passTick_L14 n 18 (k + 1) (i + 1) (swC M (π i) i k (some (π k))) else f_X6_passTick_L14 n 18 k (i + 1) (ptM M (π i)) := by
  obtain ⟨a1, a2, a3⟩ := hp.1 i hi.1 hi.2
  obtain ⟨b1, b2, b3⟩ := hp.1 k hk.1 hk.2
  have e7 : gi (ptM M (π i)) (π i) 7 = gi M (π i) 7 + 1 := by rw [gi_ptM, if_pos ⟨rfl, rfl⟩]
  rw [f_X6_passTick_L14, if_pos his, hr.r18_0, orf_e, ln_19, if_pos hi, a1, orf_e, pt_eq, ob_e, e7]
  by_cases c6 : gi M (π i) 7 + 1 < 6
  · rw [if_pos c6, if_pos c6, Gr_ptM, hr.r18_0, orf_e, orf_e, ln_19, if_pos hk, b1, orf_e, if_pos hi, sq_e]
    rw [gr_sr, if_neg (fun q => absurd q.1 (by decide)), Gr_ptM, hr.r18_0, orf_e, ln_19, if_pos hk, sq_e, sv_e]
    unfold f_X6_passTick_L64
    rw [sv_e]
    rfl
  · rw [if_neg c6, if_neg c6]
    unfold f_X6_passTick_L64
    rw [sv_e]
theorem ptM_1 (M : JM) (t : Nat) : gi (ptM M t) t 1 = if coast (gi M t 7) then (gi M t 1 + gi M t 5).toInt16.toInt32 else gi M t 1 := by
  rw [gi_ptM, if_neg (show ¬ (t = t ∧ (1 : Int32) = 7) from fun q => absurd q.2 (by decide))]
  by_cases c : coast (gi M t 7)
  · rw [if_pos ⟨rfl, rfl, c⟩, if_pos c]
  · rw [if_neg (fun q => c q.2.2), if_neg (fun q => c q.2.2), if_neg c]
theorem ptM_2 (M : JM) (t : Nat) : gi (ptM M t) t 2 = if coast (gi M t 7) then (gi M t 2 + gi M t 6).toInt16.toInt32 else gi M t 2 := by
  rw [gi_ptM, if_neg (show ¬ (t = t ∧ (2 : Int32) = 7) from fun q => absurd q.2 (by decide)), if_neg (show ¬ (t = t ∧ (2 : Int32) = 1 ∧ coast (gi M t 7)) from fun q => absurd q.2.1 (by decide))]
  by_cases c : coast (gi M t 7)
  · rw [if_pos ⟨rfl, rfl, c⟩, if_pos c]
  · rw [if_neg (fun q => c q.2.2), if_neg c]
theorem ptN_1 (M : JM) (t : Int32) : gi (ptN M t) 51 t = if coast (gi M 55 t) then (gi M 51 t + gi M 53 t).toInt16.toInt32 else gi M 51 t := by
  rw [gi_ptN, if_neg (show ¬ ((51 : Nat) = 55 ∧ t = t) from fun q => absurd q.1 (by decide))]
  by_cases c : coast (gi M 55 t)
  · rw [if_pos ⟨rfl, rfl, c⟩, if_pos c]
  · rw [if_neg (fun q => c q.2.2), if_neg (fun q => c q.2.2), if_neg c]
theorem ptN_2 (M : JM) (t : Int32) : gi (ptN M t) 52 t = if coast (gi M 55 t) then (gi M 52 t + gi M 54 t).toInt16.toInt32 else gi M 52 t := by
  rw [gi_ptN, if_neg (show ¬ ((52 : Nat) = 55 ∧ t = t) from fun q => absurd q.1 (by decide)), if_neg (show ¬ ((52 : Nat) = 51 ∧ t = t ∧ coast (gi M 55 t)) from fun q => absurd q.1 (by decide))]
  by_cases c : coast (gi M 55 t)
  · rw [if_pos ⟨rfl, rfl, c⟩, if_pos c]
  · rw [if_neg (fun q => c q.2.2), if_neg c]
theorem LT_step {MC MM : JM} {T k i s : Int32} (h0 : 0 ≤ k) (hki : k ≤ i) (his : i < s) (hs : s ≤ 12) {π : Int32 → Nat} (hp : Perm MC π) (h1 : ∀ j, 0 ≤ j → j < k → ITr2 MC MM (T + 1) (π j) j) (h2 : ∀ j, i ≤ j → j < s → ITr2 MC MM T (π j) j) (c6 : gi MM 55 i + 1 < 6) : LT (swC MC (π i) i k (some (π k))) (mvM (ptN MM i) i k) T (k + 1) (i + 1) s := by
  have hi : 0 ≤ i ∧ i < 12 := by constructor <;> grind
  have hk : 0 ≤ k ∧ k < 12 := by constructor <;> grind
  have gC : ∀ r j, gi (swC MC (π i) i k (some (π k))) r j = gi (ptM MC (π i)) r j := fun r j => rfl
  have gR : ∀ j, gr (swC MC (π i) i k (some (π k))) 19 j = if j = k then some (π i) else if j = i then some (π k) else gr MC 19 j := by
    intro j
    unfold swC
    rw [gr_sr, gr_sr, Gr_ptM]
    simp only [true_and]
  have keep : ∀ (T' : Int32) j, 0 ≤ j → j < 12 → j ≠ i → j ≠ k → ITr2 MC MM T' (π j) j → ITr2 (swC MC (π i) i k (some (π k))) (mvM (ptN MM i) i k) T' (π j) j := by
    intro T' j j0 j1 ji jk h
    have hne : ¬ π j = π i := fun q => ji (hp.2 j i j0 j1 hi.1 hi.2 q)
    have eC : ∀ f, gi (swC MC (π i) i k (some (π k))) (π j) f = gi MC (π j) f := fun f => by
      rw [gC, gi_ptM, if_neg (fun q => hne q.1), if_neg (fun q => hne q.1), if_neg (fun q => hne q.1)]
    have eM : ∀ r, gi (mvM (ptN MM i) i k) r j = gi MM r j := fun r => by
      rw [gi_mvM, if_neg (fun q => jk q.2.2), gi_ptN, if_neg (fun q => ji q.2), if_neg (fun q => ji q.2.1), if_neg (fun q => ji q.2.1)]
    unfold ITr2 at *
    simp only [eC, eM]
    exact h
  have hnew : ITr2 (swC MC (π i) i k (some (π k))) (mvM (ptN MM i) i k) (T + 1) (π i) k := by
    obtain ⟨t0, t1, t2, t3, t4, t5, t6, t7, t8, t9, t10, t11⟩ := h2 i (by grind) his
    have eM : ∀ r, 50 ≤ r → r ≤ 59 → gi (mvM (ptN MM i) i k) r k = gi (ptN MM i) r i := fun r a b => by rw [gi_mvM, if_pos ⟨a, b, rfl⟩]
    have oC : ∀ f : Int32, f ≠ 7 → f ≠ 1 → f ≠ 2 → gi (ptM MC (π i)) (π i) f = gi MC (π i) f := fun f a b c => by
      rw [gi_ptM, if_neg (fun q => a q.2), if_neg (fun q => b q.2.1), if_neg (fun q => c q.2.1)]
    have oM : ∀ r : Nat, r ≠ 55 → r ≠ 51 → r ≠ 52 → gi (ptN MM i) r i = gi MM r i := fun r a b c => by
      rw [gi_ptN, if_neg (fun q => a q.1), if_neg (fun q => b q.1), if_neg (fun q => c q.1)]
    have a55 : gi (ptN MM i) 55 i = gi MM 55 i + 1 := by rw [gi_ptN, if_pos ⟨rfl, rfl⟩]
    refine ⟨?_, ?_, ?_, ?_, ?_, ?_, ?_, ?_, ?_, ?_, ?_, ?_⟩
    · rw [gC, eM _ (by decide) (by decide), oC _ (by decide) (by decide) (by decide), oM _ (by decide) (by decide) (by decide), t0]
    · rw [gC, eM _ (by decide) (by decide), ptM_1, ptN_1, t7, t1, t5]
    · rw [gC, eM _ (by decide) (by decide), ptM_2, ptN_2, t7, t2, t6]
    · rw [gC, eM _ (by decide) (by decide), oC _ (by decide) (by decide) (by decide), oM _ (by decide) (by decide) (by decide), t3]
    · rw [gC, eM _ (by decide) (by decide), oC _ (by decide) (by decide) (by decide), oM _ (by decide) (by decide) (by decide), t4]
    · rw [gC, eM _ (by decide) (by decide), oC _ (by decide) (by decide) (by decide), oM _ (by decide) (by decide) (by decide), t5]
    · rw [gC, eM _ (by decide) (by decide), oC _ (by decide) (by decide) (by decide), oM _ (by decide) (by decide) (by decide), t6]
    · rw [gC, eM _ (by decide) (by decide), gi_ptM, if_pos ⟨rfl, rfl⟩, a55, t7]
    · rw [gC, eM _ (by decide) (by decide), oC _ (by decide) (by decide) (by decide), oM _ (by decide) (by decide) (by decide), t8]
    · rw [eM _ (by decide) (by decide), oM _ (by decide) (by decide) (by decide), t9, eM _ (by decide) (by decide), a55]
      grind
    · rw [eM _ (by decide) (by decide), a55]
      grind
    · rw [eM _ (by decide) (by decide), a55]
      grind
  refine ⟨fun j => if j = k then π i else if j = i then π k else π j, ⟨fun j j0 j1 => ?_, fun a b a0 a1 b0 b1 h => ?_⟩, fun j j0 j1 => ?_, fun j j0 j1 => ?_⟩
  · rw [gR]
    dsimp only
    obtain ⟨x1, x2⟩ := hp.1 i hi.1 hi.2
    obtain ⟨y1, y2⟩ := hp.1 k hk.1 hk.2
    by_cases jk : j = k
    · rw [if_pos jk, if_pos jk]; exact ⟨rfl, x2⟩
    · rw [if_neg jk, if_neg jk]
      by_cases ji : j = i
      · rw [if_pos ji, if_pos ji]; exact ⟨rfl, y2⟩
      · rw [if_neg ji, if_neg ji]; exact hp.1 j j0 j1
  · have inj := hp.2
    dsimp only at h
    by_cases ak : a = k
    · subst ak
      rw [if_pos rfl] at h
      by_cases bk : b = a
      · exact bk.symm
      · rw [if_neg bk] at h
        by_cases bi : b = i
        · rw [if_pos bi] at h
          have := inj i a hi.1 hi.2 a0 a1 h
          rw [← this, bi]
        · rw [if_neg bi] at h
          exact absurd (inj i b hi.1 hi.2 b0 b1 h).symm bi
    · rw [if_neg ak] at h
      by_cases ai : a = i
      · rw [if_pos ai] at h
        by_cases bk : b = k
        · rw [if_pos bk] at h
          have := inj k i hk.1 hk.2 hi.1 hi.2 h
          rw [ai, bk, this]
        · rw [if_neg bk] at h
          by_cases bi : b = i
          · rw [ai, bi]
          · rw [if_neg bi] at h
            exact absurd (inj k b hk.1 hk.2 b0 b1 h).symm bk
      · rw [if_neg ai] at h
        by_cases bk : b = k
        · rw [if_pos bk] at h
          exact absurd (inj a i a0 a1 hi.1 hi.2 h) ai
        · rw [if_neg bk] at h
          by_cases bi : b = i
          · rw [if_pos bi] at h
            exact absurd (inj a k a0 a1 hk.1 hk.2 h) ak
          · rw [if_neg bi] at h
            exact inj a b a0 a1 b0 b1 h
  · dsimp only
    by_cases jk : j = k
    · subst jk
      rw [if_pos rfl]
      exact hnew
    · have j2 : j < k := by clear h1 h2 keep hnew hp gR gC; grind
      have ji : j ≠ i := by clear h1 h2 keep hnew hp gR gC; grind
      rw [if_neg jk, if_neg ji]
      exact keep _ j j0 (by clear h1 h2 keep hnew hp gR gC; grind) ji jk (h1 j j0 j2)
  · dsimp only
    have jk : j ≠ k := by clear h1 h2 keep hnew hp gR gC; grind
    have ji : j ≠ i := by clear h1 h2 keep hnew hp gR gC; grind
    rw [if_neg jk, if_neg ji]
    exact keep _ j (by clear h1 h2 keep hnew hp gR gC; grind) (by clear h1 h2 keep hnew hp gR gC; grind) ji jk (h2 j (by clear h1 h2 keep hnew hp gR gC; grind) j1)
theorem LT_drop {MC MM : JM} {T k i s : Int32} (h0 : 0 ≤ k) (hki : k ≤ i) (his : i < s) (hs : s ≤ 12) {π : Int32 → Nat} (hp : Perm MC π) (h1 : ∀ j, 0 ≤ j → j < k → ITr2 MC MM (T + 1) (π j) j) (h2 : ∀ j, i ≤ j → j < s → ITr2 MC MM T (π j) j) : LT (ptM MC (π i)) (ptN MM i) T k (i + 1) s := by
  have hi : 0 ≤ i ∧ i < 12 := by constructor <;> grind
  have keep : ∀ (T' : Int32) j, 0 ≤ j → j < 12 → j ≠ i → ITr2 MC MM T' (π j) j → ITr2 (ptM MC (π i)) (ptN MM i) T' (π j) j := by
    intro T' j j0 j1 ji h
    have hne : ¬ π j = π i := fun q => ji (hp.2 j i j0 j1 hi.1 hi.2 q)
    have eC : ∀ f, gi (ptM MC (π i)) (π j) f = gi MC (π j) f := fun f => by
      rw [gi_ptM, if_neg (fun q => hne q.1), if_neg (fun q => hne q.1), if_neg (fun q => hne q.1)]
    have eM : ∀ r, gi (ptN MM i) r j = gi MM r j := fun r => by
      rw [gi_ptN, if_neg (fun q => ji q.2), if_neg (fun q => ji q.2.1), if_neg (fun q => ji q.2.1)]
    unfold ITr2 at *
    simp only [eC, eM]
    exact h
  refine ⟨π, ⟨fun j a b => by rw [Gr_ptM]; exact hp.1 j a b, hp.2⟩, fun j j0 j1 => ?_, fun j j0 j1 => ?_⟩
  · exact keep _ j j0 (by clear h1 h2 keep hp; grind) (by clear h1 h2 keep hp; grind) (h1 j j0 j1)
  · exact keep _ j (by clear h1 h2 keep hp; grind) (by clear h1 h2 keep hp; grind) (by clear h1 h2 keep hp; grind) (h2 j (by clear h1 h2 keep hp; grind) j1)
