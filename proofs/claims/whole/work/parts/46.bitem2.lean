/-! PURE PART: item, part, tells: class and reference answer alike -/
def Eqi (M : JM) (F G : JM → Option (Int32 × JM)) : Prop := ∃ r M1 M2, F M = some (r, M1) ∧ G M1 = some (r, M2) ∧ Inv M2
theorem Eqi.same {M : JM} {F G : JM → Option (Int32 × JM)} (hI : Inv M) {r : Int32} (h1 : F M = some (r, M)) (h2 : G M = some (r, M)) : Eqi M F G := ⟨r, M, M, h1, h2, hI⟩
abbrev wOk (k n : Int32) : Prop := k = -1 ∨ (k = 0 ∧ 1 ≤ n ∧ n ≤ 8) ∨ k = 1 ∨ (k = 2 ∧ 1 ≤ n ∧ n ≤ 4) ∨ k = 3
theorem isItem_t {k n : Int32} (M : JM) (h : wOk k n) : f_X7_isItem k n M = some (true, M) := by
  unfold wOk at h
  unfold f_X7_isItem
  repeat' split
  all_goals first | rfl | (exfalso; grind)
theorem isItem_f {k n : Int32} (M : JM) (h : ¬ wOk k n) : f_X7_isItem k n M = some (false, M) := by
  unfold wOk at h
  unfold f_X7_isItem
  repeat' split
  all_goals first | rfl | (exfalso; grind)
theorem mItem_t {v p k n : Int32} (M : JM) (h : wOk k n) : f_X8_item 32 v p k n M = f_X8_item_L50 32 v p k n 1 M := by
  unfold wOk at h
  unfold f_X8_item f_X8_item_L30 f_X8_item_L45 f_X8_item_L49
  simp only [in_eq, ob_e, decide_eq_true_eq]
  repeat' split
  all_goals first | rfl | (exfalso; grind)
theorem mItem_f {v p k n : Int32} (M : JM) (h : ¬ wOk k n) : f_X8_item 32 v p k n M = f_X8_item_L50 32 v p k n 0 M := by
  unfold wOk at h
  unfold f_X8_item f_X8_item_L30 f_X8_item_L45 f_X8_item_L49
  simp only [in_eq, ob_e, decide_eq_true_eq]
  repeat' split
  all_goals first | rfl | (exfalso; grind)
theorem keep_upC {M : JM} {i : Nat} {p K N : Int32} {k : Nat} {j : Int32} (h1 : k < 62) : gi (upC M i p K N) k j = gi M k j := by
  rw [gi_upC, if_neg (by omega), if_neg (by omega), if_neg (by omega)]
theorem eq_table {M : JM} (hI : Inv M) (v p w : Int32) : Eqi M (f_X7_table 0 v p w) (f_X8_table 32 v p w) := by
  obtain ⟨r, h1, h2⟩ := eqs_table hI.1 hI.2.1 v p w
  exact Eqi.same hI h1 h2
theorem eq_item {M : JM} (hI : Inv M) (v p k n : Int32) : Eqi M (f_X7_item 0 v p k n) (f_X8_item 32 v p k n) := by
  have hI0 := hI
  obtain ⟨hr, hT, hP, ⟨q, hBq⟩, hO, hK, hM⟩ := hI
  have hbad : ∀ u : Int32, ¬ (0 ≤ v ∧ v ≤ gi M 32 0 - 1) → f_X8_item_L50 32 v p k n u M = some (-1, M) := by
    intro u h
    unfold f_X8_item_L50
    rw [sv_e, mCat_eq, ob_e, decide_eq_false h]; simp
  have hw : (f_X8_item 32 v p k n M = f_X8_item_L50 32 v p k n 1 M ∧ wOk k n) ∨ (f_X8_item 32 v p k n M = f_X8_item_L50 32 v p k n 0 M ∧ ¬ wOk k n) := by
    by_cases h : wOk k n
    · exact Or.inl ⟨mItem_t M h, h⟩
    · exact Or.inr ⟨mItem_f M h, h⟩
  rcases hT.look v with ⟨h1, h2⟩ | ⟨i, rfl, hi, hc, h1, h2⟩
  · refine Eqi.same hI0 (r := -1) ?_ ?_
    · unfold f_X7_item
      rw [cCat_no h1, ob_e, oca_n]
    · rcases hw with ⟨h, -⟩ | ⟨h, -⟩ <;> rw [h, hbad _ h2]
  · have hcl : f_X7_item 0 (nI i) p k n M = if (1 ≤ p ∧ p ≤ 21) ∧ wOk k n then (if Use M (nI i) then some (-2, M) else some (gi M (62 + 4 * i) p, upC M i p (if k = -1 then -9 else k) (if k = 0 ∨ k = 2 then n else 0))) else some (-1, M) := by
      unfold f_X7_item
      rw [cCat_yes hr hi hc h1, ob_e, oca_s, cPlace_eq, ob_e]
      by_cases hp : 1 ≤ p ∧ p ≤ 21
      · rw [decide_eq_true hp, if_pos rfl]
        by_cases hk : wOk k n
        · rw [isItem_t M hk, ob_e, if_pos rfl, if_pos ⟨hp, hk⟩]
          by_cases hu : Use M (nI i)
          · rw [cUse_t hr hBq hO hi hu, ob_e, if_pos rfl, if_pos hu]
          · rw [cUse_f hr hBq hO hi hu, ob_e, if_neg (by decide), if_neg hu, hc.1.2.1, orf_e, ln_kinds hi, if_pos (by grind), sv_e, putItem_eq hi hc p k n (by grind) hp.2, ob_e]
        · rw [isItem_f M hk, ob_e, if_neg (by decide), if_neg (fun q => hk q.2)]
      · rw [decide_eq_false hp, if_neg (by decide), if_neg (fun q => hp q.1)]
    by_cases hpk : (1 ≤ p ∧ p ≤ 21) ∧ wOk k n
    · rw [if_pos hpk] at hcl
      obtain ⟨hp, hk⟩ := hpk
      have hkk : kOk (if k = -1 then -9 else k) (if k = 0 ∨ k = 2 then n else 0) := by
        unfold wOk at hk
        unfold kOk
        grind
      have hx := ix_kind (p := p) hi (by grind) hp.2
      have hm : ∀ M1, RF (gr M1) → gi M1 32 0 = gi M 32 0 → gi M1 34 = gi M 34 → (Use M1 (nI i) ↔ Use M (nI i)) → f_X8_item 32 (nI i) p k n M1 = if Use M (nI i) then some (-2, M1) else some (gi M 34 (22 * nI i + p), upM M1 (22 * nI i + p) (if k = -1 then -9 else k) (if k = 0 ∨ k = 2 then n else 0)) := by
        intro M1 hr1 e1 e2 e3
        rw [mItem_t M1 hk]
        unfold f_X8_item_L50
        rw [sv_e, mCat_eq, ob_e, e1, decide_eq_true h2, if_pos rfl, mPlace_eq, ob_e, decide_eq_true hp, if_pos rfl, if_neg (by decide)]
        by_cases hu : Use M (nI i)
        · rw [mUse_t (e3.mpr hu), ob_e, if_pos rfl, if_pos hu]
        · rw [mUse_f (fun q => hu (e3.mp q)), ob_e, if_neg (by decide), if_neg hu, hr1.r32_2, orf_e, ln_34, if_pos hx, sv_e, e2]
          have tail : ∀ K w : Int32, f_X8_item_L111 k n w K p (nI i) 32 M1 = some (w, upM M1 (22 * nI i + p) K (if k = 0 ∨ k = 2 then n else 0)) := by
            intro K w
            unfold f_X8_item_L111 f_X8_item_L120 f_X8_item_L126
            rw [becomes_eq hr1 _ _ _ _ hx.1 hx.2, becomes_eq hr1 _ _ _ _ hx.1 hx.2, ob_e, ob_e]
            by_cases k0 : k = 0
            · rw [if_pos k0, if_pos (Or.inl k0)]
            · rw [if_neg k0]
              by_cases k2 : k = 2
              · rw [if_pos k2, if_pos (Or.inr k2)]
              · rw [if_neg k2, if_neg (by rintro (h | h) <;> contradiction)]
          rw [tail, tail]
          unfold wOk at hk
          by_cases k1 : k = -1
          · rw [if_pos (by rw [k1]; decide), if_pos k1]
          · rw [if_neg (by grind), if_neg k1]
      by_cases hu : Use M (nI i)
      · rw [if_pos hu] at hcl
        refine Eqi.same hI0 hcl ?_
        rw [hm M hr rfl rfl Iff.rfl, if_pos hu]
      · rw [if_neg hu] at hcl
        refine ⟨_, _, _, hcl, ?_, Inv_item hI0 hi hp.1 hp.2 hkk hu⟩
        rw [hm (upC M i p (if k = -1 then -9 else k) (if k = 0 ∨ k = 2 then n else 0)) hr (keep_upC (by omega)) (funext fun j => keep_upC (by omega)) (by unfold Use; rw [keep_upC (by omega), keep_upC (by omega), keep_upC (by omega)]), if_neg hu]
        rw [(hc.2.2.1 p (by grind) hp.2).1]
    · rw [if_neg hpk] at hcl
      refine Eqi.same hI0 hcl ?_
      rcases hw with ⟨h, hk⟩ | ⟨h, hk⟩
      · rw [h]
        unfold f_X8_item_L50
        rw [sv_e, mCat_eq, ob_e, decide_eq_true h2, if_pos rfl, mPlace_eq, ob_e, decide_eq_false (fun q => hpk ⟨q, hk⟩), if_neg (by decide)]
      · rw [h]
        unfold f_X8_item_L50
        rw [sv_e, mCat_eq, ob_e, decide_eq_true h2, if_pos rfl, mPlace_eq, ob_e]
        by_cases hp : 1 ≤ p ∧ p ≤ 21
        · rw [decide_eq_true hp, if_pos rfl, if_pos rfl]
        · rw [decide_eq_false hp, if_neg (by decide)]

