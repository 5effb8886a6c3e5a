/-! PURE PART: a tick -/
theorem bm16 (m : Nat) (h : m < 65536) : (m : Int).bmod 65536 = if m < 32768 then (m : Int) else (m : Int) - 65536 := by
  rw [Int.bmod_def]
  have e : (m : Int) % ((65536 : Nat) : Int) = m := Int.emod_eq_of_lt (by omega) (by omega)
  rw [e]
  have e2 : (((65536 : Nat) : Int) + 1) / 2 = 32768 := rfl
  rw [e2]
  by_cases c : m < 32768
  · rw [if_pos c, if_pos (by omega)]
  · rw [if_neg c, if_neg (by omega)]
    rfl
theorem sgn_v (v : Int32) : (if (32767 : Int32) < v &&& 65535 then (v &&& 65535) - 65536 else v &&& 65535) = v.toInt16.toInt32 := by
  rw [pk_and v (m := 65535) 16 (by decide)]
  have hm : v.toBitVec.toNat % 2 ^ 16 < 65536 := Nat.mod_lt _ (by decide)
  have e1 : v.toInt16.toInt32.toInt = v.toInt.bmod 65536 := by simp
  have e2 : v.toInt = (v.toBitVec.toNat : Int).bmod (2 ^ 32) := by
    rw [← Int32.toInt_toBitVec, BitVec.toInt_eq_toNat_bmod]
  have e3 : v.toInt.bmod 65536 = (v.toBitVec.toNat : Int).bmod 65536 := by
    rw [e2]
    exact Int.bmod_bmod_of_dvd (by decide)
  have e4 : (v.toBitVec.toNat : Int).bmod 65536 = ((v.toBitVec.toNat % 2 ^ 16 : Nat) : Int).bmod 65536 := by
    rw [Int.natCast_emod]
    exact (Int.emod_bmod _ 65536).symm
  rw [ti_eq, e1, e3, e4]
  generalize v.toBitVec.toNat % 2 ^ 16 = m at *
  rw [bm16 m hm]
  clear e4 e3 e2 e1
  have en : (nI m).toInt = m := nI_toInt (by omega)
  have e7 : (32767 : Int32).toInt = 32767 := rfl
  have e8 : (65536 : Int32).toInt = 65536 := rfl
  by_cases h : (32767 : Int32) < nI m
  · rw [if_pos h]
    rw [ti_lt, en, e7] at h
    rw [ti_sub (by rw [en, e8]; omega) (by rw [en, e8]; omega), en, e8, if_neg (by omega)]
  · rw [if_neg h]
    rw [ti_lt, en, e7] at h
    rw [en, if_pos (by omega)]
theorem signed_eq (v : Int64) (M : JM) : f_X8_signed v M = some (v.toInt32.toInt16.toInt32, M) := by
  unfold f_X8_signed
  rw [sv_e, ← sgn_v]
  split <;> rfl
/-- one track's tick, as the class does it -/
def ptM (M : JM) (t : Nat) : JM := if gi M t 7 + 1 < 2 then si M t 7 (gi M t 7 + 1) else if gi M t 7 + 1 < 6 then si (si (si M t 7 (gi M t 7 + 1)) t 1 ((gi M t 1 + gi M t 5).toInt16.toInt32)) t 2 ((gi M t 2 + gi M t 6).toInt16.toInt32) else si M t 7 (gi M t 7 + 1)
abbrev coast (a : Int32) : Prop := ¬ a + 1 < 2 ∧ a + 1 < 6
theorem Gr_ptM (M : JM) (t : Nat) : gr (ptM M t) = gr M := by
  unfold ptM; repeat' split
  all_goals rfl
theorem Gn_ptM (M : JM) (t : Nat) : gn (ptM M t) = gn M := by
  unfold ptM; repeat' split
  all_goals rfl
theorem gi_ptM (M : JM) (t k : Nat) (j : Int32) : gi (ptM M t) k j = if k = t ∧ j = 7 then gi M t 7 + 1 else if k = t ∧ j = 1 ∧ coast (gi M t 7) then (gi M t 1 + gi M t 5).toInt16.toInt32 else if k = t ∧ j = 2 ∧ coast (gi M t 7) then (gi M t 2 + gi M t 6).toInt16.toInt32 else gi M k j := by
  unfold ptM coast
  by_cases c1 : gi M t 7 + 1 < 2
  · rw [if_pos c1, gi_si]
    simp only [c1, not_true, false_and, and_false, if_false]
  · rw [if_neg c1]
    by_cases c2 : gi M t 7 + 1 < 6
    · rw [if_pos c2]
      simp only [gi_si, c1, c2, not_false_iff, and_true, true_and]
      by_cases hk : k = t
      · subst hk
        simp only [true_and]
        by_cases h7 : j = 7
        · subst h7
          simp only [show ¬ ((7 : Int32) = 2) by decide, show ¬ ((7 : Int32) = 1) by decide, if_false, if_true]
        · simp only [h7, if_false]
          by_cases h1 : j = 1
          · subst h1
            simp only [show ¬ ((1 : Int32) = 2) by decide, if_false, if_true]
          · simp only [h1, if_false]
      · simp only [hk, false_and, if_false]
    · rw [if_neg c2, gi_si]
      simp only [c2, and_false, if_false]
theorem pt_eq (M : JM) (t : Nat) : f_X5_passTick t M = some ((), ptM M t) := by
  have e7 : gi (si M t 7 (gi M t 7 + 1)) t 7 = gi M t 7 + 1 := by rw [gi_si, if_pos ⟨rfl, rfl⟩]
  unfold f_X5_passTick ptM
  rw [sq_e, e7]
  by_cases c1 : gi M t 7 + 1 < 2
  · rw [if_pos c1, if_pos c1]
  · rw [if_neg c1, if_neg c1]
    by_cases c2 : gi M t 7 + 1 < 6
    · rw [if_pos c2, if_pos c2, sq_e, sq_e]
      have e1 : gi (si M t 7 (gi M t 7 + 1)) t 1 = gi M t 1 := by rw [gi_si, if_neg (fun q => absurd q.2 (by decide))]
      have e5 : gi (si M t 7 (gi M t 7 + 1)) t 5 = gi M t 5 := by rw [gi_si, if_neg (fun q => absurd q.2 (by decide))]
      have e2 : ∀ v, gi (si (si M t 7 (gi M t 7 + 1)) t 1 v) t 2 = gi M t 2 := fun v => by rw [gi_si, if_neg (fun q => absurd q.2 (by decide)), gi_si, if_neg (fun q => absurd q.2 (by decide))]
      have e6 : ∀ v, gi (si (si M t 7 (gi M t 7 + 1)) t 1 v) t 6 = gi M t 6 := fun v => by rw [gi_si, if_neg (fun q => absurd q.2 (by decide)), gi_si, if_neg (fun q => absurd q.2 (by decide))]
      rw [e1, e5, e2, e6]
    · rw [if_neg c2, if_neg c2]
/-- the reference's row i comes to k -/
def mvM (M : JM) (i k : Int32) : JM := (fun r j => if 50 ≤ r ∧ r ≤ 59 ∧ j = k then gi M r i else gi M r j, M.2)
theorem gi_mvM (M : JM) (i k : Int32) (r : Nat) (j : Int32) : gi (mvM M i k) r j = if 50 ≤ r ∧ r ≤ 59 ∧ j = k then gi M r i else gi M r j := rfl
theorem Gr_mvM (M : JM) (i k : Int32) : gr (mvM M i k) = gr M := rfl
theorem Gn_mvM (M : JM) (i k : Int32) : gn (mvM M i k) = gn M := rfl
theorem moves_eq {M : JM} (hr : RF (gr M)) (i k : Int32) (hi : 0 ≤ i ∧ i < 12) (hk : 0 ≤ k ∧ k < 12) : f_X8_moves 32 i k M = some ((), mvM M i k) := by
  unfold f_X8_moves
  rw [hr.r32_29, orf_e, orf_e, ln_50, if_pos hi, if_pos hk, sq_e]
  simp only [Gr_si]
  rw [hr.r32_30, orf_e, orf_e, ln_51, if_pos hi, if_pos hk, sq_e]
  simp only [Gr_si]
  rw [hr.r32_31, orf_e, orf_e, ln_52, if_pos hi, if_pos hk, sq_e]
  simp only [Gr_si]
  rw [hr.r32_32, orf_e, orf_e, ln_53, if_pos hi, if_pos hk, sq_e]
  simp only [Gr_si]
  rw [hr.r32_33, orf_e, orf_e, ln_54, if_pos hi, if_pos hk, sq_e]
  simp only [Gr_si]
  rw [hr.r32_34, orf_e, orf_e, ln_55, if_pos hi, if_pos hk, sq_e]
  simp only [Gr_si]
  rw [hr.r32_35, orf_e, orf_e, ln_56, if_pos hi, if_pos hk, sq_e]
  simp only [Gr_si]
  rw [hr.r32_36, orf_e, orf_e, ln_57, if_pos hi, if_pos hk, sq_e]
  simp only [Gr_si]
  rw [hr.r32_37, orf_e, orf_e, ln_58, if_pos hi, if_pos hk, sq_e]
  simp only [Gr_si]
  rw [hr.r32_38, orf_e, orf_e, ln_59, if_pos hi, if_pos hk, sq_e]
  have e : ∀ (A : JM) (r r' : Nat) (j v : Int32), r' ≠ r → gi (si A r k v) r' j = gi A r' j := fun A r r' j v h => by rw [gi_si, if_neg (fun q => h q.1)]
  congr 2
  refine JM_ext (fun r j => ?_) rfl rfl
  rw [gi_mvM]
  simp only [e _ _ 51 _ _ (show 51 ≠ 50 by decide), e _ _ 52 _ _ (show 52 ≠ 51 by decide), e _ _ 52 _ _ (show 52 ≠ 50 by decide), e _ _ 53 _ _ (show 53 ≠ 52 by decide), e _ _ 53 _ _ (show 53 ≠ 51 by decide), e _ _ 53 _ _ (show 53 ≠ 50 by decide)]
  by_cases hj : j = k
  · subst hj
    by_cases hr' : 50 ≤ r ∧ r ≤ 59
    · rw [if_pos ⟨hr'.1, hr'.2, rfl⟩]
      rcases (show r = 50 ∨ r = 51 ∨ r = 52 ∨ r = 53 ∨ r = 54 ∨ r = 55 ∨ r = 56 ∨ r = 57 ∨ r = 58 ∨ r = 59 by omega) with rfl | rfl | rfl | rfl | rfl | rfl | rfl | rfl | rfl | rfl <;> simp [gi_si]
    · rw [if_neg (by omega)]
      simp only [gi_si]
      rw [if_neg (by omega), if_neg (by omega), if_neg (by omega), if_neg (by omega), if_neg (by omega), if_neg (by omega), if_neg (by omega), if_neg (by omega), if_neg (by omega), if_neg (by omega)]
  · rw [if_neg (fun q => hj q.2.2)]
    simp only [gi_si, hj, and_false, if_false]
