/-! PURE PART: what write needs -/
theorem and255_id : ∀ n : Nat, n < 256 → nI n &&& 255 = nI n := by decide +kernel
theorem and255_eq {x : Int32} (h0 : 0 ≤ x) (h1 : x ≤ 255) : x &&& 255 = x := by
  obtain ⟨j, hj, rfl⟩ := nI_of (Int32.not_lt.mpr h0)
  exact and255_id j (by have := (nI_leI (b := 255) hj (by decide)).mp h1; omega)
theorem hi_byte : ∀ n : Nat, n < 301 → (nI n >>> ((8 : Int32) &&& 31)) &&& (255 : Int32) = nI n >>> ((8 : Int32) &&& 31) ∧ (0 : Int32) ≤ nI n >>> ((8 : Int32) &&& 31) ∧ nI n >>> ((8 : Int32) &&& 31) ≤ (255 : Int32) := by decide +kernel
def lastN (s : Nat → Nat) : Nat → Nat
  | 0 => 0
  | k + 1 => if s (k + 1) = 0 then lastN s k else k + 1
def sumN (s : Nat → Nat) : Nat → Nat
  | 0 => 0
  | k + 1 => sumN s k + s (k + 1)
theorem lastN_le (s : Nat → Nat) : ∀ k, lastN s k ≤ k := by
  intro k
  induction k with
  | zero => exact Nat.le_refl _
  | succ k ih => rw [lastN]; split <;> omega
theorem lastN_out (s : Nat → Nat) : ∀ k j, lastN s k < j → j ≤ k → s j = 0 := by
  intro k
  induction k with
  | zero => intro j h1 h2; omega
  | succ k ih =>
    intro j h1 h2
    rw [lastN] at h1
    split at h1
    · rename_i h0
      by_cases hj : j = k + 1
      · rw [hj]; exact h0
      · exact ih j h1 (by omega)
    · omega
theorem sumN_le (s : Nat → Nat) : ∀ k, (∀ j, 1 ≤ j → j ≤ k → s j ≤ 58) → sumN s k ≤ 58 * k := by
  intro k
  induction k with
  | zero => intro _; exact Nat.le_refl _
  | succ k ih =>
    intro h
    have h1 := ih (fun j a b => h j a (by omega))
    have h2 := h (k + 1) (by omega) (by omega)
    rw [sumN]
    omega
/-- the sizes of one's own items as numbers -/
def Sz (M : JM) (k : Nat) (s : Nat → Nat) : Prop := ∀ j : Nat, 1 ≤ j → j ≤ 21 → gi M k (nI j) = nI (s j) ∧ s j ≤ 58
theorem Sz.of {M : JM} (hO : IOwn M) : ∃ s, Sz M 17 s ∧ Sz M 48 s := by
  refine ⟨fun j => (gi M 48 (nI j)).toNatClampNeg, fun j h1 h2 => ?_, fun j h1 h2 => ?_⟩
  all_goals
    obtain ⟨o1, o2, o3, -⟩ := hO.2 (nI j) (nI_le (a := 1) h1 (by omega)) (nI_le (b := 21) h2 (by decide))
    have e := nI_cl (Int32.not_lt.mpr o2)
    refine ⟨by first | (rw [o1]; exact e.symm) | exact e.symm, ?_⟩
    rw [← e] at o3
    obtain ⟨j', hj', e'⟩ := nI_of (Int32.not_lt.mpr o2)
    show (gi M 48 (nI j)).toNatClampNeg ≤ 58
    rw [e', nI_clamp hj'] at o3 ⊢
    exact (nI_leI (b := 58) hj' (by decide)).mp o3
theorem nI_p1 (n : Nat) : nI n + 1 = nI (n + 1) := nI_1 n
theorem nI_m1' (n : Nat) : nI (n + 1) + -1 = nI n := pk_m1 n
theorem lp_last {M : JM} (hr : RF (gr M)) {s : Nat → Nat} (hs : Sz M 17 s) : ∀ (n k : Nat), k ≤ 21 → k < n → f_X2_lastPlace_L3 n 15 (nI k) M = some (nI (lastN s k), M) := by
  intro n
  induction n with
  | zero => intro k _ h; omega
  | succ n ih =>
    intro k h1 h2
    rw [f_X2_lastPlace_L3]
    cases k with
    | zero => rw [if_pos (by decide)]; rfl
    | succ k =>
      obtain ⟨e1, e2⟩ := hs (k + 1) (by omega) h1
      rw [if_neg (show ¬ nI (k + 1) < 1 from Int32.not_lt.mpr (nI_le (a := 1) (by omega) (by omega))), hr.r15_2, orf_e, ln_17, if_pos (show 0 ≤ nI (k + 1) ∧ nI (k + 1) < 22 from ⟨nI_pos' (by omega), nI_lt (b := 22) (by omega) (by decide)⟩), e1, lastN]
      by_cases h0 : s (k + 1) = 0
      · rw [if_pos (by rw [h0]; rfl), if_pos h0, sv_e, nI_m1', ih k (by omega) (by omega)]
      · rw [if_neg (nI_ne0 (by omega) (by omega)), if_neg h0]
theorem lp_sum {M : JM} (hr : RF (gr M)) {s : Nat → Nat} (hs : Sz M 17 s) : ∀ (n k : Nat), k ≤ 21 → 21 - k < n → f_X2_itemBytes_L4 n 15 (nI (sumN s k)) (nI (k + 1)) M = some (nI (sumN s 21), M) := by
  intro n
  induction n with
  | zero => intro k _ h; omega
  | succ n ih =>
    intro k h1 h2
    rw [f_X2_itemBytes_L4]
    by_cases hk : k = 21
    · subst hk
      rw [if_pos (by decide)]
    · obtain ⟨e1, e2⟩ := hs (k + 1) (by omega) (by omega)
      rw [if_neg (show ¬ 21 < nI (k + 1) from Int32.not_lt.mpr (nI_le (b := 21) (by omega) (by decide))), hr.r15_2, orf_e, ln_17, if_pos (show 0 ≤ nI (k + 1) ∧ nI (k + 1) < 22 from ⟨nI_pos' (by omega), nI_lt (b := 22) (by omega) (by decide)⟩), e1, sv_e, sv_e, nI_add, nI_p1]
      exact ih (k + 1) (by omega) (by omega)
theorem lp_mlast {M : JM} (hr : RF (gr M)) {s : Nat → Nat} (hs : Sz M 48 s) (ho : ¬ gi M 32 25 < 0) : ∀ (n k : Nat), k ≤ 21 → 21 - k < n → f_X8_write_L6 n 32 (nI (lastN s k)) (nI (3 + sumN s k)) (nI (k + 1)) M = f_X8_write_L49 32 (nI (lastN s 21)) (nI (3 + sumN s 21)) M := by
  intro n
  induction n with
  | zero => intro k _ h; omega
  | succ n ih =>
    intro k h1 h2
    rw [f_X8_write_L6]
    by_cases hk : k = 21
    · subst hk
      rw [if_pos (by decide)]
    · obtain ⟨e1, e2⟩ := hs (k + 1) (by omega) (by omega)
      have l1 : 0 ≤ nI (k + 1) ∧ nI (k + 1) < 22 := ⟨nI_pos' (by omega), nI_lt (b := 22) (by omega) (by decide)⟩
      have tail : ∀ x, f_X8_write_L33 (f_X8_write_L6 n) 32 (nI (3 + sumN s k)) (nI (k + 1)) x M = f_X8_write_L6 n 32 x (nI (3 + sumN s (k + 1))) (nI (k + 1 + 1)) M := by
        intro x
        unfold f_X8_write_L33
        rw [sv_e, hr.r32_26, orf_e, ln_48, if_pos l1, sv_e, sv_e, e1, nI_add, nI_p1, sumN, show 3 + sumN s k + s (k + 1) = 3 + (sumN s k + s (k + 1)) by omega]
      have hl := ih (k + 1) (by omega) (by omega)
      rw [if_neg (show ¬ 21 < nI (k + 1) from Int32.not_lt.mpr (nI_le (b := 21) (by omega) (by decide))), if_neg ho, hr.r32_26, orf_e, ln_48, if_pos l1, tail, tail, e1]
      rw [lastN] at hl
      by_cases h0 : s (k + 1) = 0
      · rw [if_neg (by rw [h0]; decide)]
        rw [if_pos h0] at hl
        exact hl
      · rw [if_pos (show 0 < nI (s (k + 1)) from nI_lt (a := 0) (by omega) (by omega))]
        rw [if_neg h0] at hl
        exact hl
theorem bits_n : ∀ a : Nat, a < 22 → (nI a + 7 - 1) / 7 = nI ((a + 6) / 7) ∧ (nI a + 6) / 7 = nI ((a + 6) / 7) := by decide +kernel
/-- a byte of bits -/
def tb (s : Nat → Nat) (q : Nat) : Int32 := if 21 < q then 0 else if s q = 0 then 0 else 1
def bcl (t : Nat → Int32) : Nat → Nat → Int32 → Int32
  | 0, _, acc => acc
  | k + 1, v, acc => bcl t k (v + 1) ((acc <<< ((1 : Int32) &&& 31)) ||| t v)
def bml (t : Nat → Int32) : Nat → Nat → Int32 → Int32
  | 0, _, acc => acc
  | k + 1, v, acc => bml t k (v + 1) (acc ||| (if t (v + 1) = 0 then (0 : Int32) else (1 : Int32) <<< ((7 - nI v) &&& 31)))
theorem lp_bits {M : JM} (hr : RF (gr M)) {s : Nat → Nat} (hs : Sz M 17 s) (i : Nat) (hi : i < 3) (l : Int32) : ∀ (n k : Nat) (acc : Int32), k ≤ 7 → 7 - k < n → f_X2_bitsByte_L5 n 15 (nI i) l acc (nI (k + 1)) M = some (((bcl (fun v => tb s (i * 7 + v)) (7 - k) (k + 1) acc) <<< ((1 : Int32) &&& 31)) ||| (if l = 0 then (1 : Int32) else (0 : Int32)), M) := by
  intro n
  induction n with
  | zero => intro k _ _ h; omega
  | succ n ih =>
    intro k acc h1 h2
    rw [f_X2_bitsByte_L5]
    by_cases hk : k = 7
    · subst hk
      rw [if_pos (by decide)]
      unfold f_X2_bitsByte_L54 f_X2_bitsByte_L66
      rw [show 7 - 7 = 0 from rfl, bcl]
      by_cases hl : l = 0
      · rw [if_pos hl, if_pos hl]
      · rw [if_neg hl, if_neg hl]
    · have eq : nI i * 7 + nI (k + 1) = nI (i * 7 + (k + 1)) := by rw [show (7 : Int32) = nI 7 from rfl, pk_mul, nI_add]
      have tail : ∀ u : Int32, f_X2_bitsByte_L46 (f_X2_bitsByte_L5 n) 15 (nI i) l (nI (k + 1)) u (acc <<< ((1 : Int32) &&& 31)) M = f_X2_bitsByte_L5 n 15 (nI i) l ((acc <<< ((1 : Int32) &&& 31)) ||| u) (nI (k + 1 + 1)) M := by
        intro u
        unfold f_X2_bitsByte_L46
        rw [sv_e, sv_e, nI_p1]
      have hl := ih (k + 1) ((acc <<< ((1 : Int32) &&& 31)) ||| tb s (i * 7 + (k + 1))) (by omega) (by omega)
      rw [if_neg (show ¬ 7 < nI (k + 1) from Int32.not_lt.mpr (nI_le (b := 7) (by omega) (by decide))), sv_e, eq]
      unfold f_X2_bitsByte_L45
      rw [tail, tail, show 7 - k = 7 - (k + 1) + 1 by omega, bcl]
      have goal : f_X2_bitsByte_L5 n 15 (nI i) l ((acc <<< ((1 : Int32) &&& 31)) ||| tb s (i * 7 + (k + 1))) (nI (k + 1 + 1)) M = some (((bcl (fun v => tb s (i * 7 + v)) (7 - (k + 1)) (k + 1 + 1) ((acc <<< ((1 : Int32) &&& 31)) ||| tb s (i * 7 + (k + 1)))) <<< ((1 : Int32) &&& 31)) ||| (if l = 0 then (1 : Int32) else (0 : Int32)), M) := hl
      by_cases hq : 21 < i * 7 + (k + 1)
      · rw [if_pos (show 21 < nI (i * 7 + (k + 1)) from nI_lt (a := 21) (by omega) (by omega))]
        rw [show tb s (i * 7 + (k + 1)) = 0 by unfold tb; rw [if_pos hq]] at goal ⊢
        exact goal
      · obtain ⟨e1, e2⟩ := hs (i * 7 + (k + 1)) (by omega) (by omega)
        rw [if_neg (show ¬ 21 < nI (i * 7 + (k + 1)) from Int32.not_lt.mpr (nI_le (b := 21) (by omega) (by decide))), hr.r15_2, orf_e, ln_17, if_pos (show 0 ≤ nI (i * 7 + (k + 1)) ∧ nI (i * 7 + (k + 1)) < 22 from ⟨nI_pos' (by omega), nI_lt (b := 22) (by omega) (by decide)⟩), e1]
        by_cases h0 : s (i * 7 + (k + 1)) = 0
        · rw [if_pos (by rw [h0]; rfl)]
          rw [show tb s (i * 7 + (k + 1)) = 0 by unfold tb; rw [if_neg hq, if_pos h0]] at goal ⊢
          exact goal
        · rw [if_neg (nI_ne0 (by omega) (by omega))]
          rw [show tb s (i * 7 + (k + 1)) = 1 by unfold tb; rw [if_neg hq, if_neg h0]] at goal ⊢
          exact goal
theorem byte_eq : ∀ b1 b2 b3 b4 b5 b6 b7 l : Bool, (((((((((bI b1 <<< ((1 : Int32) &&& 31)) ||| bI b2) <<< ((1 : Int32) &&& 31) ||| bI b3) <<< ((1 : Int32) &&& 31) ||| bI b4) <<< ((1 : Int32) &&& 31) ||| bI b5) <<< ((1 : Int32) &&& 31) ||| bI b6) <<< ((1 : Int32) &&& 31) ||| bI b7) <<< ((1 : Int32) &&& 31)) ||| bI l) =
    ((((((((bI l ||| (if bI b1 = 0 then (0 : Int32) else (1 : Int32) <<< ((7 - 0 : Int32) &&& 31))) ||| (if bI b2 = 0 then (0 : Int32) else (1 : Int32) <<< ((7 - 1 : Int32) &&& 31))) ||| (if bI b3 = 0 then (0 : Int32) else (1 : Int32) <<< ((7 - 2 : Int32) &&& 31))) ||| (if bI b4 = 0 then (0 : Int32) else (1 : Int32) <<< ((7 - 3 : Int32) &&& 31))) ||| (if bI b5 = 0 then (0 : Int32) else (1 : Int32) <<< ((7 - 4 : Int32) &&& 31))) ||| (if bI b6 = 0 then (0 : Int32) else (1 : Int32) <<< ((7 - 5 : Int32) &&& 31))) ||| (if bI b7 = 0 then (0 : Int32) else (1 : Int32) <<< ((7 - 6 : Int32) &&& 31))) &&& 255) ∧
    0 ≤ (((((((((bI b1 <<< ((1 : Int32) &&& 31)) ||| bI b2) <<< ((1 : Int32) &&& 31) ||| bI b3) <<< ((1 : Int32) &&& 31) ||| bI b4) <<< ((1 : Int32) &&& 31) ||| bI b5) <<< ((1 : Int32) &&& 31) ||| bI b6) <<< ((1 : Int32) &&& 31) ||| bI b7) <<< ((1 : Int32) &&& 31)) ||| bI l) ∧ (((((((((bI b1 <<< ((1 : Int32) &&& 31)) ||| bI b2) <<< ((1 : Int32) &&& 31) ||| bI b3) <<< ((1 : Int32) &&& 31) ||| bI b4) <<< ((1 : Int32) &&& 31) ||| bI b5) <<< ((1 : Int32) &&& 31) ||| bI b6) <<< ((1 : Int32) &&& 31) ||| bI b7) <<< ((1 : Int32) &&& 31)) ||| bI l) ≤ 255 := by decide +kernel
theorem tb_b (s : Nat → Nat) (q : Nat) : ∃ b : Bool, tb s q = bI b := by
  unfold tb
  split
  · exact ⟨false, rfl⟩
  · split
    · exact ⟨false, rfl⟩
    · exact ⟨true, rfl⟩
theorem z_or : ∀ b : Bool, (0 : Int32) <<< ((1 : Int32) &&& 31) ||| bI b = bI b := by decide
/-- class and reference write the same byte of bits -/
theorem byte_cm (t : Nat → Int32) (ht : ∀ v, ∃ b : Bool, t v = bI b) (l : Bool) : ((bcl t 7 1 0) <<< ((1 : Int32) &&& 31)) ||| bI l = (bml t 7 0 (bI l)) &&& 255 ∧ 0 ≤ ((bcl t 7 1 0) <<< ((1 : Int32) &&& 31)) ||| bI l ∧ ((bcl t 7 1 0) <<< ((1 : Int32) &&& 31)) ||| bI l ≤ 255 := by
  obtain ⟨b1, e1⟩ := ht 1
  obtain ⟨b2, e2⟩ := ht 2
  obtain ⟨b3, e3⟩ := ht 3
  obtain ⟨b4, e4⟩ := ht 4
  obtain ⟨b5, e5⟩ := ht 5
  obtain ⟨b6, e6⟩ := ht 6
  obtain ⟨b7, e7⟩ := ht 7
  have h := byte_eq b1 b2 b3 b4 b5 b6 b7 l
  simp only [bcl, bml, e1, e2, e3, e4, e5, e6, e7, Nat.reduceAdd, z_or]
  exact h
