/-! PURE PART: the class's reader passes over items -/
def rdM (M : JM) (n f p : Int32) : JM := si (si (si M 4 2 n) 4 4 f) 4 5 p
theorem gi_rd (M : JM) (n f p : Int32) (k : Nat) (j : Int32) : gi (rdM M n f p) k j = if k = 4 ∧ j = 5 then p else if k = 4 ∧ j = 4 then f else if k = 4 ∧ j = 2 then n else gi M k j := rfl
theorem Gr_rd (M : JM) (n f p : Int32) : gr (rdM M n f p) = gr M := rfl
theorem Gn_rd (M : JM) (n f p : Int32) : gn (rdM M n f p) = gn M := rfl
theorem rd2 (M : JM) (n f p : Int32) : gi (rdM M n f p) 4 2 = n := by
  rw [gi_rd, if_neg (by decide), if_neg (by decide), if_pos (by decide)]
theorem rd3 (M : JM) (n f p : Int32) : gi (rdM M n f p) 4 3 = gi M 4 3 := by
  rw [gi_rd, if_neg (by decide), if_neg (by decide), if_neg (by decide)]
theorem rd4 (M : JM) (n f p : Int32) : gi (rdM M n f p) 4 4 = f := by
  rw [gi_rd, if_neg (by decide), if_pos (by decide)]
theorem rd5 (M : JM) (n f p : Int32) : gi (rdM M n f p) 4 5 = p := by
  rw [gi_rd, if_pos (by decide)]
theorem rd_k {M : JM} {n f p : Int32} {k : Nat} {j : Int32} (h : k ≠ 4) : gi (rdM M n f p) k j = gi M k j := by
  rw [gi_rd, if_neg (fun q => h q.1), if_neg (fun q => h q.1), if_neg (fun q => h q.1)]
theorem rd_n (M : JM) (n f p n' : Int32) : si (rdM M n f p) 4 2 n' = rdM M n' f p := by
  refine JM_ext (fun k j => ?_) rfl rfl
  rw [gi_si, gi_rd, gi_rd]
  by_cases hk : k = 4
  · subst hk
    simp only [true_and]
    grind
  · simp only [hk, false_and, if_false]
theorem rd_f (M : JM) (n f p f' p' : Int32) : si (si (rdM M n f p) 4 4 f') 4 5 p' = rdM M n f' p' := by
  refine JM_ext (fun k j => ?_) rfl rfl
  rw [gi_si, gi_si, gi_rd, gi_rd]
  by_cases hk : k = 4
  · subst hk
    simp only [true_and]
    grind
  · simp only [hk, false_and, if_false]
theorem rd_self (M : JM) (n f p n' f' p' : Int32) : rdM (rdM M n f p) n' f' p' = rdM M n' f' p' := by
  refine JM_ext (fun k j => ?_) rfl rfl
  rw [gi_rd, gi_rd, gi_rd]
  by_cases hk : k = 4
  · subst hk
    simp only [true_and]
    grind
  · simp only [hk, false_and, if_false]
theorem fail_y (M : JM) (n p0 f p : Int32) : f_X3_fail 4 f p (rdM M n 0 p0) = some ((), rdM M n f p) := by
  unfold f_X3_fail
  rw [rd4, if_pos rfl, sq_e, sq_e, rd_f]
theorem fail_n {M : JM} {n p0 g f p : Int32} (h : g ≠ 0) : f_X3_fail 4 f p (rdM M n g p0) = some ((), rdM M n g p0) := by
  unfold f_X3_fail
  rw [rd4, if_neg h]
def cOut (M : JM) (p0 : Int32) (R : Rs) (X : Option (Unit × JM)) : Prop := match R with
  | .inl a => X = some ((), rdM M a 0 p0)
  | .inr q => q.1 ≠ 0 ∧ ∃ n, X = some ((), rdM M n q.1 q.2)
theorem cOut_l {M : JM} {p0 a : Int32} {X : Option (Unit × JM)} (h : X = some ((), rdM M a 0 p0)) : cOut M p0 (.inl a) X := h
theorem cOut_r {M : JM} {p0 f p n : Int32} {X : Option (Unit × JM)} (h0 : f ≠ 0) (h : X = some ((), rdM M n f p)) : cOut M p0 (.inr (f, p)) X := ⟨h0, n, h⟩
/-- the reader stands on the tape, with so many bytes before its end -/
def RdC (M : JM) (T : Int32 → Int32) (z : Nat) : Prop := RF (gr M) ∧ gi M 4 3 = nI z ∧ z ≤ 300 ∧ ∀ j, j < z → gi M 3 (nI j) = T (nI j)
theorem pass_eq {M : JM} {T : Int32 → Int32} {z : Nat} (h : RdC M T z) (p0 : Int32) {x n : Nat} (hx : x ≤ z) (hn : n ≤ 1000) : cOut M p0 (sNeed (nI z) (nI n) (nI x)) (f_X3_pass 4 (nI n) (rdM M (nI x) 0 p0)) := by
  obtain ⟨h1, h2, h3, h4⟩ := h
  unfold f_X3_pass sNeed
  rw [rd3, rd2, h2, pk_sub hx, nI_add]
  by_cases c : z < x + n
  · rw [if_pos (nI_lt c (by omega)), if_pos (nI_lt (by omega) (by omega)), fail_y, ob_e]
    exact cOut_r (by decide) rfl
  · rw [if_neg (Int32.not_lt.mpr (nI_le (by omega) (by omega))), if_neg (Int32.not_lt.mpr (nI_le (by omega) (by omega))), sq_e, rd_n]
    exact cOut_l rfl
theorem lp_going {M : JM} {T : Int32 → Int32} {z : Nat} (h : RdC M T z) (p0 : Int32) : ∀ (n m x : Nat), m ≤ 5 → 6 - m < n → x ≤ z → cOut M p0 (sGoing T (nI z) (6 - m) (nI x)) (f_X3_passGoing_L2 n 4 (nI m) (rdM M (nI x) 0 p0)) := by
  obtain ⟨h1, h2, h3, h4⟩ := h
  intro n
  induction n with
  | zero => intro m x _ h; omega
  | succ n ih =>
    intro m x hm hn hx
    rw [show 6 - m = 5 - m + 1 by omega, sGoing, f_X3_passGoing_L2, if_pos (show nI m < 6 from nI_lt (b := 6) (by omega) (by decide)), rd2, rd3, h2]
    by_cases c : x < z
    · rw [if_pos (nI_lt c (by omega)), if_pos (nI_lt c (by omega)), Gr_rd, h1.r4_0, orf_e, ln_3, if_pos (show 0 ≤ nI x ∧ nI x < 300 from ⟨nI_pos' (by omega), nI_lt (b := 300) (by omega) (by decide)⟩), rd_k (by decide), h4 x c]
      unfold f_X3_passGoing_L49 f_X3_passGoing_L70 f_X3_passGoing_L59
      by_cases b : T (nI x) &&& 1 = 1
      · rw [if_pos b, if_pos b, sv_e, if_neg (show ¬ (1 : Int32) = 0 by decide)]
        by_cases e : m = 5
        · subst e
          rw [if_pos rfl, if_pos (show nI 5 = 5 from rfl), rd2, fail_y, ob_e]
          exact cOut_r (by decide) rfl
        · rw [if_neg (show ¬ 5 - m = 0 by omega), if_neg (show ¬ nI m = 5 from fun y => e (nI_inj (by omega) (by decide) y)), sq_e, if_neg (show ¬ (1 : Int32) = 0 by decide), sv_e, rd2, rd_n, nI_p1, nI_p1, show 5 - m = 6 - (m + 1) by omega]
          exact ih (m + 1) (x + 1) (by omega) (by omega) (by omega)
      · rw [if_neg b, if_neg b, sv_e, if_pos rfl, sq_e, rd2, rd_n, if_pos rfl]
        exact cOut_l rfl
    · unfold f_X3_passGoing_L19
      rw [if_neg (Int32.not_lt.mpr (nI_le (by omega) (by omega))), if_neg (Int32.not_lt.mpr (nI_le (by omega) (by omega))), rd3, h2, fail_y, ob_e]
      exact cOut_r (by decide) rfl
theorem ob_u (X : Option (Unit × JM)) : (ob X fun _ M => some ((), M)) = X := by
  rcases X with _ | ⟨⟨⟩, M⟩ <;> rfl
theorem going_eq {M : JM} {T : Int32 → Int32} {z : Nat} (h : RdC M T z) (p0 : Int32) {x : Nat} (hx : x ≤ z) : cOut M p0 (sGoing T (nI z) 6 (nI x)) (f_X3_passGoing 4 (rdM M (nI x) 0 p0)) := by
  unfold f_X3_passGoing
  rw [sv_e]
  exact lp_going h p0 FU 0 x (by omega) (by show _ < 4096; omega) hx
theorem again_eq {M : JM} {T : Int32 → Int32} {z : Nat} (h : RdC M T z) (p0 : Int32) {x n : Nat} (hx : x ≤ z) (hn : n ≤ 8) : cOut M p0 (sAgain T (nI z) (nI n) (nI x)) (f_X3_passAgain 4 (nI n) (rdM M (nI x) 0 p0)) := by
  have h0 := h
  obtain ⟨h1, h2, h3, h4⟩ := h
  unfold f_X3_passAgain f_X3_passAgain_L41 sAgain
  rw [rd2, rd3, h2]
  by_cases c : x < z
  · rw [if_pos (nI_lt c (by omega)), if_pos (nI_lt c (by omega)), Gr_rd, h1.r4_0, orf_e, ln_3, if_pos (show 0 ≤ nI x ∧ nI x < 300 from ⟨nI_pos' (by omega), nI_lt (b := 300) (by omega) (by decide)⟩), rd_k (by decide), h4 x c, sv_e]
    by_cases b : 1 ≤ T (nI x) ∧ T (nI x) ≤ 5
    · obtain ⟨y, ey, hy⟩ := nI_ex (x := T (nI x)) (h := 5) (by grind) b.2 (by decide)
      have hp := pass_eq h0 p0 (x := x + 1) (n := y * n) (by omega) (by have := Nat.mul_le_mul hy hn; omega)
      rw [if_pos b, if_neg (Int32.not_lt.mpr b.1), if_neg (Int32.not_lt.mpr b.2), sq_e, rd_n, ob_u, ey, pk_mul, nI_p1]
      exact hp
    · rw [if_neg b]
      by_cases b1 : T (nI x) < 1
      · rw [if_pos b1, fail_y, ob_e]
        exact cOut_r (by decide) rfl
      · rw [if_neg b1, if_pos (by grind), fail_y, ob_e]
        exact cOut_r (by decide) rfl
  · rw [if_neg (Int32.not_lt.mpr (nI_le (by omega) (by omega))), if_neg (Int32.not_lt.mpr (nI_le (by omega) (by omega))), fail_y, ob_e]
    exact cOut_r (by decide) rfl
/-- the bytes of bits: the answer is how many bits they have -/
def cOutV (M : JM) (p0 : Int32) (V : Int32 → Int32) (R : Rs) (X : Option (Int32 × JM)) : Prop := match R with
  | .inl a => X = some (V a, rdM M a 0 p0)
  | .inr q => q.1 ≠ 0 ∧ ∃ n, X = some (0, rdM M n q.1 q.2)
theorem cOutV_l {M : JM} {p0 a r : Int32} {V : Int32 → Int32} {X : Option (Int32 × JM)} (e : V a = r) (h : X = some (r, rdM M a 0 p0)) : cOutV M p0 V (.inl a) X := by
  subst e; exact h
theorem cOutV_r {M : JM} {p0 f p n : Int32} {V : Int32 → Int32} {X : Option (Int32 × JM)} (h0 : f ≠ 0) (h : X = some (0, rdM M n f p)) : cOutV M p0 V (.inr (f, p)) X := ⟨h0, n, h⟩
theorem lp_pbits {M : JM} {T : Int32 → Int32} {z : Nat} (h : RdC M T z) (p0 : Int32) {most x0 : Nat} (hm : most ≤ 3) : ∀ (n m : Nat), m < most → most - m < n → x0 + m ≤ z → cOutV M p0 (fun a => (a - nI x0) * 7) (sBits T (nI z) (most - m) (nI (x0 + m))) (f_X3_passBits_L2 n 4 (nI most) (nI (m + 1)) (rdM M (nI (x0 + m)) 0 p0)) := by
  obtain ⟨h1, h2, h3, h4⟩ := h
  intro n
  induction n with
  | zero => intro m _ h; omega
  | succ n ih =>
    intro m hm2 hn hx
    rw [show most - m = most - m - 1 + 1 by omega, sBits, f_X3_passBits_L2, if_neg (show ¬ nI most < nI (m + 1) from Int32.not_lt.mpr (nI_le (by omega) (by omega))), rd2, rd3, h2]
    by_cases c : x0 + m < z
    · rw [if_pos (nI_lt c (by omega)), if_pos (nI_lt c (by omega)), Gr_rd, h1.r4_0, orf_e, ln_3, if_pos (show 0 ≤ nI (x0 + m) ∧ nI (x0 + m) < 300 from ⟨nI_pos' (by omega), nI_lt (b := 300) (by omega) (by decide)⟩), rd_k (by decide), h4 _ c, sv_e]
      unfold f_X3_passBits_L51 f_X3_passBits_L63 f_X3_passBits_L70 f_X3_passBits_L81 f_X3_passBits_L96
      by_cases b : T (nI (x0 + m)) &&& 1 = 1
      · rw [if_pos b, if_pos b, sv_e, if_neg (show ¬ (1 : Int32) = 0 by decide)]
        by_cases e : m + 1 = most
        · rw [if_pos (show most - m - 1 = 0 by omega), if_pos (by rw [e]), rd2, fail_y, ob_e]
          exact cOutV_r (by decide) rfl
        · rw [if_neg (show ¬ most - m - 1 = 0 by omega), if_neg (show ¬ nI (m + 1) = nI most from fun y => e (nI_inj (by omega) (by omega) y)), sq_e, rd2, rd_n, if_neg (show ¬ (1 : Int32) = 0 by decide), sv_e, nI_p1, nI_p1, show most - m - 1 = most - (m + 1) by omega]
          exact ih (m + 1) (by omega) (by omega) (by omega)
      · rw [if_neg b, if_neg b, sv_e, if_pos rfl]
        by_cases g : T (nI (x0 + m)) = 0
        · rw [if_pos g, if_pos g, rd2, fail_y, ob_e]
          exact cOutV_r (by decide) rfl
        · rw [if_neg g, if_neg g, sq_e, rd2, rd_n, if_pos rfl]
          refine cOutV_l ?_ rfl
          show (nI (x0 + m) + 1 - nI x0) * 7 = _
          rw [nI_p1, pk_sub (by omega), show x0 + m + 1 - x0 = m + 1 by omega]
    · unfold f_X3_passBits_L18
      rw [if_neg (Int32.not_lt.mpr (nI_le (by omega) (by omega))), if_neg (Int32.not_lt.mpr (nI_le (by omega) (by omega))), rd3, h2, fail_y, ob_e]
      exact cOutV_r (by decide) rfl
theorem pbits_eq {M : JM} {T : Int32 → Int32} {z : Nat} (h : RdC M T z) (p0 : Int32) {most x : Nat} (h0 : 0 < most) (hm : most ≤ 3) (hx : x ≤ z) : cOutV M p0 (fun a => (a - nI x) * 7) (sBits T (nI z) most (nI x)) (f_X3_passBits 4 (nI most) (rdM M (nI x) 0 p0)) := by
  unfold f_X3_passBits
  rw [sv_e]
  exact lp_pbits h p0 hm FU 0 h0 (by show _ < 4096; omega) (by omega)
/-- where the bytes of bits end -/
theorem sBits_in {T : Int32 → Int32} {z : Nat} (hz : z ≤ 300) : ∀ (k x : Nat) (c : Int32), k ≤ 3 → x ≤ z → sBits T (nI z) k (nI x) = .inl c → ∃ nb : Nat, 1 ≤ nb ∧ nb ≤ k ∧ x + nb ≤ z ∧ c = nI (x + nb) := by
  intro k
  induction k with
  | zero => intro x c _ _ h; rw [sBits] at h; cases h
  | succ k ih =>
    intro x c hk hx h
    rw [sBits] at h
    split at h
    · rename_i g1
      have g1' := (nI_ltI (by omega) (by omega)).mp g1
      split at h
      · split at h
        · cases h
        · rw [nI_p1] at h
          obtain ⟨nb, a1, a2, a3, a4⟩ := ih (x + 1) c (by omega) (by omega) h
          exact ⟨nb + 1, by omega, by omega, by omega, by rw [a4, show x + 1 + nb = x + (nb + 1) by omega]⟩
      · split at h
        · cases h
        · exact ⟨1, by omega, by omega, by omega, by rw [← Sum.inl.inj h, nI_p1]⟩
    · cases h
theorem bs_in {T : Int32 → Int32} {a : Int32} {nb m : Nat} (h : m < 7 * nb) (hn : nb < 100) : bs T a (nI nb) (nI m) = bit T a (nI m) := by
  rw [bs_bit, decide_eq_true ((lt7 (by omega) (by omega)).mpr h), Bool.true_and]
theorem bs_out {T : Int32 → Int32} {a : Int32} {nb m : Nat} (h : 7 * nb ≤ m) (hn : m < 1000) : bs T a (nI nb) (nI m) = false := by
  rw [bs_bit, decide_eq_false (fun q => by have := (lt7 (by omega) (by omega)).mp q; omega), Bool.false_and]
theorem sMiss_no {B zz : Int32 → Bool} {fr : Int32} : ∀ (k m : Nat), (∀ t, m ≤ t → t < m + k → B (nI t) = false) → sMiss B zz fr k (nI m) = none := by
  intro k
  induction k with
  | zero => intro m _; rfl
  | succ k ih =>
    intro m h
    rw [sMiss, h m (by omega) (by omega), Bool.false_and, if_neg (by decide), nI_p1]
    exact ih (m + 1) (fun t a b => h t (by omega) (by omega))
theorem sParts_no {B : Int32 → Bool} {w : Int32 → Int32} {e : Int32} : ∀ (k m : Nat) (a : Int32), (∀ t, m ≤ t → t < m + k → B (nI t) = false) → sParts B w e k (nI m) a = .inl a := by
  intro k
  induction k with
  | zero => intro m a _; rfl
  | succ k ih =>
    intro m a h
    rw [sParts, h m (by omega) (by omega), if_neg (by decide), nI_p1]
    exact ih (m + 1) a (fun t a b => h t (by omega) (by omega))
theorem one_eq {M : JM} {T : Int32 → Int32} {z : Nat} (h : RdC M T z) (n f p : Int32) {x m : Nat} (hx : x + m / 7 < z) (hm : m < 300) : f_X7_isOne 3 (nI x) (nI m) (rdM M n f p) = some (bit T (nI x) (nI m), rdM M n f p) := by
  obtain ⟨h1, h2, h3, h4⟩ := h
  rw [isOne_eq (q := 3) rfl (by omega) hm]
  rw [bit_congr (f := gi (rdM M n f p) 3) (g := T) hm (by rw [rd_k (by decide)]; exact h4 _ hx)]
