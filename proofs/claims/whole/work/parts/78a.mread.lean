/-! PURE PART: the reference's reader -/
def mdM (M : JM) (n f p : Int32) : JM := si (si (si M 32 9 n) 32 11 f) 32 12 p
theorem gi_md (M : JM) (n f p : Int32) (k : Nat) (j : Int32) : gi (mdM M n f p) k j = if k = 32 ∧ j = 12 then p else if k = 32 ∧ j = 11 then f else if k = 32 ∧ j = 9 then n else gi M k j := rfl
theorem Gr_md (M : JM) (n f p : Int32) : gr (mdM M n f p) = gr M := rfl
theorem Gn_md (M : JM) (n f p : Int32) : gn (mdM M n f p) = gn M := rfl
theorem md9 (M : JM) (n f p : Int32) : gi (mdM M n f p) 32 9 = n := by
  rw [gi_md, if_neg (by decide), if_neg (by decide), if_pos (by decide)]
theorem md11 (M : JM) (n f p : Int32) : gi (mdM M n f p) 32 11 = f := by
  rw [gi_md, if_neg (by decide), if_pos (by decide)]
theorem md12 (M : JM) (n f p : Int32) : gi (mdM M n f p) 32 12 = p := by
  rw [gi_md, if_pos (by decide)]
theorem md_k {M : JM} {n f p : Int32} {k : Nat} {j : Int32} (h : ¬ (k = 32 ∧ (j = 9 ∨ j = 11 ∨ j = 12))) : gi (mdM M n f p) k j = gi M k j := by
  rw [gi_md, if_neg (fun q => h ⟨q.1, Or.inr (Or.inr q.2)⟩), if_neg (fun q => h ⟨q.1, Or.inr (Or.inl q.2)⟩), if_neg (fun q => h ⟨q.1, Or.inl q.2⟩)]
theorem md_n (M : JM) (n f p n' : Int32) : si (mdM M n f p) 32 9 n' = mdM M n' f p := by
  refine JM_ext (fun k j => ?_) rfl rfl
  rw [gi_si, gi_md, gi_md]
  by_cases hk : k = 32
  · subst hk
    simp only [true_and]
    grind
  · simp only [hk, false_and, if_false]
theorem md_f1 (M : JM) (n f p f' : Int32) : si (mdM M n f p) 32 11 f' = mdM M n f' p := by
  refine JM_ext (fun k j => ?_) rfl rfl
  rw [gi_si, gi_md, gi_md]
  by_cases hk : k = 32
  · subst hk
    simp only [true_and]
    grind
  · simp only [hk, false_and, if_false]
theorem md_f (M : JM) (n f p f' p' : Int32) : si (si (mdM M n f p) 32 11 f') 32 12 p' = mdM M n f' p' := by
  rw [md_f1]
  refine JM_ext (fun k j => ?_) rfl rfl
  rw [gi_si, gi_md, gi_md]
  by_cases hk : k = 32
  · subst hk
    simp only [true_and]
    grind
  · simp only [hk, false_and, if_false]
theorem md_si {M : JM} {n f p : Int32} {k : Nat} {j v : Int32} (h : ¬ (k = 32 ∧ (j = 9 ∨ j = 11 ∨ j = 12))) : si (mdM M n f p) k j v = mdM (si M k j v) n f p := by
  refine JM_ext (fun k' j' => ?_) rfl rfl
  rw [gi_si, gi_md, gi_md, gi_si]
  by_cases hk : k' = k ∧ j' = j
  · obtain ⟨rfl, rfl⟩ := hk
    rw [if_pos ⟨rfl, rfl⟩, if_neg (fun q => h ⟨q.1, Or.inr (Or.inr q.2)⟩), if_neg (fun q => h ⟨q.1, Or.inr (Or.inl q.2)⟩), if_neg (fun q => h ⟨q.1, Or.inl q.2⟩), if_pos ⟨rfl, rfl⟩]
  · rw [if_neg hk, if_neg hk]
theorem md_self (M : JM) : mdM M (gi M 32 9) (gi M 32 11) (gi M 32 12) = M := by
  refine JM_ext (fun k j => ?_) rfl rfl
  rw [gi_md]
  split
  · rename_i h; rw [h.1, h.2]
  · split
    · rename_i h; rw [h.1, h.2]
    · split
      · rename_i h; rw [h.1, h.2]
      · rfl
theorem fails_y (M : JM) (n p0 f p : Int32) : f_X8_fails 32 f p (mdM M n 0 p0) = some ((), mdM M n f p) := by
  unfold f_X8_fails
  rw [md11, if_pos rfl, sq_e, sq_e, md_f]
theorem fails_n {M : JM} {n p0 g f p : Int32} (h : g ≠ 0) : f_X8_fails 32 f p (mdM M n g p0) = some ((), mdM M n g p0) := by
  unfold f_X8_fails
  rw [md11, if_neg h]
def mX (M : JM) (p0 : Int32) (R : Rs) (X : Option (Unit × JM)) : Prop := match R with
  | .inl a => X = some ((), mdM M a 0 p0)
  | .inr q => q.1 ≠ 0 ∧ ∃ n, X = some ((), mdM M n q.1 q.2)
theorem mX_l {M : JM} {p0 a : Int32} {X : Option (Unit × JM)} (h : X = some ((), mdM M a 0 p0)) : mX M p0 (.inl a) X := h
theorem mX_r {M : JM} {p0 f p n : Int32} {X : Option (Unit × JM)} (h0 : f ≠ 0) (h : X = some ((), mdM M n f p)) : mX M p0 (.inr (f, p)) X := ⟨h0, n, h⟩
def RdD (M : JM) (T : Int32 → Int32) (z : Nat) : Prop := RF (gr M) ∧ gi M 32 10 = nI z ∧ z ≤ 300 ∧ ∀ j, j < z → gi M 39 (nI j) = T (nI j) ∧ 0 ≤ T (nI j) ∧ T (nI j) ≤ 255
theorem md10 (M : JM) (n f p : Int32) : gi (mdM M n f p) 32 10 = gi M 32 10 := md_k (by decide)
theorem needs_d {M : JM} {n g p v : Int32} (h : g ≠ 0) : f_X8_needs 32 v (mdM M n g p) = some ((), mdM M n g p) := by
  unfold f_X8_needs f_X8_needs_L29 f_X8_needs_L46
  rw [md11, if_neg h, if_neg h, md9, sq_e, md_n, show n + 0 = n by simp]
theorem needs_eq {M : JM} {T : Int32 → Int32} {z : Nat} (h : RdD M T z) (p0 : Int32) {x n : Nat} (hx : x ≤ z) (hn : n ≤ 1000) : mX M p0 (sNeed (nI z) (nI n) (nI x)) (f_X8_needs 32 (nI n) (mdM M (nI x) 0 p0)) := by
  obtain ⟨h1, h2, h3, h4⟩ := h
  unfold f_X8_needs sNeed
  rw [md11, if_pos rfl, md10, md9, h2, nI_add]
  by_cases c : z < x + n
  · rw [if_pos (nI_lt c (by omega)), if_pos (nI_lt c (by omega)), fails_y, ob_e]
    unfold f_X8_needs_L29 f_X8_needs_L46
    rw [md11, if_neg (by decide), md9, sq_e, md_n]
    exact mX_r (by decide) rfl
  · rw [if_neg (Int32.not_lt.mpr (nI_le (by omega) (by omega))), if_neg (Int32.not_lt.mpr (nI_le (by omega) (by omega)))]
    unfold f_X8_needs_L29 f_X8_needs_L46
    rw [md11, if_pos rfl, md9, sq_e, md_n, nI_add]
    exact mX_l rfl
theorem takes_d {M : JM} {n g p : Int32} (h : g ≠ 0) : f_X8_takes 32 (mdM M n g p) = some (0, mdM M n g p) := by
  unfold f_X8_takes
  rw [needs_d h, ob_e, md11, if_neg h]
theorem takes_y {M : JM} {T : Int32 → Int32} {z : Nat} (h : RdD M T z) (p0 : Int32) {x : Nat} (hx : x < z) : f_X8_takes 32 (mdM M (nI x) 0 p0) = some (T (nI x), mdM M (nI (x + 1)) 0 p0) := by
  have hz := h.2.2.1
  have hs : sNeed (nI z) (nI 1) (nI x) = .inl (nI (x + 1)) := by
    unfold sNeed
    rw [nI_add, if_neg (Int32.not_lt.mpr (nI_le (by omega) (by omega)))]
  have hn := needs_eq h p0 (x := x) (n := 1) (by omega) (by decide)
  rw [hs] at hn
  have hn : f_X8_needs 32 1 (mdM M (nI x) 0 p0) = some ((), mdM M (nI (x + 1)) 0 p0) := hn
  unfold f_X8_takes
  rw [hn, ob_e, md11, if_pos rfl, Gr_md, h.1.r32_7, orf_e, md9, nI_pred, ln_39, if_pos (show 0 ≤ nI x ∧ nI x < 300 from ⟨nI_pos' (by omega), nI_lt (b := 300) (by omega) (by decide)⟩), md_k (by omega), (h.2.2.2 x hx).1]
theorem takes_n {M : JM} {T : Int32 → Int32} {z : Nat} (h : RdD M T z) (p0 : Int32) {x : Nat} (hx : x = z) : ∃ n, f_X8_takes 32 (mdM M (nI x) 0 p0) = some (0, mdM M n 3 (nI z)) := by
  have hz := h.2.2.1
  have hs : sNeed (nI z) (nI 1) (nI x) = .inr (3, nI z) := by
    unfold sNeed
    rw [nI_add, if_pos (nI_lt (by omega) (by omega))]
  have hn := needs_eq h p0 (x := x) (n := 1) (by omega) (by decide)
  rw [hs] at hn
  obtain ⟨-, n, hn⟩ := hn
  have hn : f_X8_needs 32 1 (mdM M (nI x) 0 p0) = some ((), mdM M n 3 (nI z)) := hn
  refine ⟨n, ?_⟩
  unfold f_X8_takes
  rw [hn, ob_e, md11, if_neg (by decide)]
theorem lp_mgoing {M : JM} {T : Int32 → Int32} {z : Nat} (h : RdD M T z) (p0 : Int32) : ∀ (n m x : Nat), m ≤ 5 → 8 - m < n → x ≤ z → mX M p0 (sGoing T (nI z) (6 - m) (nI x)) (f_X8_readGoing_L4 n 32 (nI m) 1 (mdM M (nI x) 0 p0)) := by
  have hz := h.2.2.1
  intro n
  induction n with
  | zero => intro m x _ h; omega
  | succ n ih =>
    intro m x hm hn hx
    have hstop : ∀ v1 N, f_X8_readGoing_L4 n 32 v1 0 N = some ((), N) := by
      intro v1 N
      cases n with
      | zero => omega
      | succ n => rw [f_X8_readGoing_L4, if_pos rfl]
    have hdead : ∀ v1 y g p, g ≠ 0 → f_X8_readGoing_L4 n 32 v1 1 (mdM M y g p) = some ((), mdM M y g p) := by
      intro v1 y g p hg
      cases n with
      | zero => omega
      | succ n => rw [f_X8_readGoing_L4, if_neg (by decide), md11, if_neg hg]
    rw [show 6 - m = 5 - m + 1 by omega, sGoing, f_X8_readGoing_L4, if_neg (show ¬ (1 : Int32) = 0 by decide), md11, if_pos (show (0 : Int32) = 0 from rfl)]
    unfold f_X8_readGoing_L30
    by_cases c : x < z
    · rw [if_pos (nI_lt c (by omega)), takes_y h p0 c, ob_e]
      by_cases b : T (nI x) &&& 1 = 1
      · rw [if_pos b, if_pos b, sv_e, sv_e, if_neg (show ¬ (1 : Int32) = 0 by decide), nI_p1, nI_p1]
        by_cases e : m = 5
        · subst e
          rw [if_pos rfl, if_pos (show nI (5 + 1) = 6 from rfl), md9, nI_pred, fails_y, ob_e, hdead _ _ _ _ (by decide)]
          exact mX_r (by decide) rfl
        · rw [if_neg (show ¬ 5 - m = 0 by omega), if_neg (show ¬ nI (m + 1) = 6 from fun y => e (by have := nI_inj (a := m + 1) (c := 6) (by omega) (by decide) y; omega)), show 5 - m = 6 - (m + 1) by omega]
          exact ih (m + 1) (x + 1) (by omega) (by omega) (by omega)
      · rw [if_neg b, if_neg b, sv_e, sv_e, if_pos (show (0 : Int32) = 0 from rfl), hstop, nI_p1]
        exact mX_l rfl
    · obtain ⟨n', e⟩ := takes_n h p0 (x := x) (by omega)
      rw [if_neg (Int32.not_lt.mpr (nI_le (by omega) (by omega))), e, ob_e, if_neg (show ¬ ((0 : Int32) &&& 1 = 1) by decide), sv_e, sv_e, if_pos (show (0 : Int32) = 0 from rfl), hstop]
      exact mX_r (by decide) rfl
theorem mgoing_eq {M : JM} {T : Int32 → Int32} {z : Nat} (h : RdD M T z) (p0 : Int32) {x : Nat} (hx : x ≤ z) : mX M p0 (sGoing T (nI z) 6 (nI x)) (f_X8_readGoing 32 (mdM M (nI x) 0 p0)) := by
  unfold f_X8_readGoing
  rw [sv_e, sv_e]
  exact lp_mgoing h p0 FU 0 x (by omega) (by show _ < 4096; omega) hx
theorem mgoing_d {M : JM} {n g p : Int32} (hg : g ≠ 0) : f_X8_readGoing 32 (mdM M n g p) = some ((), mdM M n g p) := by
  unfold f_X8_readGoing
  rw [sv_e, sv_e, show FU = 4095 + 1 from rfl, f_X8_readGoing_L4, if_neg (by decide), md11, if_neg hg]
