/-! PURE PART: joined bytes -/
def jn (f : Int32 → Int32) : Nat → Int32 → Int64 → Int64
  | 0, _, acc => acc
  | k + 1, b, acc => jn f k (b + 1) ((acc <<< ((8 : Int32).toInt64 &&& 63)) ||| (f b).toInt64)
theorem jn_congr {f g : Int32 → Int32} : ∀ (k b : Nat) (acc : Int64), (∀ t : Nat, t < k → f (nI (b + t)) = g (nI (b + t))) → jn f k (nI b) acc = jn g k (nI b) acc := by
  intro k
  induction k with
  | zero => intro b acc _; rfl
  | succ k ih =>
    intro b acc h
    have h0 := h 0 (by omega)
    rw [Nat.add_zero] at h0
    rw [jn, jn, h0, nI_p1]
    refine ih (b + 1) _ (fun t ht => ?_)
    have := h (t + 1) (by omega)
    rw [show b + 1 + t = b + (t + 1) by omega]
    exact this
theorem lp_joined {M : JM} (hr : RF (gr M)) {q : Nat} (hq : q = 5 ∨ q = 10) {z b k : Nat} (hz : gi M q 3 = nI z) (h1 : b + k ≤ z) (h2 : z ≤ 300) : ∀ (n m : Nat) (acc : Int64), m ≤ k → k - m < n → f_X0_joined_L5 n q (nI b) (nI k) acc (nI (b + m)) M = some (jn (gi M (q + 1)) (k - m) (nI (b + m)) acc, M) := by
  intro n
  induction n with
  | zero => intro m acc _ h; omega
  | succ n ih =>
    intro m acc h3 h4
    rw [f_X0_joined_L5, nI_add]
    by_cases hm : m = k
    · subst hm
      rw [if_neg Int32.lt_irrefl, Nat.sub_self, jn]
    · rw [if_pos (nI_lt (by omega) (by omega)), hz, if_pos (nI_lt (by omega) (by omega)), (hr.rq hq).1, orf_e, (ln_q hq).1, if_pos ⟨nI_pos' (by omega), nI_lt (b := 300) (by omega) (by decide)⟩, svL_e, sv_e, nI_p1, show k - m = k - (m + 1) + 1 by omega, jn, nI_p1, show b + m + 1 = b + (m + 1) by omega]
      exact ih (m + 1) _ (by omega) (by omega)
theorem joined_eq {M : JM} (hr : RF (gr M)) {q : Nat} (hq : q = 5 ∨ q = 10) {z b k : Nat} (hz : gi M q 3 = nI z) (h1 : b + k ≤ z) (h2 : z ≤ 300) : f_X0_joined q (nI b) (nI k) M = some (jn (gi M (q + 1)) k (nI b) 0, M) := by
  unfold f_X0_joined
  rw [svL_e, sv_e]
  exact lp_joined hr hq hz h1 h2 FU 0 0 (by omega) (by show _ < 4096; omega)
theorem lp_together {M : JM} (hr : RF (gr M)) {b k : Nat} (h1 : b + k ≤ 300) : ∀ (n m : Nat) (acc : Int64), m ≤ k → k - m < n → f_X8_together_L5 n 32 (nI b) (nI k) acc (nI m) M = some (jn (gi M 40) (k - m) (nI (b + m)) acc, M) := by
  intro n
  induction n with
  | zero => intro m acc _ h; omega
  | succ n ih =>
    intro m acc h3 h4
    rw [f_X8_together_L5]
    by_cases hm : m = k
    · subst hm
      rw [if_neg Int32.lt_irrefl, Nat.sub_self, jn]
    · rw [if_pos (nI_lt (by omega) (by omega)), hr.r32_16, orf_e, ln_40, nI_add, if_pos ⟨nI_pos' (by omega), nI_lt (b := 300) (by omega) (by decide)⟩, svL_e, sv_e, nI_p1, show k - m = k - (m + 1) + 1 by omega, jn, nI_p1, show b + m + 1 = b + (m + 1) by omega]
      exact ih (m + 1) _ (by omega) (by omega)
theorem together_eq {M : JM} (hr : RF (gr M)) {b k : Nat} (h1 : b + k ≤ 300) : f_X8_together 32 (nI b) (nI k) M = some (jn (gi M 40) k (nI b) 0, M) := by
  unfold f_X8_together
  rw [svL_e, sv_e]
  exact lp_together hr h1 FU 0 0 (by omega) (by show _ < 4096; omega)
/-- an item that is there, in numbers -/
def ItR (M : JM) (q i : Nat) (r p : Int32) (b s z : Nat) : Prop := gi M 42 (22 * r + p) = nI b ∧ gi M (q + 3) (r * 21 + p - 1) = nI b ∧ gi M 43 (22 * r + p) = nI s ∧ gi M (q + 4) (r * 21 + p - 1) = nI s ∧ gi M q 3 = nI z ∧ z ≤ 300 ∧ 0 < s ∧ b + s ≤ z ∧ gi M (62 + 4 * i) p ≠ -9 ∧ cItem M i (gi M 40) (nI z) p (nI b) = .inl (nI (b + s))
theorem nI_ex {x : Int32} {h : Nat} (h0 : 0 ≤ x) (h1 : x ≤ nI h) (hh : h < 2 ^ 31) : ∃ n : Nat, x = nI n ∧ n ≤ h := by
  obtain ⟨j, hj, rfl⟩ := nI_of (Int32.not_lt.mpr h0)
  exact ⟨j, rfl, (nI_leI hj hh).mp h1⟩
theorem BStr.item {M : JM} {q i : Nat} (hS : BStr M q i) {r p : Int32} (h1 : 0 ≤ r ∧ r < gi M q 1) (h2 : 1 ≤ p ∧ p ≤ 21) (h3 : gi M 43 (22 * r + p) ≠ 0) : ∃ b s z, ItR M q i r p b s z := by
  obtain ⟨b1, b2⟩ := hS.2.2.2.2 r p h1.1 h1.2 h2.1 h2.2
  rcases b2 with b2 | ⟨c1, c2, c3, c4, c5, c6, c7, c8⟩
  · exact absurd b2 h3
  · obtain ⟨z, e1, z1⟩ := nI_ex (x := gi M q 3) (h := 300) (by have := hS.1.1; grind) hS.1.2 (by decide)
    obtain ⟨b, e2, _⟩ := nI_ex (x := gi M 42 (22 * r + p)) (h := 300) c3 (by have := hS.1.2; show _ ≤ (300 : Int32); grind) (by decide)
    obtain ⟨s, e3, s1⟩ := nI_ex (x := gi M 43 (22 * r + p)) (h := 300) (by grind) c6 (by decide)
    rw [e2, e3, nI_add, e1] at c8
    refine ⟨b, s, z, e2, by rw [c2, e2], e3, by rw [b1, e3], e1, z1, ?_, ?_, c7, c8⟩
    · have := c1
      rw [e3] at this
      exact (nI_ltI (a := 0) (by decide) (by omega)).mp this
    · rw [e2, e3, e1, nI_add] at c5
      exact (nI_leI (by omega) (by omega)).mp c5
theorem BStr.jn {M : JM} {q i : Nat} (hS : BStr M q i) {z b k : Nat} (hz : gi M q 3 = nI z) (h1 : b + k ≤ z) (h2 : z ≤ 300) : jn (gi M (q + 1)) k (nI b) 0 = jn (gi M 40) k (nI b) 0 :=
  jn_congr k b 0 (fun t ht => (hS.2.1 _ (nI_pos' (by omega)) (by rw [hz]; exact nI_lt (by omega) (by omega))).1)
