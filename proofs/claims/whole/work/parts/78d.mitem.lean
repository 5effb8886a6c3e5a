/-! PURE PART: the reference's items -/
def mY (M : JM) (p0 : Int32) (R : Rs) (X : Option (Unit × JM)) : Prop := match R with
  | .inl a => ∃ D, X = some ((), mdM D a 0 p0) ∧ MB M D
  | .inr q => q.1 ≠ 0 ∧ ∃ D n, X = some ((), mdM D n q.1 q.2) ∧ MB M D
theorem mY_l {M D : JM} {p0 a : Int32} {X : Option (Unit × JM)} (h : X = some ((), mdM D a 0 p0)) (hD : MB M D) : mY M p0 (.inl a) X := ⟨D, h, hD⟩
theorem mY_r {M D : JM} {p0 f p n : Int32} {X : Option (Unit × JM)} (h0 : f ≠ 0) (h : X = some ((), mdM D n f p)) (hD : MB M D) : mY M p0 (.inr (f, p)) X := ⟨h0, D, n, h, hD⟩
theorem mX.y {M D : JM} {p0 : Int32} {R : Rs} {X : Option (Unit × JM)} (h : mX D p0 R X) (hD : MB M D) : mY M p0 R X := by
  rcases R with a | ⟨f, p⟩
  · exact ⟨D, h, hD⟩
  · obtain ⟨a, n, e⟩ := h
    exact ⟨a, D, n, e, hD⟩
theorem lp_mparts_d {D : JM} (hr : RF (gr D)) {v1 v2 y g u : Int32} (hg : g ≠ 0) (hix : ∀ t : Nat, t < 14 → 0 ≤ 14 * (22 * v1 + v2) + nI t ∧ 14 * (22 * v1 + v2) + nI t < 924) : ∀ (n m : Nat), m ≤ 14 → 14 - m < n → f_X8_readMade_L65 n 32 v1 v2 (nI m) (mdM D y g u) = some ((), mdM D y g u) := by
  intro n
  induction n with
  | zero => intro m _ h; omega
  | succ n ih =>
    intro m hm hn
    rw [f_X8_readMade_L65]
    unfold f_X8_readMade_L102
    by_cases e : m = 14
    · subst e
      rw [if_neg (by decide)]
    · rw [if_pos (show nI m < 14 from nI_lt (b := 14) (by omega) (by decide)), Gr_md, hr.r32_24, orf_e, nI_p1, ln_47, if_pos (show 0 ≤ nI (m + 1) ∧ nI (m + 1) < 22 from ⟨nI_pos' (by omega), nI_lt (b := 22) (by omega) (by decide)⟩)]
      by_cases c : gi (mdM D y g u) 47 (nI (m + 1)) = 0
      · rw [if_pos c, sv_e, ih (m + 1) (by omega) (by omega)]
      · rw [if_neg c, hr.r32_4, orf_e, ln_36, if_pos (hix m (by omega)), needs_d hg, ob_e, sv_e, ih (m + 1) (by omega) (by omega)]
theorem lp_mparts {M : JM} {T : Int32 → Int32} {z : Nat} (h : RdD M T z) (p0 : Int32) {v1 v2 : Int32} {w : Int32 → Int32} (hix : ∀ t : Nat, t < 14 → (0 ≤ 14 * (22 * v1 + v2) + nI t ∧ 14 * (22 * v1 + v2) + nI t < 924) ∧ gi M 36 (14 * (22 * v1 + v2) + nI t) = w (nI t)) {wn : Nat → Nat} (hw : ∀ t, t < 14 → w (nI t) = nI (wn t) ∧ wn t ≤ 4) {B : Int32 → Bool} (hB : ∀ t, t < 14 → gi M 47 (nI (t + 1)) = bI (B (nI t))) : ∀ (n m y : Nat), m ≤ 14 → 14 - m < n → y ≤ z → mX M p0 (sParts B w (nI z) (14 - m) (nI m) (nI y)) (f_X8_readMade_L65 n 32 v1 v2 (nI m) (mdM M (nI y) 0 p0)) := by
  have hz := h.2.2.1
  intro n
  induction n with
  | zero => intro m y _ h; omega
  | succ n ih =>
    intro m y hm hn hy
    rw [f_X8_readMade_L65]
    unfold f_X8_readMade_L102
    by_cases e : m = 14
    · subst e
      rw [if_neg (by decide), Nat.sub_self, sParts]
      exact mX_l rfl
    · obtain ⟨i1, i2⟩ := hix m (by omega)
      obtain ⟨w1, w2⟩ := hw m (by omega)
      rw [if_pos (show nI m < 14 from nI_lt (b := 14) (by omega) (by decide)), Gr_md, h.1.r32_24, orf_e, nI_p1, ln_47, if_pos (show 0 ≤ nI (m + 1) ∧ nI (m + 1) < 22 from ⟨nI_pos' (by omega), nI_lt (b := 22) (by omega) (by decide)⟩), md_k (by omega), hB m (by omega), show 14 - m = 14 - (m + 1) + 1 by omega, sParts]
      cases hb : B (nI m) with
      | false =>
        rw [if_pos (show bI false = 0 from rfl), if_neg (by decide), sv_e, nI_p1]
        exact ih (m + 1) y (by omega) (by omega) hy
      | true =>
        have hn := needs_eq h p0 (x := y) (n := wn m) hy (by omega)
        rw [if_neg (show ¬ bI true = 0 by decide), if_pos (show (true : Bool) = true from rfl), h.1.r32_4, orf_e, ln_36, if_pos i1, md_k (by omega), i2, w1, nI_p1]
        generalize hR : sNeed (nI z) (nI (wn m)) (nI y) = R at hn
        rcases R with a | ⟨f, u⟩
        · obtain ⟨b1, rfl⟩ := sNeed_inl (by omega) (by omega) (by omega) hR
          have hn : f_X8_needs 32 (nI (wn m)) (mdM M (nI y) 0 p0) = some ((), mdM M (nI (y + wn m)) 0 p0) := hn
          rw [hn, ob_e, sv_e]
          exact ih (m + 1) (y + wn m) (by omega) (by omega) b1
        · obtain ⟨g, n', e⟩ := hn
          rw [e, ob_e, sv_e]
          refine mX_r g (n := n') ?_
          exact lp_mparts_d h.1 g (fun t ht => (hix t ht).1) n (m + 1) (by omega) (by omega)
