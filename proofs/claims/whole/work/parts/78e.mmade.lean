/-! PURE PART: the reference's items made of others -/
theorem lp_mmiss {D : JM} (hr : RF (gr D)) {p0 v1 v2 : Int32} {w : Int32 → Int32} (hix : ∀ t : Nat, t < 14 → (0 ≤ 14 * (22 * v1 + v2) + nI t ∧ 14 * (22 * v1 + v2) + nI t < 924) ∧ gi D 36 (14 * (22 * v1 + v2) + nI t) = w (nI t)) {B : Int32 → Bool} (hB : ∀ t, t < 14 → gi D 47 (nI (t + 1)) = bI (B (nI t))) {x : Nat} (h43 : gi D 32 43 = nI x) (y : Int32) : ∀ (n m : Nat), m ≤ 14 → 14 - m < n →
    (∀ g u, g ≠ 0 → f_X8_readMade_L7 n 32 v1 v2 (nI m) (mdM D y g u) = some ((), mdM D y g u)) ∧
    (sMiss B (fun t => decide (w t = 0)) (nI x) (14 - m) (nI m) = none → f_X8_readMade_L7 n 32 v1 v2 (nI m) (mdM D y 0 p0) = f_X8_readMade_L63 32 v1 v2 (mdM D y 0 p0)) ∧
    (∀ u, sMiss B (fun t => decide (w t = 0)) (nI x) (14 - m) (nI m) = some u → f_X8_readMade_L7 n 32 v1 v2 (nI m) (mdM D y 0 p0) = some ((), mdM D y 5 u)) := by
  intro n
  induction n with
  | zero => intro m _ h; omega
  | succ n ih =>
    intro m hm hn
    by_cases e : m = 14
    · subst e
      refine ⟨fun g u hg => ?_, fun _ => ?_, fun u q => by cases q⟩
      · rw [f_X8_readMade_L7, if_neg (by decide)]
        unfold f_X8_readMade_L63
        rw [sv_e]
        exact lp_mparts_d hr hg (fun t ht => (hix t ht).1) FU 0 (by omega) (by show _ < 4096; omega)
      · rw [f_X8_readMade_L7, if_neg (by decide)]
    · obtain ⟨ih0, ih1, ih2⟩ := ih (m + 1) (by omega) (by omega)
      obtain ⟨i1, i2⟩ := hix m (by omega)
      have hstep : ∀ g u, f_X8_readMade_L7 (n + 1) 32 v1 v2 (nI m) (mdM D y g u) = if B (nI m) = true ∧ w (nI m) = 0 then (ob (f_X8_fails 32 5 (nI x + nI m / 7) (mdM D y g u)) fun _ N => f_X8_readMade_L7 n 32 v1 v2 (nI (m + 1)) N) else f_X8_readMade_L7 n 32 v1 v2 (nI (m + 1)) (mdM D y g u) := by
        intro g u
        rw [f_X8_readMade_L7, if_pos (show nI m < 14 from nI_lt (b := 14) (by omega) (by decide)), Gr_md, hr.r32_24, orf_e, nI_p1, ln_47, if_pos (show 0 ≤ nI (m + 1) ∧ nI (m + 1) < 22 from ⟨nI_pos' (by omega), nI_lt (b := 22) (by omega) (by decide)⟩), md_k (by omega), hB m (by omega)]
        unfold f_X8_readMade_L57
        cases hb : B (nI m) with
        | false => rw [if_pos (show bI false = 0 from rfl), if_neg (fun q => absurd q.1 (by decide)), sv_e, nI_p1]
        | true =>
          rw [if_neg (show ¬ bI true = 0 by decide), hr.r32_4, orf_e, ln_36, if_pos i1, md_k (by omega), i2, sv_e, nI_p1]
          by_cases hw0 : w (nI m) = 0
          · rw [if_pos hw0, if_pos ⟨rfl, hw0⟩, md_k (by decide), h43]; rfl
          · rw [if_neg hw0, if_neg (fun q => hw0 q.2)]
      refine ⟨fun g u hg => ?_, ?_⟩
      · rw [hstep, fails_n hg, ob_e, ih0 g u hg]; split <;> rfl
      · rw [hstep, show 14 - m = 14 - (m + 1) + 1 by omega, sMiss, nI_p1]
        by_cases hb : B (nI m) = true ∧ w (nI m) = 0
        · rw [if_pos hb, if_pos (by rw [hb.1, decide_eq_true hb.2]; rfl)]
          refine ⟨fun e => (by cases e), fun u e => ?_⟩
          rw [fails_y, ob_e, Option.some.inj e]
          exact ih0 5 u (by decide)
        · rw [if_neg hb, if_neg (by simpa using hb)]
          exact ⟨ih1, ih2⟩
