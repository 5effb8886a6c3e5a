/-! PURE PART: the reference's items made of others, 2 -/
theorem mmade_eq {M : JM} {T : Int32 → Int32} {z : Nat} (h : RdD M T z) (p0 : Int32) {v1 v2 : Int32} {w : Int32 → Int32} (hix : ∀ t : Nat, t < 14 → (0 ≤ 14 * (22 * v1 + v2) + nI t ∧ 14 * (22 * v1 + v2) + nI t < 924) ∧ gi M 36 (14 * (22 * v1 + v2) + nI t) = w (nI t)) {wn : Nat → Nat} (hw : ∀ t, t < 14 → w (nI t) = nI (wn t) ∧ wn t ≤ 4) {x : Nat} (hx : x ≤ z) : mY M p0 (sMade T (nI z) w (nI x)) (f_X8_readMade 32 v1 v2 (mdM M (nI x) 0 p0)) := by
  have hz := h.2.2.1
  obtain ⟨D, n', f, p, b, a1, a2, ⟨a3, a4, a5⟩, a6, -, a8⟩ := mbits_eq h p0 (most := 2) (x := x) (by decide) (by decide) hx
  have a1 : f_X8_readBits 32 2 (mdM M (nI x) 0 p0) = some ((), mdM D n' f p) := a1
  have hD := a2.rdd h
  have hixD : ∀ t : Nat, t < 14 → (0 ≤ 14 * (22 * v1 + v2) + nI t ∧ 14 * (22 * v1 + v2) + nI t < 924) ∧ gi D 36 (14 * (22 * v1 + v2) + nI t) = w (nI t) := fun t ht => ⟨(hix t ht).1, by rw [a2.2.2 36 _ (by decide) (by omega)]; exact (hix t ht).2⟩
  have hms := lp_mmiss hD.1 (p0 := p0) hixD (B := bs T (nI x) (nI b)) (fun t ht => a5 t (by omega)) a3 n' FU 0 (by omega) (by show _ < 4096; omega)
  unfold f_X8_readMade sMade
  rw [a1, ob_e, sv_e]
  generalize hR : sBits T (nI z) 2 (nI x) = R at a8
  rcases R with a | ⟨f', u'⟩
  · obtain ⟨rfl, rfl, rfl, rfl⟩ := a8
    obtain ⟨nb, b1, b2, b3, b4⟩ := sBits_in hz 2 x _ (by decide) hx hR
    have hbb : b = nb := by have := nI_inj (by omega) (by omega) b4; omega
    subst hbb
    have e : nI (x + b) - nI x = nI b := by rw [pk_sub (by omega), show x + b - x = b by omega]
    show mY M p (match sMiss (bs T (nI x) (nI (x + b) - nI x)) (fun i_1 => decide (w i_1 = 0)) (nI x) 14 0 with
      | some p => Sum.inr (5, p)
      | none => sParts (bs T (nI x) (nI (x + b) - nI x)) w (nI z) 14 0 (nI (x + b))) _
    rw [e]
    obtain ⟨-, m1, m2⟩ := hms
    rw [Nat.sub_zero, show nI 0 = 0 from rfl] at m1 m2
    generalize hQ : sMiss (bs T (nI x) (nI b)) (fun t => decide (w t = 0)) (nI x) 14 0 = Q at m1 m2
    rcases Q with _ | u
    · rw [m1 rfl]
      unfold f_X8_readMade_L63
      rw [sv_e]
      have hpp := lp_mparts hD p hixD hw (B := bs T (nI x) (nI b)) (fun t ht => a5 t (by omega)) FU 0 (x + b) (by omega) (by show _ < 4096; omega) b3
      exact mX.y hpp a2
    · rw [m2 u rfl]
      exact mY_r (by decide) rfl a2
  · obtain ⟨rfl, rfl, hf⟩ := a8
    exact mY_r hf (hms.1 _ _ hf) a2
theorem lp_mmiss_d {D : JM} (hr : RF (gr D)) {v1 v2 y g u : Int32} (hg : g ≠ 0) (hix : ∀ t : Nat, t < 14 → 0 ≤ 14 * (22 * v1 + v2) + nI t ∧ 14 * (22 * v1 + v2) + nI t < 924) : ∀ (n m : Nat), m ≤ 14 → 14 - m < n → f_X8_readMade_L7 n 32 v1 v2 (nI m) (mdM D y g u) = some ((), mdM D y g u) := by
  intro n
  induction n with
  | zero => intro m _ h; omega
  | succ n ih =>
    intro m hm hn
    rw [f_X8_readMade_L7]
    unfold f_X8_readMade_L57
    by_cases e : m = 14
    · subst e
      rw [if_neg (by decide)]
      unfold f_X8_readMade_L63
      rw [sv_e]
      exact lp_mparts_d hr hg hix FU 0 (by omega) (by show _ < 4096; omega)
    · have hi := ih (m + 1) (by omega) (by omega)
      rw [if_pos (show nI m < 14 from nI_lt (b := 14) (by omega) (by decide)), Gr_md, hr.r32_24, orf_e, nI_p1, ln_47, if_pos (show 0 ≤ nI (m + 1) ∧ nI (m + 1) < 22 from ⟨nI_pos' (by omega), nI_lt (b := 22) (by omega) (by decide)⟩), sv_e, hi]
      by_cases c : gi (mdM D y g u) 47 (nI (m + 1)) = 0
      · rw [if_pos c]
      · rw [if_neg c, hr.r32_4, orf_e, ln_36, if_pos (hix m (by omega)), fails_n hg, ob_e, sv_e, hi]
        split <;> rfl
theorem mmade_d {M : JM} (hr : RF (gr M)) {v1 v2 n9 g p : Int32} (hg : g ≠ 0) (hix : ∀ t : Nat, t < 14 → 0 ≤ 14 * (22 * v1 + v2) + nI t ∧ 14 * (22 * v1 + v2) + nI t < 924) : ∃ D, f_X8_readMade 32 v1 v2 (mdM M n9 g p) = some ((), mdM D n9 g p) ∧ MB M D := by
  obtain ⟨D, e, hD, h0⟩ := mbits_d hr hg (n9 := n9) (p := p) 2
  have hrD : RF (gr D) := by rw [hD.1]; exact hr
  refine ⟨D, ?_, hD⟩
  unfold f_X8_readMade
  rw [e, ob_e, sv_e]
  exact lp_mmiss_d hrD hg hix FU 0 (by omega) (by show _ < 4096; omega)
