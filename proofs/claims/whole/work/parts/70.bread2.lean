/-! PURE PART: the class's reader: items made of others; any item; looking for places -/
theorem ICat_rd {M : JM} {i : Nat} (hc : ICat M i) (n f p : Int32) : ICat (rdM M n f p) i := hc.congr rfl (fun k j hd => rd_k (by unfold depCat at hd; omega))
theorem lp_cmiss {M : JM} {T : Int32 → Int32} {z : Nat} (h : RdC M T z) (p0 : Int32) {i : Nat} (hi : i < 3) (hc : ICat M i) (h41 : gr M 4 1 = some (61 + 4 * i)) {p : Int32} (hp : 0 ≤ p ∧ p ≤ 21) {x nb : Nat} (hnb : nb ≤ 2) (hx : x + nb ≤ z) (x1 : Int32) : ∀ (n m : Nat), m ≤ 14 → 14 - m < n →
    (∀ g u, g ≠ 0 → f_X3_passMade_L14 n 4 p (nI x) (nI (7 * nb)) (nI m) (rdM M x1 g u) = some ((), rdM M x1 g u)) ∧
    (sMiss (bs T (nI x) (nI nb)) (fun t => decide (gi M (64 + 4 * i) (p * 14 + t) = 0)) (nI x) (14 - m) (nI m) = none → f_X3_passMade_L14 n 4 p (nI x) (nI (7 * nb)) (nI m) (rdM M x1 0 p0) = f_X3_passMade_L71 4 p (nI x) (nI (7 * nb)) (rdM M x1 0 p0)) ∧
    (∀ u, sMiss (bs T (nI x) (nI nb)) (fun t => decide (gi M (64 + 4 * i) (p * 14 + t) = 0)) (nI x) (14 - m) (nI m) = some u → f_X3_passMade_L14 n 4 p (nI x) (nI (7 * nb)) (nI m) (rdM M x1 0 p0) = some ((), rdM M x1 5 u)) := by
  have h0 := h
  obtain ⟨h1, h2, h3, h4⟩ := h
  have hdead : ∀ g u, g ≠ 0 → f_X3_passMade_L71 4 p (nI x) (nI (7 * nb)) (rdM M x1 g u) = some ((), rdM M x1 g u) := by
    intro g u hg
    unfold f_X3_passMade_L71
    rw [sv_e, show FU = 4095 + 1 from rfl, f_X3_passMade_L74, rd4]
    by_cases c : (0 : Int32) < nI (7 * nb)
    · rw [if_pos c, if_neg hg]
    · rw [if_neg c]
  intro n
  induction n with
  | zero => intro m _ h; omega
  | succ n ih =>
    intro m hm hn
    refine ⟨fun g u hg => ?_, ?_⟩
    · rw [f_X3_passMade_L14, rd4]
      by_cases c : nI m < nI (7 * nb)
      · rw [if_pos c, if_neg hg]; exact hdead g u hg
      · rw [if_neg c]; exact hdead g u hg
    · by_cases hlt : m < 7 * nb
      · obtain ⟨ih0, ih1, ih2⟩ := ih (m + 1) (by omega) (by omega)
        rw [show 14 - m = 14 - (m + 1) + 1 by omega, sMiss, f_X3_passMade_L14, if_pos (nI_lt hlt (by omega)), rd4, if_pos rfl, Gr_rd, h1.r4_0, orf_e, one_eq h0 _ _ _ (by omega) (by omega), ob_e, bs_in hlt (by omega)]
        unfold f_X3_passMade_L65
        rw [nI_p1]
        by_cases hb : bit T (nI x) (nI m) = true
        · rw [if_pos hb, hb, Bool.true_and, Gr_rd, h41, orf_e, cpart_eq hi (ICat_rd hc _ _ _) hp.1 hp.2 (nI_pos' (by omega)) (show nI m < 14 from nI_lt (b := 14) (by omega) (by decide)), ob_e, rd_k (show 64 + 4 * i ≠ 4 by omega)]
          by_cases hw : gi M (64 + 4 * i) (p * 14 + nI m) = 0
          · rw [if_pos hw, if_pos (by rw [decide_eq_true hw])]
            refine ⟨fun e => (by cases e), fun u e => ?_⟩
            rw [fail_y, ob_e, sv_e, Option.some.inj e]
            exact ih0 5 u (by decide)
          · rw [if_neg hw, if_neg (by rw [decide_eq_false hw]; decide), sv_e]
            exact ⟨ih1, ih2⟩
        · rw [if_neg hb, if_neg (by simp [hb]), sv_e]
          exact ⟨ih1, ih2⟩
      · have hno : sMiss (bs T (nI x) (nI nb)) (fun t => decide (gi M (64 + 4 * i) (p * 14 + t) = 0)) (nI x) (14 - m) (nI m) = none := sMiss_no _ _ (fun t a b => bs_out (by omega) (by omega))
        rw [hno, f_X3_passMade_L14, if_neg (Int32.not_lt.mpr (nI_le (by omega) (by omega)))]
        exact ⟨fun _ => rfl, fun u e => by cases e⟩
theorem lp_cparts {M : JM} {T : Int32 → Int32} {z : Nat} (h : RdC M T z) (p0 : Int32) {i : Nat} (hi : i < 3) (hc : ICat M i) (h41 : gr M 4 1 = some (61 + 4 * i)) {p : Int32} (hp : 0 ≤ p ∧ p ≤ 21) {x nb : Nat} (hnb : nb ≤ 2) (hx : x + nb ≤ z) {w : Nat → Nat} (hw : ∀ t, t < 14 → gi M (64 + 4 * i) (p * 14 + nI t) = nI (w t) ∧ w t ≤ 4) : ∀ (n m y : Nat), m ≤ 14 → 14 - m < n → y ≤ z → cOut M p0 (sParts (bs T (nI x) (nI nb)) (fun t => gi M (64 + 4 * i) (p * 14 + t)) (nI z) (14 - m) (nI m) (nI y)) (f_X3_passMade_L74 n 4 p (nI x) (nI (7 * nb)) (nI m) (rdM M (nI y) 0 p0)) := by
  have h0 := h
  obtain ⟨h1, h2, h3, h4⟩ := h
  intro n
  induction n with
  | zero => intro m y _ h; omega
  | succ n ih =>
    intro m y hm hn hy
    by_cases hlt : m < 7 * nb
    · rw [show 14 - m = 14 - (m + 1) + 1 by omega, sParts, f_X3_passMade_L74, if_pos (nI_lt hlt (by omega)), rd4, if_pos rfl, Gr_rd, h1.r4_0, orf_e, one_eq h0 _ _ _ (by omega) (by omega), ob_e, bs_in hlt (by omega)]
      unfold f_X3_passMade_L114
      rw [nI_p1]
      by_cases hb : bit T (nI x) (nI m) = true
      · obtain ⟨w1, w2⟩ := hw m (by omega)
        have hps := pass_eq h0 p0 (x := y) (n := w m) hy (by omega)
        rw [if_pos hb, if_pos hb, Gr_rd, h41, orf_e, cpart_eq hi (ICat_rd hc _ _ _) hp.1 hp.2 (nI_pos' (by omega)) (show nI m < 14 from nI_lt (b := 14) (by omega) (by decide)), ob_e, rd_k (show 64 + 4 * i ≠ 4 by omega), w1]
        generalize hR : sNeed (nI z) (nI (w m)) (nI y) = R at hps
        rcases R with a | ⟨f, u⟩
        · obtain ⟨b1, rfl⟩ := sNeed_inl (by omega) (by omega) (by omega) hR
          have hps : f_X3_pass 4 (nI (w m)) (rdM M (nI y) 0 p0) = some ((), rdM M (nI (y + w m)) 0 p0) := hps
          rw [hps, ob_e, sv_e]
          exact ih (m + 1) (y + w m) (by omega) (by omega) b1
        · obtain ⟨g, n', e⟩ := hps
          rw [e, ob_e, sv_e]
          show cOut M p0 (Sum.inr (f, u)) _
          refine cOut_r g (n := n') ?_
          cases n with
          | zero => omega
          | succ n =>
            rw [f_X3_passMade_L74, rd4]
            by_cases c : nI (m + 1) < nI (7 * nb)
            · rw [if_pos c]; exact if_neg g
            · rw [if_neg c]
      · rw [if_neg hb, if_neg hb, sv_e]
        exact ih (m + 1) y (by omega) (by omega) hy
    · rw [sParts_no _ _ _ (fun t a b => bs_out (by omega) (by omega)), f_X3_passMade_L74, if_neg (Int32.not_lt.mpr (nI_le (by omega) (by omega)))]
      exact cOut_l rfl
theorem made_eq {M : JM} {T : Int32 → Int32} {z : Nat} (h : RdC M T z) (p0 : Int32) {i : Nat} (hi : i < 3) (hc : ICat M i) (h41 : gr M 4 1 = some (61 + 4 * i)) {p : Int32} (hp : 0 ≤ p ∧ p ≤ 21) {x : Nat} (hx : x ≤ z) : cOut M p0 (sMade T (nI z) (fun t => gi M (64 + 4 * i) (p * 14 + t)) (nI x)) (f_X3_passMade 4 p (rdM M (nI x) 0 p0)) := by
  obtain ⟨w, hw⟩ := hc.wx hp
  have hb := pbits_eq h p0 (most := 2) (by decide) (by decide) hx
  unfold f_X3_passMade sMade
  rw [rd2, sv_e]
  have hbi := sBits_in (T := T) (k := 2) (x := x) h.2.2.1 
  generalize hR : sBits T (nI z) 2 (nI x) = R at hb hbi
  rcases R with a | ⟨f, u⟩
  · obtain ⟨nb, b1, b2, b3, rfl⟩ := hbi a (by decide) hx rfl
    have hb : f_X3_passBits 4 2 (rdM M (nI x) 0 p0) = some ((nI (x + nb) - nI x) * 7, rdM M (nI (x + nb)) 0 p0) := hb
    have e : nI (x + nb) - nI x = nI nb := by rw [pk_sub (by omega), show x + nb - x = nb by omega]
    have e7 : nI nb * 7 = nI (7 * nb) := by rw [show (7 : Int32) = nI 7 from rfl, pk_mul, Nat.mul_comm]
    rw [hb, ob_e, e, e7, sv_e, sv_e]
    obtain ⟨-, m1, m2⟩ := lp_cmiss h p0 hi hc h41 hp b2 b3 (nI (x + nb)) FU 0 (by omega) (by show _ < 4096; omega)
    rw [Nat.sub_zero, show nI 0 = 0 from rfl] at m1 m2
    show cOut M p0 (match sMiss (bs T (nI x) (nI (x + nb) - nI x)) (fun i_1 => decide (gi M (64 + 4 * i) (p * 14 + i_1) = 0)) (nI x) 14 0 with
      | some p => Sum.inr (5, p)
      | none => sParts (bs T (nI x) (nI (x + nb) - nI x)) (fun t => gi M (64 + 4 * i) (p * 14 + t)) (nI z) 14 0 (nI (x + nb))) _
    rw [e]
    generalize hQ : sMiss (bs T (nI x) (nI nb)) (fun t => decide (gi M (64 + 4 * i) (p * 14 + t) = 0)) (nI x) 14 0 = Q at m1 m2
    rcases Q with _ | u
    · have hpp := lp_cparts h p0 hi hc h41 hp b2 b3 hw FU 0 (x + nb) (by omega) (by show _ < 4096; omega) b3
      rw [m1 rfl]
      unfold f_X3_passMade_L71
      rw [sv_e]
      exact hpp
    · rw [m2 u rfl]
      exact cOut_r (by decide) rfl
  · obtain ⟨g, n', hb⟩ := hb
    have hb : f_X3_passBits 4 2 (rdM M (nI x) 0 p0) = some (0, rdM M n' f u) := hb
    obtain ⟨m0, -, -⟩ := lp_cmiss h p0 hi hc h41 hp (x := 0) (nb := 0) (by omega) (by omega) n' FU 0 (by omega) (by show _ < 4096; omega)
    rw [hb, ob_e, sv_e, sv_e]
    refine cOut_r g (n := n') ?_
    rw [show FU = 4095 + 1 from rfl, f_X3_passMade_L14, if_neg (by decide)]
    unfold f_X3_passMade_L71
    rw [sv_e, show FU = 4095 + 1 from rfl, f_X3_passMade_L74, if_neg (by decide)]
theorem kOk.k1 {k n : Int32} (h : kOk k n) (h9 : k ≠ -9) : ∃ x : Nat, n = nI x ∧ x ≤ 8 := by
  rcases h with ⟨-, a, b⟩ | ⟨-, a⟩ | ⟨-, a, b⟩ | ⟨-, a⟩ | ⟨a, -⟩
  · exact nI_ex (h := 8) (by grind) b (by decide)
  · exact ⟨0, a, by omega⟩
  · obtain ⟨x, e, hx⟩ := nI_ex (h := 4) (x := n) (by grind) b (by decide)
    exact ⟨x, e, by omega⟩
  · exact ⟨0, a, by omega⟩
  · exact absurd a h9
theorem item_eq {M : JM} {T : Int32 → Int32} {z : Nat} (h : RdC M T z) (p0 : Int32) {i : Nat} (hi : i < 3) (hc : ICat M i) (h41 : gr M 4 1 = some (61 + 4 * i)) {p : Int32} (hp : 0 ≤ p ∧ p ≤ 21) (h9 : gi M (62 + 4 * i) p ≠ -9) {x : Nat} (hx : x ≤ z) : cOut M p0 (cItem M i T (nI z) p (nI x)) (f_X3_passItem 4 p (rdM M (nI x) 0 p0)) := by
  obtain ⟨k1, k2, k3⟩ := hc.2.2.1 p hp.1 hp.2
  obtain ⟨y, ey, hy⟩ := k3.k1 h9
  have hc1 := ICat_rd hc (nI x) 0 p0
  have l22 : 0 ≤ p ∧ p < 22 := ⟨hp.1, by grind⟩
  unfold f_X3_passItem cItem sItem
  rw [Gr_rd, h41, orf_e, hc.1.2.1, orf_e, ln_kinds hi, if_pos l22, rd_k (show 62 + 4 * i ≠ 4 by omega)]
  by_cases c0 : gi M (62 + 4 * i) p = 0
  · rw [if_pos c0, if_pos c0, orf_e, hc.1.2.2.1, orf_e, ln_sizes hi, if_pos l22, rd_k (show 63 + 4 * i ≠ 4 by omega), ob_u, ey]
    exact pass_eq h p0 hx (by omega)
  · rw [if_neg c0, if_neg c0]
    by_cases c1 : gi M (62 + 4 * i) p = 1
    · rw [if_pos c1, if_pos c1, ob_u]
      exact going_eq h p0 hx
    · rw [if_neg c1, if_neg c1]
      by_cases c2 : gi M (62 + 4 * i) p = 2
      · rw [if_pos c2, if_pos c2, orf_e, hc.1.2.2.1, orf_e, ln_sizes hi, if_pos l22, rd_k (show 63 + 4 * i ≠ 4 by omega), ob_u, ey]
        exact again_eq h p0 hx hy
      · have c3 : gi M (62 + 4 * i) p = 3 := by
          rcases k3 with ⟨a, -⟩ | ⟨a, -⟩ | ⟨a, -⟩ | ⟨a, -⟩ | ⟨a, -⟩
          · exact absurd a c0
          · exact absurd a c1
          · exact absurd a c2
          · exact a
          · exact absurd a h9
        rw [if_neg c2, if_neg c2, if_pos c3, ob_u]
        exact made_eq h p0 hi hc h41 hp hx
/-- the places that a record's bits name -/
theorem lp_look {M : JM} {T : Int32 → Int32} {z : Nat} (h : RdC M T z) (p0 : Int32) {i : Nat} (hi : i < 3) (hc : ICat M i) (h41 : gr M 4 1 = some (61 + 4 * i)) {x nb : Nat} (hnb : nb ≤ 3) (hx : x + nb ≤ z) (x1 : Int32) : ∀ (n m : Nat), m ≤ 21 → 21 - m < n →
    (∀ g u, g ≠ 0 → f_X3_lookForPlaces_L2 n 4 (nI x) (nI (7 * nb)) (nI m) (rdM M x1 g u) = some ((), rdM M x1 g u)) ∧
    (sMiss (bs T (nI x) (nI nb)) (fun t => decide (gi M (62 + 4 * i) (t + 1) = -9)) (nI x) (21 - m) (nI m) = none → f_X3_lookForPlaces_L2 n 4 (nI x) (nI (7 * nb)) (nI m) (rdM M x1 0 p0) = some ((), rdM M x1 0 p0)) ∧
    (∀ u, sMiss (bs T (nI x) (nI nb)) (fun t => decide (gi M (62 + 4 * i) (t + 1) = -9)) (nI x) (21 - m) (nI m) = some u → f_X3_lookForPlaces_L2 n 4 (nI x) (nI (7 * nb)) (nI m) (rdM M x1 0 p0) = some ((), rdM M x1 5 u)) := by
  have h0 := h
  obtain ⟨h1, h2, h3, h4⟩ := h
  intro n
  induction n with
  | zero => intro m _ h; omega
  | succ n ih =>
    intro m hm hn
    by_cases hlt : m < 7 * nb
    · obtain ⟨ih0, ih1, ih2⟩ := ih (m + 1) (by omega) (by omega)
      have l22 : 0 ≤ nI (m + 1) ∧ nI (m + 1) < 22 := ⟨nI_pos' (by omega), nI_lt (b := 22) (by omega) (by decide)⟩
      have hstep : ∀ g u, f_X3_lookForPlaces_L2 (n + 1) 4 (nI x) (nI (7 * nb)) (nI m) (rdM M x1 g u) = if bit T (nI x) (nI m) = true ∧ gi M (62 + 4 * i) (nI (m + 1)) = -9 then (ob (f_X3_fail 4 5 (nI x + nI m / 7) (rdM M x1 g u)) fun _ N => f_X3_lookForPlaces_L2 n 4 (nI x) (nI (7 * nb)) (nI (m + 1)) N) else f_X3_lookForPlaces_L2 n 4 (nI x) (nI (7 * nb)) (nI (m + 1)) (rdM M x1 g u) := by
        intro g u
        rw [f_X3_lookForPlaces_L2, if_pos (nI_lt hlt (by omega)), Gr_rd, h1.r4_0, orf_e, one_eq h0 _ _ _ (by omega) (by omega), ob_e]
        unfold f_X3_lookForPlaces_L46
        by_cases hb : bit T (nI x) (nI m) = true
        · rw [if_pos hb, Gr_rd, h41, orf_e, hc.1.2.1, orf_e, ln_kinds hi, nI_p1, if_pos l22, rd_k (show 62 + 4 * i ≠ 4 by omega)]
          by_cases hk : gi M (62 + 4 * i) (nI (m + 1)) = -9
          · rw [if_pos hk, if_pos ⟨hb, hk⟩]; rfl
          · rw [if_neg hk, if_neg (fun q => hk q.2)]; rfl
        · rw [if_neg hb, if_neg (fun q => hb q.1), sv_e, nI_p1]
      refine ⟨fun g u hg => ?_, ?_⟩
      · rw [hstep, fail_n hg, ob_e, ih0 g u hg]; split <;> rfl
      · rw [hstep, show 21 - m = 21 - (m + 1) + 1 by omega, sMiss, bs_in hlt (by omega), nI_p1]
        by_cases hb : bit T (nI x) (nI m) = true ∧ gi M (62 + 4 * i) (nI (m + 1)) = -9
        · rw [if_pos hb, if_pos (by rw [hb.1, decide_eq_true hb.2]; rfl)]
          refine ⟨fun e => (by cases e), fun u e => ?_⟩
          rw [fail_y, ob_e, Option.some.inj e]
          exact ih0 5 u (by decide)
        · rw [if_neg hb, if_neg (by simpa using hb)]
          exact ⟨ih1, ih2⟩
    · have hno : sMiss (bs T (nI x) (nI nb)) (fun t => decide (gi M (62 + 4 * i) (t + 1) = -9)) (nI x) (21 - m) (nI m) = none := sMiss_no _ _ (fun t a b => bs_out (by omega) (by omega))
      refine ⟨fun g u hg => ?_, fun _ => ?_, fun u e => by rw [hno] at e; cases e⟩
      · rw [f_X3_lookForPlaces_L2, if_neg (Int32.not_lt.mpr (nI_le (by omega) (by omega)))]
      · rw [f_X3_lookForPlaces_L2, if_neg (Int32.not_lt.mpr (nI_le (by omega) (by omega)))]
