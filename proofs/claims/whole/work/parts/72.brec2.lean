/-! PURE PART: a whole record, the class -/
theorem sMiss_hit {B zz : Int32 → Bool} {fr : Int32} : ∀ (k m : Nat), sMiss B zz fr k (nI m) = none → ∀ t, m ≤ t → t < m + k → B (nI t) = true → zz (nI t) = false := by
  intro k
  induction k with
  | zero => intro m _ t a b; omega
  | succ k ih =>
    intro m h t a b hb
    rw [sMiss] at h
    split at h
    · cases h
    · rename_i g
      by_cases e : t = m
      · subst e
        rw [hb, Bool.true_and] at g
        simpa using g
      · rw [nI_p1] at h
        exact ih (m + 1) h t (by omega) (by omega) hb
theorem RcHd.kind {M : JM} {i : Nat} {T : Int32 → Int32} {z x nb : Nat} (h : RcHd M i T z x nb) : ∀ t, t < 21 → bs T (nI x) (nI nb) (nI t) = true → gi M (62 + 4 * i) (nI (t + 1)) ≠ -9 := by
  intro t ht hb
  have := sMiss_hit 21 0 h.2.2.2.2 t (by omega) (by omega) hb
  rw [← nI_p1]
  exact of_decide_eq_false this
/-- what stands before and behind the looking: the bytes of bits, then the record's start -/
theorem start_eq {C : JM} (hr : RF (gr C)) {q : Nat} (hq : q = 5 ∨ q = 10) {r : Nat} (h8 : r < 8) (hcnt : gi C q 1 = nI r) (v n f p : Int32) : f_X0_startRecord q v (rdM C n f p) = some (nI r, rdM (si (si C (q + 2) (nI r) v) q 1 (nI (r + 1))) n f p) := by
  unfold f_X0_startRecord
  rw [Gr_rd, (hr.rq hq).2.1, orf_e, rd_k (by omega), hcnt, (ln_q hq).2.1, if_pos (show 0 ≤ nI r ∧ nI r < 8 from ⟨nI_pos' (by omega), nI_lt (b := 8) h8 (by decide)⟩), sq_e, rd_si (by omega), rd_k (by omega), gi_si, if_neg (by omega), hcnt, nI_p1, sq_e, rd_si (by omega), rd_k (by omega), gi_si, if_pos ⟨rfl, rfl⟩, nI_pred]
theorem crec_ok {M : JM} {T : Int32 → Int32} {z : Nat} (h : RdC M T z) (p0 : Int32) {i : Nat} (hi : i < 3) (hc : ICat M i) (h41 : gr M 4 1 = some (61 + 4 * i)) {q : Nat} (hq : q = 5 ∨ q = 10) {x nb : Nat} {P : Nat → Nat} (hO : RcOk M i T z x nb P) {r : Nat} (h8 : r < 8) {C : JM} (hC : CFq q M C) (hcnt : gi C q 1 = nI r) (h0 : ∀ t, t < 21 → gi C (q + 4) (nI (21 * r + t)) = 0) :
    ∃ C', f_X3_passRecord 4 q (rdM C (nI x) 0 p0) = some ((), rdM C' (nI (P 21)) 0 p0) ∧ CFq q M C' ∧ gi C' q 1 = nI (r + 1) ∧ gi C' q 0 = gi C q 0 ∧ gi C' (q + 2) (nI r) = nI x ∧ (∀ r', r' < 8 → r' ≠ r → gi C' (q + 2) (nI r') = gi C (q + 2) (nI r') ∧ ∀ t, t < 21 → gi C' (q + 3) (nI (21 * r' + t)) = gi C (q + 3) (nI (21 * r' + t)) ∧ gi C' (q + 4) (nI (21 * r' + t)) = gi C (q + 4) (nI (21 * r' + t))) ∧
    ∀ t, t < 21 → gi C' (q + 4) (nI (21 * r + t)) = nI (P (t + 1) - P t) ∧ (bs T (nI x) (nI nb) (nI t) = true → gi C' (q + 3) (nI (21 * r + t)) = nI (P t)) := by
  obtain ⟨hH, hP0, hT⟩ := hO
  have hH0 := hH
  obtain ⟨n1, n3, nz, hs, hm⟩ := hH
  have hC' := hC.rdc hq h
  have z300 := h.2.2.1
  have hb := pbits_eq hC' p0 (most := 3) (by decide) (by decide) (x := x) (by omega)
  rw [hs] at hb
  have hb : f_X3_passBits 4 3 (rdM C (nI x) 0 p0) = some ((nI (x + nb) - nI x) * 7, rdM C (nI (x + nb)) 0 p0) := hb
  have e7 : (nI (x + nb) - nI x) * 7 = nI (7 * nb) := by rw [pk_sub (by omega), show x + nb - x = nb by omega, show (7 : Int32) = nI 7 from rfl, pk_mul, Nat.mul_comm]
  rw [e7] at hb
  have hk62 : ∀ t, gi C (62 + 4 * i) t = gi M (62 + 4 * i) t := fun t => hC.2.2 _ _ (by omega)
  obtain ⟨-, hl, -⟩ := lp_look hC' p0 hi (hC.cat hq hc) (by rw [hC.1]; exact h41) n3 nz (nI (x + nb)) FU 0 (by omega) (by show _ < 4096; omega)
  have hl : f_X3_lookForPlaces 4 (nI x) (nI (7 * nb)) (rdM C (nI (x + nb)) 0 p0) = some ((), rdM C (nI (x + nb)) 0 p0) := by
    unfold f_X3_lookForPlaces
    rw [sv_e]
    refine hl ?_
    simp only [hk62]
    exact hm
  have hC1 : CFq q M (si (si C (q + 2) (nI r) (nI x)) q 1 (nI (r + 1))) := (hC.si (by omega)).si (by omega)
  have g1 : ∀ k j, k ≠ q → k ≠ q + 2 → gi (si (si C (q + 2) (nI r) (nI x)) q 1 (nI (r + 1))) k j = gi C k j := fun k j a b => by rw [gi_si, if_neg (fun y => a y.1), gi_si, if_neg (fun y => b y.1)]
  obtain ⟨C', e, f1, f2, f3, f4⟩ := lp_crec h p0 hi hc h41 hq n3 nz h8 (P := P) (by omega) hT hH0.kind FU 0 _ (by omega) (by show _ < 4096; omega) hC1 (fun t a b => by rw [g1 _ _ (by omega) (by omega)]; exact h0 t b)
  have f3' : ∀ k j, k ≠ q + 3 → k ≠ q + 4 → gi C' k j = gi (si (si C (q + 2) (nI r) (nI x)) q 1 (nI (r + 1))) k j := fun k j a b => f3 k j (fun y => y.1.elim a b)
  refine ⟨C', ?_, ⟨by rw [f1]; exact hC1.1, by rw [f2]; exact hC1.2.1, fun k j hk => by rw [f3' _ _ (by omega) (by omega)]; exact hC1.2.2 k j hk⟩, ?_, ?_, ?_, fun r' h8' hr' => ⟨?_, fun t ht => ?_⟩, fun t ht => f4 t (by omega) ht⟩
  · unfold f_X3_passRecord
    rw [rd2, sv_e]
    show ob (f_X3_passBits 4 3 (rdM C (nI x) 0 p0)) _ = _
    rw [hb, ob_e, sv_e, hl, ob_e, start_eq hC'.1 hq h8 hcnt, ob_e, sv_e, sv_e, ← hP0]
    exact e
  · rw [f3' _ _ (by omega) (by omega), gi_si, if_pos ⟨rfl, rfl⟩]
  · rw [f3' _ _ (by omega) (by omega), gi_si, if_neg (fun y => absurd y.2 (by decide)), gi_si, if_neg (by omega)]
  · rw [f3' _ _ (by omega) (by omega), gi_si, if_neg (by omega), gi_si, if_pos ⟨rfl, rfl⟩]
  · rw [f3' _ _ (by omega) (by omega), gi_si, if_neg (by omega), gi_si, if_neg (fun y => hr' (nI_inj (by omega) (by omega) y.2))]
  · have hout : ∀ k, ¬ ((k = q + 3 ∨ k = q + 4) ∧ nI (21 * r + 0) ≤ nI (21 * r' + t) ∧ nI (21 * r' + t) < nI (21 * r + 21)) := fun k y => by
      have y1 := (nI_leI (by omega) (by omega)).mp y.2.1
      have y2 := (nI_ltI (by omega) (by omega)).mp y.2.2
      omega
    rw [f3 _ _ (hout _), f3 _ _ (hout _), g1 _ _ (by omega) (by omega), g1 _ _ (by omega) (by omega)]
    exact ⟨rfl, rfl⟩
theorem crec_bad {M : JM} {T : Int32 → Int32} {z : Nat} (h : RdC M T z) (p0 : Int32) {i : Nat} (hi : i < 3) (hc : ICat M i) (h41 : gr M 4 1 = some (61 + 4 * i)) {q : Nat} (hq : q = 5 ∨ q = 10) {x : Nat} (hx : x ≤ z) {f u : Int32} (hO : RcBad M i T z x f u) {r : Nat} (h8 : r < 8) {C : JM} (hC : CFq q M C) (hcnt : gi C q 1 = nI r) :
    ∃ C' n', f_X3_passRecord 4 q (rdM C (nI x) 0 p0) = some ((), rdM C' n' f u) ∧ CFq q M C' := by
  obtain ⟨hF, hO⟩ := hO
  have hC' := hC.rdc hq h
  have z300 := h.2.2.1
  have hb := pbits_eq hC' p0 (most := 3) (by decide) (by decide) hx
  have hC1 : CFq q M (si (si C (q + 2) (nI r) (nI x)) q 1 (nI (r + 1))) := (hC.si (by omega)).si (by omega)
  have hk62 : ∀ t, gi C (62 + 4 * i) t = gi M (62 + 4 * i) t := fun t => hC.2.2 _ _ (by omega)
  have hbits : ∀ nb : Nat, x + nb ≤ z → sBits T (nI z) 3 (nI x) = .inl (nI (x + nb)) → f_X3_passBits 4 3 (rdM C (nI x) 0 p0) = some (nI (7 * nb), rdM C (nI (x + nb)) 0 p0) := by
    intro nb nz hs
    rw [hs] at hb
    have hb : f_X3_passBits 4 3 (rdM C (nI x) 0 p0) = some ((nI (x + nb) - nI x) * 7, rdM C (nI (x + nb)) 0 p0) := hb
    rw [hb, pk_sub (by omega), show x + nb - x = nb by omega, show (7 : Int32) = nI 7 from rfl, pk_mul, Nat.mul_comm]
  have hdead : ∀ (N : JM) (v b n : Int32), f_X3_passRecord_L27 FU 4 q v b (nI r) 0 (rdM N n f u) = some ((), rdM N n f u) := by
    intro N v b n
    rw [show FU = 4095 + 1 from rfl, f_X3_passRecord_L27, rd4]
    by_cases c : 0 < b
    · rw [if_pos c, if_neg hF]
    · rw [if_neg c]
  unfold f_X3_passRecord
  rw [rd2, sv_e]
  rcases hO with hs | ⟨nb, n1, n3, nz, hs, hm, hf5⟩ | ⟨nb, P, m, hH, hP0, hm21, hT, hB, hbad⟩
  · rw [hs] at hb
    obtain ⟨-, n', hb⟩ := hb
    have hb : f_X3_passBits 4 3 (rdM C (nI x) 0 p0) = some (0, rdM C n' f u) := hb
    refine ⟨_, n', ?_, hC1⟩
    show ob (f_X3_passBits 4 3 (rdM C (nI x) 0 p0)) _ = _
    rw [hb, ob_e, sv_e]
    unfold f_X3_lookForPlaces
    rw [sv_e, show FU = 4095 + 1 from rfl, f_X3_lookForPlaces_L2, if_neg (by decide), ob_e, start_eq hC'.1 hq h8 hcnt, ob_e, sv_e, sv_e]
    exact hdead _ _ _ _
  · refine ⟨_, nI (x + nb), ?_, hC1⟩
    show ob (f_X3_passBits 4 3 (rdM C (nI x) 0 p0)) _ = _
    obtain ⟨-, -, hl⟩ := lp_look hC' p0 hi (hC.cat hq hc) (by rw [hC.1]; exact h41) n3 nz (nI (x + nb)) FU 0 (by omega) (by show _ < 4096; omega)
    have hl : f_X3_lookForPlaces 4 (nI x) (nI (7 * nb)) (rdM C (nI (x + nb)) 0 p0) = some ((), rdM C (nI (x + nb)) f u) := by
      unfold f_X3_lookForPlaces
      rw [sv_e, hf5]
      refine hl u ?_
      simp only [hk62]
      exact hm
    rw [hbits nb nz hs, ob_e, sv_e, hl, ob_e, start_eq hC'.1 hq h8 hcnt, ob_e, sv_e, sv_e]
    exact hdead _ _ _ _
  · obtain ⟨n1, n3, nz, hs, hm⟩ := id hH
    obtain ⟨-, hl, -⟩ := lp_look hC' p0 hi (hC.cat hq hc) (by rw [hC.1]; exact h41) n3 nz (nI (x + nb)) FU 0 (by omega) (by show _ < 4096; omega)
    have hl : f_X3_lookForPlaces 4 (nI x) (nI (7 * nb)) (rdM C (nI (x + nb)) 0 p0) = some ((), rdM C (nI (x + nb)) 0 p0) := by
      unfold f_X3_lookForPlaces
      rw [sv_e]
      refine hl ?_
      simp only [hk62]
      exact hm
    obtain ⟨C', n', e, hC2⟩ := lp_crecb h p0 hi hc h41 hq n3 nz h8 (P := P) (by omega) hm21 hT hB hF hbad hH.kind FU 0 _ (by omega) (by show _ < 4096; omega) hC1
    refine ⟨C', n', ?_, hC2⟩
    show ob (f_X3_passBits 4 3 (rdM C (nI x) 0 p0)) _ = _
    rw [hbits nb nz hs, ob_e, sv_e, hl, ob_e, start_eq hC'.1 hq h8 hcnt, ob_e, sv_e, sv_e, ← hP0]
    exact e
