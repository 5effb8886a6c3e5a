/-! PURE PART: number: class and reference answer alike -/
def EqL (M : JM) (F G : JM → Option (Int64 × JM)) : Prop := ∃ r M1 M2, F M = some (r, M1) ∧ G M1 = some (r, M2) ∧ Inv M2
theorem and1 (x : Int32) : x &&& 1 = 0 ∨ x &&& 1 = 1 := by
  obtain ⟨j, hj, e⟩ := pk_andE x (m := 1) 1 (by decide)
  have hj : j < 2 := hj
  rw [e]
  rcases (show j = 0 ∨ j = 1 by omega) with rfl | rfl
  · exact Or.inl rfl
  · exact Or.inr rfl
theorem sh7 : ∀ m : Nat, m < 7 → (7 - (nI m - nI (m / 7) * 7) : Int32) = 7 - nI m := by decide
theorem sh14 : ∀ m : Nat, m < 14 → 7 ≤ m → (7 - (nI m - nI (m / 7) * 7) : Int32) = 14 - nI m := by decide
theorem zsh : ∀ m : Nat, m < 14 → ¬ ((0 : Int32) >>> ((14 - nI m) &&& 31)) &&& 1 = 1 := by decide
theorem lt7 {m nb : Nat} (hm : m < 1000) (hn : nb < 1000) : nI m < 7 * nI nb ↔ m < 7 * nb := by
  rw [show (7 : Int32) = nI 7 from rfl, pk_mul]
  exact nI_ltI (by omega) (by omega)
theorem ICat.wx {M : JM} {i : Nat} (hc : ICat M i) {p : Int32} (hp : 0 ≤ p ∧ p ≤ 21) : ∃ x : Nat → Nat, ∀ t, t < 14 → gi M (64 + 4 * i) (p * 14 + nI t) = nI (x t) ∧ x t ≤ 4 := by
  refine ⟨fun t => (gi M (64 + 4 * i) (p * 14 + nI t)).toNatClampNeg, fun t ht => ?_⟩
  obtain ⟨h1, h2, h3⟩ := hc.2.2.2.2.1 p (nI t) hp.1 hp.2 (nI_pos' (by omega)) (nI_lt (b := 14) ht (by decide))
  obtain ⟨y, e, hy⟩ := nI_ex (h := 4) h2 h3 (by decide)
  show _ = nI ((gi M (64 + 4 * i) (p * 14 + nI t)).toNatClampNeg) ∧ (gi M (64 + 4 * i) (p * 14 + nI t)).toNatClampNeg ≤ 4
  rw [e, nI_clamp (by omega)]
  exact ⟨rfl, hy⟩
/-- the part of a MADE item -/
theorem made_num {M : JM} {q i b s z : Nat} (hr : RF (gr M)) (hq : q = 5 ∨ q = 10) (h4 : gr M 0 4 = some q) (hi : i < 3) (hc : ICat M i) (hS : BStr M q i) {p v : Int32} (hp : 0 ≤ p ∧ p ≤ 21) (hz : gi M q 3 = nI z) (hz3 : z ≤ 300) (hbs : b + s ≤ z) (h : sMade (gi M 40) (nI z) (fun t => gi M (64 + 4 * i) (p * 14 + t)) (nI b) = .inl (nI (b + s))) : (¬ v < 0 → ∃ r, f_X7_partNumber 0 (61 + 4 * i) p (nI b) v M = some (r, M) ∧ f_X8_ofMade 32 (nI i) p (nI b) v M = some (r, M)) ∧ (v < 0 → f_X8_ofMade 32 (nI i) p (nI b) v M = some (-9, M)) := by
  obtain ⟨x, hx⟩ := hc.wx hp
  obtain ⟨nb, n1, n2, n3, n4⟩ := sMade_in hz3 hbs hx h
  have hb : b + 1 ≤ z := by omega
  have l1 : 0 ≤ nI b ∧ nI b < 300 := ⟨nI_pos' (by omega), nI_lt (b := 300) (by omega) (by decide)⟩
  have eT : ∀ j : Nat, j < z → gi M (q + 1) (nI j) = gi M 40 (nI j) := fun j hj => (hS.2.1 (nI j) (nI_pos' (by omega)) (by rw [hz]; exact nI_lt hj (by omega))).1
  have e1 : 1 + (gi M (q + 1) (nI b) &&& 1) = nI nb := by
    rw [eT b (by omega)]
    rcases and1 (gi M 40 (nI b)) with e | e
    · have : nb = 1 := by
        rcases n1 with a | a
        · exact a
        · rw [n2.mp a] at e; exact absurd e (by decide)
      rw [e, this]; rfl
    · have : nb = 2 := n2.mpr e
      rw [e, this]; rfl
  have eB : ∀ m : Nat, m < 7 * nb → bit (gi M (q + 1)) (nI b) (nI m) = bs (gi M 40) (nI b) (nI nb) (nI m) := by
    intro m hm
    rw [bs_bit, decide_eq_true ((lt7 (by omega) (by omega)).mpr hm), Bool.true_and]
    exact bit_congr (by omega) (eT _ (by omega))
  -- the reference
  have hm0 : ∀ v6 : Int32, (∀ m : Nat, 7 ≤ m → m < 14 → ((v6 >>> ((14 - nI m) &&& 31)) &&& 1 = 1 ↔ bs (gi M 40) (nI b) (nI nb) (nI m) = true)) → _ := fun v6 h6 => lp_mpart (M := M) hr (v1 := nI i) (p := p) (v4 := v) (v5 := gi M 40 (nI b)) (v6 := v6) (w := fun t => gi M (64 + 4 * i) (p * 14 + t)) (fun t ht => by
      have g1 := nI_pos' (n := t) (by omega)
      have g2 : nI t < 14 := nI_lt (b := 14) ht (by decide)
      refine ⟨ix_part hi hp.1 hp.2 g1 g2, ?_⟩
      exact (hc.2.2.2.2.1 p (nI t) hp.1 hp.2 g1 g2).1.symm) (B := bs (gi M 40) (nI b) (nI nb)) (fun m hm => by
      rw [bs_bit, decide_eq_true ((lt7 (by omega) (by omega)).mpr (by omega)), Bool.true_and]
      unfold bit
      rw [d7 (by omega), nI_add, sh7 m hm, show b + m / 7 = b by omega, decide_eq_true_eq]) h6 FU 0 (nI (b + nb)) (by omega) (by show _ < 4096; omega)
  have hmd : ∃ v6, (∀ m : Nat, 7 ≤ m → m < 14 → ((v6 >>> ((14 - nI m) &&& 31)) &&& 1 = 1 ↔ bs (gi M 40) (nI b) (nI nb) (nI m) = true)) ∧ f_X8_ofMade 32 (nI i) p (nI b) v M = f_X8_ofMade_L50 FU 32 (nI i) p v (gi M 40 (nI b)) v6 (nI (b + nb)) (nI 0) M := by
    unfold f_X8_ofMade f_X8_ofMade_L28 f_X8_ofMade_L44
    rw [hr.r32_16, orf_e, ln_40, if_pos l1, sv_e]
    by_cases g : gi M 40 (nI b) &&& 1 = 1
    · have hnb := n2.mpr g
      subst hnb
      refine ⟨gi M 40 (nI (b + 1)), fun m m1 m2 => ?_, ?_⟩
      · rw [bs_bit, decide_eq_true ((lt7 (by omega) (by omega)).mpr (by omega)), Bool.true_and]
        unfold bit
        rw [d7 (by omega), nI_add, sh14 m m2 m1, show b + m / 7 = b + 1 by omega, decide_eq_true_eq]
      · rw [if_pos g, orf_e, ln_40, nI_p1, if_pos (show 0 ≤ nI (b + 1) ∧ nI (b + 1) < 300 from ⟨nI_pos' (by omega), nI_lt (b := 300) (by omega) (by decide)⟩), sv_e, if_pos g, sv_e, sv_e, show nI b + 2 = nI (b + 2) from nI_add b 2]
        rfl
    · have hnb : nb = 1 := by
        rcases n1 with a | a
        · exact a
        · exact absurd (n2.mp a) g
      subst hnb
      refine ⟨0, fun m m1 m2 => ?_, ?_⟩
      · rw [bs_bit, decide_eq_false (fun q => by have := (lt7 (by omega) (by omega)).mp q; omega), Bool.false_and]
        exact ⟨fun q => absurd q (zsh m m2), fun q => by cases q⟩
      · rw [if_neg g, sv_e, if_neg g, sv_e, sv_e, nI_p1]
        rfl
  obtain ⟨v6, h6, hmd⟩ := hmd
  obtain ⟨m1, m2⟩ := hm0 v6 h6
  rw [hmd]
  refine ⟨fun hv => ?_, fun hv => m2 (fun t _ _ e => by rw [e] at hv; exact absurd hv (Int32.not_lt.mpr (nI_pos' (by omega))))⟩
  obtain ⟨j, hj, rfl⟩ := nI_of hv
  unfold f_X7_partNumber
  rw [h4, orf_e, (hr.rq hq).1, orf_e, (ln_q hq).1, if_pos l1, e1, sv_e]
  by_cases hj7 : j < 7 * nb
  · rw [if_pos (show nI j < nI nb * 7 by rw [show (7 : Int32) = nI 7 from rfl, pk_mul]; exact nI_lt (by omega) (by omega)), orf_e, (hr.rq hq).1, orf_e, isOne_eq (ln_q hq).1 (by omega) (by omega), ob_e, eB j hj7]
    by_cases hB : bs (gi M 40) (nI b) (nI nb) (nI j) = true
    · obtain ⟨u, u1, u2, u3⟩ := n4 j (by omega)
      have u4 := u3 hB
      have hw := (hx j (by omega)).1
      have hcp : f_X7_partNumber_L54 FU 0 (61 + 4 * i) p (nI b) (nI j) (nI (b + nb)) (nI 0) M = f_X7_partNumber_L95 0 (61 + 4 * i) p (nI j) (nI u) M := by
        rw [lp_cpart hr hq h4 hi hc hp (by omega) (by omega) FU 0 (nI (b + nb)) (by omega) (by show _ < 4096; omega), psN_congr (B' := bs (gi M 40) (nI b) (nI nb)) (j - 0) 0 _ (fun t ht => eB _ (by omega)), Nat.sub_zero, u1]
      refine ⟨jn (gi M 40) (x j) (nI u) 0, ?_, ?_⟩
      · rw [if_pos hB, sv_e, sv_e, nI_add]
        show f_X7_partNumber_L54 FU 0 (61 + 4 * i) p (nI b) (nI j) (nI (b + nb)) (nI 0) M = _
        rw [hcp]
        unfold f_X7_partNumber_L95
        rw [h4, orf_e, cpart_eq hi hc hp.1 hp.2 (nI_pos' (by omega)) (nI_lt (b := 14) (by omega) (by decide)), ob_e, hw, joined_eq hr hq hz u4 hz3, ob_e, hS.jn hz u4 hz3]
      · rw [m1 j (by omega) (by omega) rfl hB, Nat.sub_zero, u1]
        unfold f_X8_ofMade_L138
        show ob (f_X8_together 32 (nI u) (gi M (64 + 4 * i) (p * 14 + nI j)) M) _ = _
        rw [hw, together_eq hr (by omega), ob_e]
    · refine ⟨-9, by rw [if_neg hB], m2 (fun t t1 t2 t3 => ?_)⟩
      have := nI_inj (by omega) (by omega) t3
      subst this
      exact Bool.eq_false_iff.mpr hB
  · refine ⟨-9, by rw [if_neg (fun q => hj7 (by rw [show (7 : Int32) = nI 7 from rfl, pk_mul] at q; have := (nI_ltI (by omega) (by omega)).mp q; omega))], m2 (fun t t1 t2 t3 => ?_)⟩
    have := nI_inj (by omega) (by omega) t3
    subst this
    rw [bs_bit, decide_eq_false (fun q => hj7 ((lt7 (by omega) (by omega)).mp q)), Bool.false_and]
theorem eq_number {M : JM} (hI : Inv M) (r p v : Int32) : EqL M (f_X7_number 0 r p v) (f_X8_number 32 r p v) := by
  have hI0 := hI
  obtain ⟨hr, hT, hP, ⟨q, hB⟩, hO, hK, hM⟩ := hI
  have same : ∀ a : Int64, f_X7_number 0 r p v M = some (a, M) → f_X8_number 32 r p v M = some (a, M) → EqL M (f_X7_number 0 r p v) (f_X8_number 32 r p v) := fun a x y => ⟨a, M, M, x, y, hI0⟩
  by_cases h1 : 0 ≤ r ∧ r < gi M q 1
  · obtain ⟨i, i1, i2, i3, i4, r8, hS⟩ := hB.rec h1
    by_cases h2 : 1 ≤ p ∧ p ≤ 21
    · obtain ⟨s1, s2⟩ := ix_slot h1.1 r8 h2.1 h2.2
      have hp : 0 ≤ p ∧ p ≤ 21 := ⟨by grind, h2.2⟩
      obtain ⟨c, d1, d2, d3, d4, d5⟩ := hT
      have hic : i < c := by
        rw [d2] at i2
        exact (nI_ltI (by omega) (by omega)).mp i2
      have hc := d5 i hic
      have hn : 0 ≤ nI i := nI_pos' (by omega)
      obtain ⟨k1, k2, k3⟩ := hc.2.2.1 p hp.1 hp.2
      have xk := ix_kind i1 hp.1 hp.2
      have lp22 : 0 ≤ p ∧ p < 22 := ⟨hp.1, by grind⟩
      have hcl : f_X7_number 0 r p v M = if gi M 43 (22 * r + p) = 0 then some (-9, M) else if v < 0 then some (-9, M) else
          if gi M (62 + 4 * i) p = 0 then (if v = 0 then ob (f_X0_joined q (gi M (q + 3) (r * 21 + p - 1)) (gi M 43 (22 * r + p)) M) fun r31 M29 => some (r31, M29) else some (-9, M)) else if gi M (62 + 4 * i) p = 1 then some (-9, M) else if gi M (62 + 4 * i) p = 2 then (if 0 ≤ gi M (q + 3) (r * 21 + p - 1) ∧ gi M (q + 3) (r * 21 + p - 1) < 300 then (if v < gi M (q + 1) (gi M (q + 3) (r * 21 + p - 1)) then ob (f_X0_joined q (gi M (q + 3) (r * 21 + p - 1) + 1 + v * gi M (63 + 4 * i) p) (gi M (63 + 4 * i) p) M) fun r31 M29 => some (r31, M29) else some (-9, M)) else none) else if gi M (62 + 4 * i) p = 3 then ob (f_X7_partNumber 0 (61 + 4 * i) p (gi M (q + 3) (r * 21 + p - 1)) v M) fun r31 M29 => some (r31, M29) else some (-9, M) := by
        unfold f_X7_number
        rw [cRec_eq hB, decide_eq_true h1, ob_e, if_pos rfl, cPlace_eq, ob_e, decide_eq_true h2, if_pos rfl, hB.2.1, orf_e, i3, cCat_yes hr i1 hc ⟨hn, i2⟩, ob_e, oca_s, hB.2.1, orf_e, cSize_eq hr hB.1 h1.1 r8 h2.1 h2.2, ob_e, sv_e, (hS.2.2.2.2 r p h1.1 h1.2 h2.1 h2.2).1]
        by_cases z0 : gi M 43 (22 * r + p) = 0
        · rw [if_pos z0, if_pos z0]
        · rw [if_neg z0, if_neg z0]
          by_cases v0 : v < 0
          · rw [if_pos v0, if_pos v0]
          · rw [if_neg v0, if_neg v0, hB.2.1, orf_e, cBegin_eq hr hB.1 h1.1 r8 h2.1 h2.2, (hS.2.2.2.2 r p h1.1 h1.2 h2.1 h2.2).1, if_neg z0, ob_e, sv_e, hc.1.2.1, orf_e, ln_kinds i1, if_pos lp22, hB.2.1, orf_e, hc.1.2.2.1, orf_e, ln_sizes i1, if_pos lp22, sv_e, orf_e, (hr.rq hB.1).1, orf_e, (ln_q hB.1).1, orf_e]
      have hmd : f_X8_number 32 r p v M = if gi M 43 (22 * r + p) = 0 then some (-9, M) else if gi M (62 + 4 * i) p = 0 then (if v = 0 then ob (f_X8_together 32 (gi M 42 (22 * r + p)) (gi M (63 + 4 * i) p) M) fun r31 M29 => some (r31, M29) else some (-9, M)) else if gi M (62 + 4 * i) p = 1 then some (-9, M) else if gi M (62 + 4 * i) p = 2 then (if 0 ≤ gi M 42 (22 * r + p) ∧ gi M 42 (22 * r + p) < 300 then (ob (f_X8_in v 0 (gi M 40 (gi M 42 (22 * r + p)) - 1) M) fun r19 M17 => if r19 = true then ob (f_X8_together 32 (gi M17 42 (22 * r + p) + 1 + v * gi M17 (63 + 4 * i) p) (gi M17 (63 + 4 * i) p) M17) fun r31 M29 => some (r31, M29) else some (-9, M17)) else none) else if gi M (62 + 4 * i) p = 3 then ob (f_X8_ofMade 32 (nI i) p (gi M 42 (22 * r + p)) v M) fun r31 M29 => some (r31, M29) else some (-9, M) := by
        unfold f_X8_number
        rw [mRec_eq hB, decide_eq_true h1, ob_e, if_pos rfl, mPlace_eq, ob_e, decide_eq_true h2, if_pos rfl, i4, sv_e, hr.r32_18, orf_e, ln_42, if_pos s2, sv_e, hr.r32_19, orf_e, ln_43, if_pos s2, hr.r32_2, orf_e, ln_34, if_pos xk, ← k1, hr.r32_3, orf_e, ln_35, if_pos xk, hr.r32_16, orf_e, ln_40, in_eq, ob_e, hr.r32_3, orf_e, ln_35, if_pos xk, orf_e, ln_35, if_pos xk, ← k2]
        rfl
      by_cases z0 : gi M 43 (22 * r + p) = 0
      · exact same (-9) (by rw [hcl, if_pos z0]) (by rw [hmd, if_pos z0])
      obtain ⟨b, s, z, b1, b2, b3, b4, b5, b6, b7, b8, b9, b10⟩ := hS.item h1 h2 z0
      have hbeg : 0 ≤ nI b ∧ nI b < 300 := ⟨nI_pos' (by omega), nI_lt (b := 300) (by omega) (by decide)⟩
      rw [if_neg z0, b3, b2] at hcl
      rw [if_neg z0, b1] at hmd
      unfold cItem sItem at b10
      by_cases v0 : v < 0
      · rw [if_pos v0] at hcl
        refine same (-9) hcl ?_
        rcases k3 with ⟨g, n1, n2⟩ | ⟨g, -⟩ | ⟨g, n1, n2⟩ | ⟨g, -⟩ | ⟨g, -⟩
        · rw [hmd, g, if_pos rfl, if_neg (by intro e; rw [e] at v0; exact absurd v0 (by decide))]
        · rw [hmd, g, if_neg (by decide), if_pos rfl]
        · rw [hmd, g, if_neg (by decide), if_neg (by decide), if_pos rfl, if_pos hbeg, in_f M (by grind), ob_e, if_neg (by decide)]
        · rw [g, if_neg (by decide), if_neg (by decide), if_neg (by decide)] at b10
          rw [hmd, g, if_neg (by decide), if_neg (by decide), if_neg (by decide), if_pos rfl, (made_num hr hB.1 hB.2.1 i1 hc hS hp b5 b6 b8 b10).2 v0, ob_e]
        · exact absurd g b9
      rw [if_neg v0] at hcl
      rcases k3 with ⟨g, n1, n2⟩ | ⟨g, -⟩ | ⟨g, n1, n2⟩ | ⟨g, -⟩ | ⟨g, -⟩
      · rw [g, if_pos rfl] at hcl hmd b10
        obtain ⟨x, hx, x8⟩ := nI_ex (h := 8) (by grind) n2 (by decide)
        rw [hx] at hmd b10
        obtain ⟨-, e⟩ := sNeed_inl (by omega) (by omega) (by omega) b10
        have e := nI_inj (by omega) (by omega) e
        have hxs : x = s := by omega
        subst hxs
        by_cases v0 : v = 0
        · rw [if_pos v0] at hcl hmd
          rw [joined_eq hr hB.1 b5 b8 b6, ob_e, hS.jn b5 b8 b6] at hcl
          rw [together_eq hr (by omega), ob_e] at hmd
          exact same _ hcl hmd
        · rw [if_neg v0] at hcl hmd
          exact same (-9) hcl hmd
      · rw [g, if_neg (by decide), if_pos rfl] at hcl hmd
        exact same (-9) hcl hmd
      · rw [g, if_neg (by decide), if_neg (by decide), if_pos rfl, if_pos hbeg] at hcl hmd
        rw [g, if_neg (by decide), if_neg (by decide), if_pos rfl] at b10
        obtain ⟨x, hx, x4⟩ := nI_ex (h := 4) (by grind) n2 (by decide)
        rw [hx] at hcl b10
        unfold sAgain at b10
        split at b10
        · split at b10
          · rename_i t1
            obtain ⟨y, hy, y5⟩ := nI_ex (h := 5) (by grind) t1.2 (by decide)
            rw [hy, pk_mul, nI_p1] at b10
            have hyx : y * x ≤ 5 * 4 := Nat.mul_le_mul y5 x4
            obtain ⟨e1, e⟩ := sNeed_inl (by omega) (by omega) (by omega) b10
            have eT : gi M (q + 1) (nI b) = gi M 40 (nI b) := (hS.2.1 (nI b) hbeg.1 (by rw [b5]; exact nI_lt (by omega) (by omega))).1
            rw [eT, hy] at hcl
            rw [hy] at hmd
            by_cases vt : 0 ≤ v ∧ v < nI y
            · obtain ⟨j, hj, rfl⟩ := nI_of (Int32.not_lt.mpr vt.1)
              have hjy := (nI_ltI hj (by omega)).mp vt.2
              have hjx : j * x + x ≤ y * x := by
                have := Nat.mul_le_mul_right x (show j + 1 ≤ y by omega)
                rw [Nat.succ_mul] at this
                exact this
              rw [if_pos vt.2, nI_p1, pk_mul, nI_add, joined_eq hr hB.1 b5 (by omega) b6, ob_e, hS.jn b5 (by omega) b6] at hcl
              rw [in_t M (show 0 ≤ nI j ∧ nI j ≤ nI y - 1 by
                refine ⟨vt.1, ?_⟩
                rw [show y = y - 1 + 1 by omega, nI_pred]
                exact nI_le (by omega) (by omega)), ob_e, if_pos rfl, b1, hx, nI_p1, pk_mul, nI_add, together_eq hr (by omega), ob_e] at hmd
              exact same _ hcl hmd
            · rw [in_f M (show ¬ (0 ≤ v ∧ v ≤ nI y - 1) by
                have hy0 : 0 ≤ nI y := nI_pos' (by omega)
                have hy5 : nI y ≤ 5 := nI_le (b := 5) y5 (by decide)
                clear hcl hmd b10
                generalize nI y = Y at *
                grind), ob_e, if_neg (by decide)] at hmd
              exact same (-9) (by rw [hcl, if_neg (fun x => vt ⟨Int32.not_lt.mp v0, x⟩)]) hmd
          · cases b10
        · cases b10
      · rw [g, if_neg (by decide), if_neg (by decide), if_neg (by decide), if_pos rfl] at hcl hmd
        rw [g, if_neg (by decide), if_neg (by decide), if_neg (by decide)] at b10
        obtain ⟨a, h3, h4⟩ := (made_num hr hB.1 hB.2.1 i1 hc hS hp b5 b6 b8 b10).1 v0
        exact same a (by rw [hcl, h3, ob_e]) (by rw [hmd, h4, ob_e])
      · exact absurd g b9
    · refine same (-1) ?_ ?_
      · unfold f_X7_number
        rw [cRec_eq hB, decide_eq_true h1, ob_e, if_pos rfl, cPlace_eq, ob_e, decide_eq_false h2, if_neg (by decide)]
      · unfold f_X8_number
        rw [mRec_eq hB, decide_eq_true h1, ob_e, if_pos rfl, mPlace_eq, ob_e, decide_eq_false h2, if_neg (by decide)]
  · refine same (-1) ?_ ?_
    · unfold f_X7_number
      rw [cRec_eq hB, decide_eq_false h1, ob_e, if_neg (by decide)]
    · unfold f_X8_number
      rw [mRec_eq hB, decide_eq_false h1, ob_e, if_neg (by decide)]
