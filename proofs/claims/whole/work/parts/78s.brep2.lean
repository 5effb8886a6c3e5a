/-! PURE PART: report: class and reference answer alike -/
theorem cfix_eq {M : JM} {i : Nat} (hi : i < 3) (hc : ICat M i) {p : Int32} (hp : 0 ≤ p ∧ p ≤ 21) (n : Int32) : f_X1_isFixed (61 + 4 * i) p n M = some (decide (gi M (62 + 4 * i) p = 0 ∧ gi M (63 + 4 * i) p = n), M) := by
  have l : 0 ≤ p ∧ p < 22 := ⟨hp.1, by grind⟩
  unfold f_X1_isFixed
  rw [hc.1.2.1, orf_e, ln_kinds hi, if_pos l]
  by_cases h : gi M (62 + 4 * i) p = 0
  · rw [if_pos h, hc.1.2.2.1, orf_e, ln_sizes hi, if_pos l]
    by_cases h2 : gi M (63 + 4 * i) p = n
    · rw [if_pos h2, decide_eq_true ⟨h, h2⟩]
    · rw [if_neg h2, decide_eq_false (fun x => h2 x.2)]
  · rw [if_neg h, decide_eq_false (fun x => h x.1)]
theorem mfix_eq {M D : JM} (hr : RF (gr D)) (hk : ∀ k j, 32 ≤ k → gi D k j = gi M k j) {i : Nat} (hi : i < 3) (hc : ICat M i) {p : Int32} (hp : 0 ≤ p ∧ p ≤ 21) (n : Int32) : f_X8_isFixed 32 (nI i) p n D = some (decide (gi M (62 + 4 * i) p = 0 ∧ gi M (63 + 4 * i) p = n), D) := by
  obtain ⟨m1, m2, m3, -⟩ := hc.mix hi hp
  unfold f_X8_isFixed
  rw [hr.r32_2, orf_e, ln_34, if_pos m1, hk 34 _ (by decide), m2]
  by_cases h : gi M (62 + 4 * i) p = 0
  · rw [if_pos h, hr.r32_3, orf_e, ln_35, if_pos m1, hk 35 _ (by decide), m3]
    by_cases h2 : gi M (63 + 4 * i) p = n
    · rw [if_pos h2, decide_eq_true ⟨h, h2⟩]
    · rw [if_neg h2, decide_eq_false (fun x => h2 x.2)]
  · rw [if_neg h, decide_eq_false (fun x => h x.1)]
theorem fix_item {M : JM} {q i : Nat} {r p : Int32} {b s z n : Nat} (hn : n ≤ 8) (h : ItR M q i r p b s z) (h0 : gi M (62 + 4 * i) p = 0) (h1 : gi M (63 + 4 * i) p = nI n) : s = n := by
  obtain ⟨b1, b2, b3, b4, b5, b6, b7, b8, b9, b10⟩ := h
  unfold cItem sItem at b10
  rw [if_pos h0, h1] at b10
  obtain ⟨a, e⟩ := sNeed_inl (by omega) (by omega) (by omega) b10
  have := nI_inj (by omega) (by omega) e
  omega
/-- what the reference does ahead of the tracks -/
theorem mrp_eq {M D : JM} (hr : RF (gr D)) (hk : ∀ k j, 32 ≤ k → gi D k j = gi M k j) {i : Nat} (hi : i < 3) (hc : ICat M i) {r : Int32} (h15 : gi M 32 15 = nI i) (hrec : 0 ≤ r ∧ r ≤ gi M 32 14 - 1) (h8 : r < 8) :
    (gi M 37 (nI i) < 0 → f_X8_report 32 r D = some (-9, D)) ∧
    (∀ a b : Int32, 1 ≤ a ∧ a ≤ 21 → 1 ≤ b ∧ b ≤ 21 → gi M 37 (nI i) = a → gi M 38 (nI i) = b →
      (¬ (gi M (62 + 4 * i) a = 0 ∧ gi M (63 + 4 * i) a = 2) → f_X8_report 32 r D = some (-9, D)) ∧
      (¬ (gi M (62 + 4 * i) b = 0 ∧ gi M (63 + 4 * i) b = 4) → f_X8_report 32 r D = some (-9, D)) ∧
      (gi M (62 + 4 * i) a = 0 ∧ gi M (63 + 4 * i) a = 2 → gi M (62 + 4 * i) b = 0 ∧ gi M (63 + 4 * i) b = 4 →
        (gi M 43 (22 * r + a) = 0 → f_X8_report 32 r D = some (-9, D)) ∧
        (gi M 43 (22 * r + b) = 0 → f_X8_report 32 r D = some (-9, D)) ∧
        (∀ x y : Nat, gi M 43 (22 * r + a) ≠ 0 → gi M 43 (22 * r + b) ≠ 0 → gi M 42 (22 * r + a) = nI x → gi M 42 (22 * r + b) = nI y → x + 2 ≤ 300 → y + 4 ≤ 300 → f_X8_report 32 r D = mTl ((jn (gi M 40) 2 (nI x) 0).toInt32 &&& 4095) ((jn (gi M 40) 2 (nI y) 0).toInt32.toInt16.toInt32) ((jn (gi M 40) 2 (nI (y + 2)) 0).toInt32.toInt16.toInt32) D))) := by
  have hI3 : 0 ≤ nI i ∧ nI i < 3 := ⟨nI_pos' (by omega), nI_lt (b := 3) hi (by decide)⟩
  have hrecD : f_X8_isRecord 32 r D = some (true, D) := by
    unfold f_X8_isRecord
    rw [hk 32 14 (by decide), in_t D hrec, ob_e]
  have e15 : gi D 32 15 = nI i := by rw [hk 32 15 (by decide), h15]
  have hk40 : gi D 40 = gi M 40 := funext fun j => hk 40 j (by decide)
  constructor
  · intro h
    unfold f_X8_report
    rw [hrecD, ob_e, if_pos rfl, hr.r32_5, orf_e, e15, ln_37, if_pos hI3, sv_e, hr.r32_6, orf_e, ln_38, if_pos hI3, sv_e, hk 37 _ (by decide), if_pos h]
  · intro a b ha hb ea eb
    have ha0 : 0 ≤ a ∧ a ≤ 21 := ⟨by grind, ha.2⟩
    have hb0 : 0 ≤ b ∧ b ≤ 21 := ⟨by grind, hb.2⟩
    obtain ⟨-, sa⟩ := ix_slot hrec.1 h8 ha.1 ha.2
    obtain ⟨-, sb⟩ := ix_slot hrec.1 h8 hb.1 hb.2
    have hhead : f_X8_report 32 r D = ob (f_X8_isFixed 32 (nI i) a (2 : Int32) D) fun r10 M8 => if r10 = true then (ob (f_X8_isFixed 32 (gi M8 32 15) b (4 : Int32) M8) fun r13 M11 => if r13 = true then (orf (gr M11 32 19) fun r14 => if 0 ≤ (((22 : Int32) * r) + a) ∧ (((22 : Int32) * r) + a) < ln r14 then (if (gi M11 r14 (((22 : Int32) * r) + a)) = 0 then (some ((-9 : Int32), M11)) else (orf (gr M11 32 19) fun r15 => if 0 ≤ (((22 : Int32) * r) + b) ∧ (((22 : Int32) * r) + b) < ln r15 then (if (gi M11 r15 (((22 : Int32) * r) + b)) = 0 then (some ((-9 : Int32), M11)) else (orf (gr M11 32 18) fun r16 => if 0 ≤ (((22 : Int32) * r) + a) ∧ (((22 : Int32) * r) + a) < ln r16 then (ob (f_X8_together 32 (gi M11 r16 (((22 : Int32) * r) + a)) (2 : Int32) M11) fun r19 M17 => sv (r19.toInt32 &&& (4095 : Int32)) fun i20 => orf (gr M17 32 18) fun r21 => if 0 ≤ (((22 : Int32) * r) + b) ∧ (((22 : Int32) * r) + b) < ln r21 then (ob (f_X8_together 32 (gi M17 r21 (((22 : Int32) * r) + b)) (2 : Int32) M17) fun r24 M22 => ob (f_X8_signed r24 M22) fun r27 M25 => sv r27 fun i28 => orf (gr M25 32 18) fun r29 => if 0 ≤ (((22 : Int32) * r) + b) ∧ (((22 : Int32) * r) + b) < ln r29 then (ob (f_X8_together 32 ((gi M25 r29 (((22 : Int32) * r) + b)) + (2 : Int32)) (2 : Int32) M25) fun r32 M30 => ob (f_X8_signed r32 M30) fun r35 M33 => sv r35 fun i36 => mTl i20 i28 i36 M33) else none) else none) else none)) else none)) else none) else (some ((-9 : Int32), M11))) else (some ((-9 : Int32), M8)) := by
      unfold f_X8_report
      rw [hrecD, ob_e, if_pos rfl, hr.r32_5, orf_e, e15, ln_37, if_pos hI3, sv_e, hr.r32_6, orf_e, ln_38, if_pos hI3, sv_e, hk 37 _ (by decide), hk 38 _ (by decide), ea, eb, if_neg (Int32.not_lt.mpr ha0.1)]
      rfl
    rw [hhead, mfix_eq hr hk hi hc ha0]
    refine ⟨fun h => ?_, fun h => ?_, fun h1 h2 => ?_⟩
    · rw [decide_eq_false h, ob_e, if_neg (by decide)]
    · rw [ob_e, e15]
      by_cases h1 : gi M (62 + 4 * i) a = 0 ∧ gi M (63 + 4 * i) a = 2
      · rw [decide_eq_true h1, if_pos rfl, mfix_eq hr hk hi hc hb0, decide_eq_false h, ob_e, if_neg (by decide)]
      · rw [decide_eq_false h1, if_neg (by decide)]
    · rw [decide_eq_true h1, ob_e, if_pos rfl, e15, mfix_eq hr hk hi hc hb0, decide_eq_true h2, ob_e, if_pos rfl, hr.r32_19, orf_e, ln_43, if_pos sa, hk 43 _ (by decide), orf_e, ln_43, if_pos sb, hk 43 _ (by decide)]
      refine ⟨fun h => ?_, fun h => ?_, fun x y g1 g2 e1 e2 l1 l2 => ?_⟩
      · rw [if_pos h]
      · by_cases g : gi M 43 (22 * r + a) = 0
        · rw [if_pos g]
        · rw [if_neg g, if_pos h]
      · rw [if_neg g1, if_neg g2, hr.r32_18, orf_e, ln_42, if_pos sa, hk 42 _ (by decide), e1]
        show ob (f_X8_together 32 (nI x) (nI 2) D) _ = _
        rw [together_eq hr l1, ob_e, sv_e, hr.r32_18, orf_e, ln_42, if_pos sb, hk 42 _ (by decide), e2]
        show ob (f_X8_together 32 (nI y) (nI 2) D) _ = _
        rw [together_eq hr (by omega), ob_e, signed_eq, ob_e, sv_e, hr.r32_18, orf_e, ln_42, if_pos sb, hk 42 _ (by decide), e2]
        show ob (f_X8_together 32 (nI y + nI 2) (nI 2) D) _ = _
        rw [nI_add, together_eq hr (by omega), ob_e, signed_eq, ob_e, sv_e, hk40]
theorem eq_report {M : JM} (hI : Inv M) (r : Int32) : Eqi M (f_X7_report 0 r) (f_X8_report 32 r) := by
  have hI0 := hI
  obtain ⟨hr, ⟨c, hc3, t1, t2, tn, ht⟩, hP, ⟨q, hB⟩, hO, hK, hM⟩ := hI
  by_cases h1 : 0 ≤ r ∧ r < gi M q 1
  · obtain ⟨i, hi, i2, i3, i4, r8, hS⟩ := hB.rec h1
    have hic : i < c := by rw [t1] at i2; exact (nI_ltI (by omega) (by omega)).mp i2
    have hc := ht i hic
    have hcn := hB.cnt
    have hrec : 0 ≤ r ∧ r ≤ gi M 32 14 - 1 := by
      rw [← hB.2.2.2.1]
      refine ⟨h1.1, ?_⟩
      obtain ⟨h1a, h1b⟩ := h1
      obtain ⟨c1, c2⟩ := hcn
      generalize gi M q 1 = x at *
      clear ht hS hc
      grind
    have hm := mrp_eq hr (fun k j _ => rfl) hi hc i4 hrec r8
    have hhead : f_X7_report 0 r M = ob (f_X1_tellsTrack (61 + 4 * i) M) fun r11 M9 => if r11 = true then (orf (gr M9 0 4) fun r12 => ob (f_X0_sizeOf r12 r (gi M9 (61 + 4 * i) 4) M9) fun r15 M13 => sv r15 fun i16 => orf (gr M13 0 4) fun r17 => ob (f_X0_sizeOf r17 r (gi M13 (61 + 4 * i) 5) M13) fun r20 M18 => sv r20 fun i21 => if i16 = (2 : Int32) then (if i21 = (4 : Int32) then (orf (gr M18 0 4) fun r22 => ob (f_X0_beginOf r22 r (gi M18 (61 + 4 * i) 5) M18) fun r25 M23 => sv r25 fun i26 => orf (gr M23 0 4) fun r27 => orf (gr M23 0 4) fun r28 => ob (f_X0_beginOf r28 r (gi M23 (61 + 4 * i) 4) M23) fun r31 M29 => ob (f_X0_joined r27 r31 i16 M29) fun r34 M32 => sv r34.toInt32 fun i35 => orf (gr M32 0 4) fun r36 => ob (f_X0_joined r36 i26 (2 : Int32) M32) fun r39 M37 => sv r39.toInt32.toInt16.toInt32 fun i40 => orf (gr M37 0 4) fun r41 => ob (f_X0_joined r41 (i26 + (2 : Int32)) (2 : Int32) M37) fun r44 M42 => sv r44.toInt32.toInt16.toInt32 fun i45 => orf (gr M42 0 7) fun r46 => ob (f_X6_update r46 (i35 &&& (4095 : Int32)) i40 i45 M42) fun r49 M47 => some (r49, M47)) else (some ((-9 : Int32), M18))) else (some ((-9 : Int32), M18))) else (some ((-9 : Int32), M9)) := by
      unfold f_X7_report
      rw [cRec_eq hB, decide_eq_true h1, ob_e, if_pos rfl, hB.2.1, orf_e, i3, cCat_yes hr hi hc ⟨nI_pos' (by omega), i2⟩, ob_e, oca_s]
    have htt : ∀ a b : Int32, 0 ≤ a ∧ a ≤ 21 → 0 ≤ b ∧ b ≤ 21 → gi M (61 + 4 * i) 4 = a → gi M (61 + 4 * i) 5 = b → f_X1_tellsTrack (61 + 4 * i) M = some (decide ((gi M (62 + 4 * i) a = 0 ∧ gi M (63 + 4 * i) a = 2) ∧ (gi M (62 + 4 * i) b = 0 ∧ gi M (63 + 4 * i) b = 4)), M) := by
      intro a b ha hb ea eb
      unfold f_X1_tellsTrack
      rw [ea, cfix_eq hi hc ha, ob_e]
      by_cases x : gi M (62 + 4 * i) a = 0 ∧ gi M (63 + 4 * i) a = 2
      · rw [decide_eq_true x, if_pos rfl, eb, cfix_eq hi hc hb, ob_e]
        by_cases y : gi M (62 + 4 * i) b = 0 ∧ gi M (63 + 4 * i) b = 4
        · rw [decide_eq_true y, if_pos rfl, decide_eq_true ⟨x, y⟩]
        · rw [decide_eq_false y, if_neg (by decide), decide_eq_false (fun z => y z.2)]
      · rw [decide_eq_false x, if_neg (by decide), decide_eq_false (fun z => x z.1)]
    rcases hc.2.2.2.2.2 with ⟨e4, e5, e37, e38⟩ | ⟨a1, a2, b1, b2, e37, e38⟩
    · refine Eqi.same hI0 (r := -9) ?_ (hm.1 (by rw [e37]; decide))
      rw [hhead, htt 0 0 (by decide) (by decide) e4 e5, decide_eq_false (fun x => by
        have y := x.1.1
        rw [hc.2.2.2.1] at y
        exact absurd y (by decide)), ob_e, if_neg (by decide)]
    · generalize ea : gi M (61 + 4 * i) 4 = a at *
      generalize eb : gi M (61 + 4 * i) 5 = b at *
      have ha0 : 0 ≤ a ∧ a ≤ 21 := ⟨by clear ht hS hc; grind, a2⟩
      have hb0 : 0 ≤ b ∧ b ≤ 21 := ⟨by clear ht hS hc; grind, b2⟩
      obtain ⟨m1, m2, m3⟩ := hm.2 a b ⟨a1, a2⟩ ⟨b1, b2⟩ e37 e38
      have htt := htt a b ha0 hb0 rfl rfl
      by_cases x : gi M (62 + 4 * i) a = 0 ∧ gi M (63 + 4 * i) a = 2
      · by_cases y : gi M (62 + 4 * i) b = 0 ∧ gi M (63 + 4 * i) b = 4
        · obtain ⟨n1, n2, n3⟩ := m3 x y
          obtain ⟨sa, -⟩ := hS.2.2.2.2 r a h1.1 h1.2 a1 a2
          obtain ⟨sb, -⟩ := hS.2.2.2.2 r b h1.1 h1.2 b1 b2
          rw [htt, decide_eq_true ⟨x, y⟩, ob_e, if_pos rfl, hB.2.1, orf_e, ea, cSize_eq hr hB.1 h1.1 r8 a1 a2, ob_e, sv_e, hB.2.1, orf_e, eb, cSize_eq hr hB.1 h1.1 r8 b1 b2, ob_e, sv_e, sa, sb] at hhead
          by_cases g1 : gi M 43 (22 * r + a) = 0
          · exact Eqi.same hI0 (r := -9) (by rw [hhead, if_neg (by rw [g1]; decide)]) (n1 g1)
          · obtain ⟨ba, sna, za, hita⟩ := hS.item h1 ⟨a1, a2⟩ g1
            have hs2 := fix_item (n := 2) (by decide) hita x.1 x.2
            subst hs2
            by_cases g2 : gi M 43 (22 * r + b) = 0
            · refine Eqi.same hI0 (r := -9) ?_ (n2 g2)
              rw [hhead, hita.2.2.1, if_pos (show nI 2 = 2 from rfl), if_neg (by rw [g2]; decide)]
            · obtain ⟨bb, snb, zb, hitb⟩ := hS.item h1 ⟨b1, b2⟩ g2
              have hs4 := fix_item (n := 4) (by decide) hitb y.1 y.2
              subst hs4
              obtain ⟨u1, u2, u3, u4, u5, u6, u7, u8, -, -⟩ := hita
              obtain ⟨v1, v2, v3, v4, v5, v6, v7, v8, -, -⟩ := hitb
              have hcls : f_X7_report 0 r M = ob (f_X6_update 18 ((jn (gi M 40) 2 (nI ba) 0).toInt32 &&& 4095) ((jn (gi M 40) 2 (nI bb) 0).toInt32.toInt16.toInt32) ((jn (gi M 40) 2 (nI (bb + 2)) 0).toInt32.toInt16.toInt32) M) fun r49 M47 => some (r49, M47) := by
                have hbA : f_X0_beginOf q r a M = some (nI ba, M) := by
                  rw [cBegin_eq hr hB.1 h1.1 r8 a1 a2, u4, if_neg (by decide), u2]
                have hbB : f_X0_beginOf q r b M = some (nI bb, M) := by
                  rw [cBegin_eq hr hB.1 h1.1 r8 b1 b2, v4, if_neg (by decide), v2]
                rw [hhead, u3, v3, if_pos (show nI 2 = 2 from rfl), if_pos (show nI 4 = 4 from rfl), hB.2.1, orf_e, eb, hbB, ob_e, sv_e, hB.2.1, orf_e, orf_e, ea, hbA, ob_e, joined_eq hr hB.1 u5 u8 u6, ob_e, sv_e, hB.2.1, orf_e]
                show ob (f_X0_joined q (nI bb) (nI 2) M) _ = _
                rw [joined_eq hr hB.1 v5 (show bb + 2 ≤ zb by omega) v6, ob_e, sv_e, hB.2.1, orf_e]
                show ob (f_X0_joined q (nI bb + nI 2) (nI 2) M) _ = _
                rw [nI_add, joined_eq hr hB.1 v5 (show bb + 2 + 2 ≤ zb by omega) v6, ob_e, sv_e, hr.r0_7, orf_e, hS.jn u5 u8 u6, hS.jn v5 (show bb + 2 ≤ zb by omega) v6, hS.jn v5 (show bb + 2 + 2 ≤ zb by omega) v6]
              have hm2 : ∀ D : JM, RF (gr D) → (∀ k j, 32 ≤ k → gi D k j = gi M k j) → f_X8_report 32 r D = mTl ((jn (gi M 40) 2 (nI ba) 0).toInt32 &&& 4095) ((jn (gi M 40) 2 (nI bb) 0).toInt32.toInt16.toInt32) ((jn (gi M 40) 2 (nI (bb + 2)) 0).toInt32.toInt16.toInt32) D := by
                intro D hrD hk
                exact (((mrp_eq hrD hk hi hc i4 hrec r8).2 a b ⟨a1, a2⟩ ⟨b1, b2⟩ e37 e38).2.2 x y).2.2 ba bb g1 g2 u1 v1 (by omega) (by omega)
              generalize (jn (gi M 40) 2 (nI ba) 0).toInt32 &&& 4095 = NN at *
              generalize (jn (gi M 40) 2 (nI bb) 0).toInt32.toInt16.toInt32 = XX at *
              generalize (jn (gi M 40) 2 (nI (bb + 2)) 0).toInt32.toInt16.toInt32 = YY at *
              have e3 : gi M 18 3 = gi M 32 40 := hK.1.2.2.2.2.1
              obtain ⟨r0, M1, -, p1, -, -, f1, -, -, -⟩ := upd_both hr hr (LSt.of hK) NN XX YY
              have hr1 : RF (gr M1) := hr.of19 f1.2.1
              obtain ⟨r1, MC', M2, q1, q2, q3, q4, q5, q6, q7⟩ := upd_both hr hr1 ((LSt.of hK).stay f1 rfl) NN XX YY
              rw [p1] at q1
              have e := Option.some.inj q1
              have er : r0 = r1 := congrArg Prod.fst e
              have em : M1 = MC' := congrArg Prod.snd e
              subst er
              subst em
              refine ⟨r0, M1, M2, ?_, ?_, Inv_CM hI0 f1 q5 q3 ?_⟩
              · rw [hcls, p1, ob_e]
              · rw [hm2 M1 hr1 (fun k j hk => f1.1 k j (by unfold trkC; omega)), q2]
              · rw [q6, q7, f1.1 32 40 (by unfold trkC; omega), e3]
        · refine Eqi.same hI0 (r := -9) ?_ (m2 y)
          rw [hhead, htt, decide_eq_false (fun z => y z.2), ob_e, if_neg (by decide)]
      · refine Eqi.same hI0 (r := -9) ?_ (m1 x)
        rw [hhead, htt, decide_eq_false (fun z => x z.1), ob_e, if_neg (by decide)]
  · refine Eqi.same hI0 (r := -1) ?_ ?_
    · unfold f_X7_report
      rw [cRec_eq hB, decide_eq_false h1, ob_e, if_neg (by decide)]
    · unfold f_X8_report
      rw [mRec_eq hB, decide_eq_false h1, ob_e, if_neg (by decide)]
