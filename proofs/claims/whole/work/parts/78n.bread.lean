/-! PURE PART: read: class and reference answer alike -/
theorem BStr.keep {M M' : JM} {q i : Nat} (h : BStr M q i) (hq : q = 5 ∨ q = 10) (e : ∀ k j, ((q ≤ k ∧ k ≤ q + 4) ∨ (40 ≤ k ∧ k ≤ 43) ∨ 61 ≤ k) → gi M' k j = gi M k j) : BStr M' q i := by
  have e40 : gi M' 40 = gi M 40 := funext fun j => e 40 j (by omega)
  have eI := cItem_of (i := i) (fun k j hk => e k j (by omega))
  obtain ⟨a1, a2, a3, a4, a5⟩ := h
  refine ⟨by rw [e q _ (by omega)]; exact a1, ?_, ?_, ?_, ?_⟩
  · intro j
    rw [e q _ (by omega), e (q + 1) _ (by omega), e 40 _ (by omega)]
    exact a2 j
  · intro r
    rw [e q _ (by omega), e q 3 (by omega), e (q + 2) _ (by omega), e 41 _ (by omega), e 41 _ (by omega)]
    exact a3 r
  · rw [e q _ (by omega), e q 3 (by omega), e 41 _ (by omega)]
    exact a4
  · intro r p
    rw [e q _ (by omega), e q 3 (by omega), e (q + 4) _ (by omega), e (q + 3) _ (by omega), e 43 _ (by omega), e 42 _ (by omega), e (62 + 4 * i) _ (by omega), eI, e40]
    exact a5 r p
theorem IBlq.keep {M M' : JM} {q : Nat} (h : IBlq M q) (hg4 : gr M' 0 4 = gr M 0 4) (hg5 : gr M' 0 5 = gr M 0 5) (e : ∀ k j, ((q ≤ k ∧ k ≤ q + 4) ∨ (40 ≤ k ∧ k ≤ 43) ∨ 61 ≤ k) → gi M' k j = gi M k j) (e32 : gi M' 32 14 = gi M 32 14 ∧ gi M' 32 15 = gi M 32 15) (e0 : gi M' 0 1 = gi M 0 1) : IBlq M' q := by
  obtain ⟨hq, h1, h2, h3, h4, h5⟩ := h
  refine ⟨hq, by rw [hg4]; exact h1, by rw [hg5]; exact h2, by rw [e q _ (by omega), e32.1]; exact h3, by rw [e q _ (by omega), e32.2]; exact h4, ?_⟩
  rw [e q 1 (by omega), e q 0 (by omega), e0]
  rcases h5 with h5 | ⟨i, i1, i2, i3, i4, i5, i6⟩
  · exact Or.inl h5
  · exact Or.inr ⟨i, i1, i2, i3, i4, i5, i6.keep hq e⟩
theorem rd_split {M : JM} (hr : RF (gr M)) {c : Nat} (hc3 : c ≤ 3) (ht : ∀ i, i < c → ICat M i) {q : Nat} (hq : q = 5 ∨ q = 10) {w : Nat} (hw : gi M 2 1 = nI w) (hw3 : w ≤ 300) (hb : ∀ j : Nat, j < w → 0 ≤ gi M 3 (nI j) ∧ gi M 3 (nI j) ≤ 255) : (∃ f u, RdBad M c f u) ∨ (∃ i z cc S N PP, RdOk M c i z cc S N PP) := by
  rcases fnd_cases (f := fun i => gi M (61 + 4 * i) 0) (v := gi M 3 0) c 0 with hf | ⟨i, -, hi, hf, -⟩
  · exact Or.inl ⟨1, 0, Or.inl ⟨hf, rfl, rfl⟩⟩
  · rw [Nat.zero_add] at hi
    by_cases hbad : lenM M < 4 ∨ gi M 2 1 < lenM M
    · exact Or.inl ⟨2, 1, Or.inr (Or.inl ⟨i, hi, hf, hbad, rfl, rfl⟩)⟩
    · have g1 : ¬ lenM M < 4 := fun x => hbad (Or.inl x)
      have g2 : ¬ gi M 2 1 < lenM M := fun x => hbad (Or.inr x)
      have g3 : lenM M ≤ nI w := by rw [hw] at g2; exact Int32.not_lt.mp g2
      obtain ⟨z, ez, hz⟩ := nI_ex (x := lenM M) (h := w) (by grind) g3 (by omega)
      rw [ez] at g1
      have z4 : 4 ≤ z := by
        rcases Nat.lt_or_ge z 4 with a | a
        · exact absurd (nI_lt (b := 4) a (by decide)) g1
        · exact a
      have zw : nI z ≤ gi M 2 1 := by rw [hw]; exact nI_le hz (by omega)
      obtain ⟨b1, b2, b3⟩ := bg_base hr hc3 ht hq (q := q) hi (show z ≤ 300 by omega)
      have hof : ∀ k j, 61 ≤ k → gi (bgM M q i (nI z)) k j = gi M k j := fun k j hk => bg_k (by omega) (by omega) (by omega)
      rcases bk_split b1 (by omega) b2 b3 (by omega) 8 with ⟨c', S, N, PP, a, b, hB, hS⟩ | ⟨c', S, N, PP, f, u, a, hB, hS, hR⟩ | ⟨S, N, PP, hB, hS⟩
      · exact Or.inr ⟨i, z, c', S, N, PP, hi, hf, ez, z4, by omega, zw, a, b, (BkT_of hof (Tz M z) z c' S N PP).mp hB, hS⟩
      · refine Or.inl ⟨f, u, Or.inr (Or.inr ⟨i, z, hi, hf, ez, z4, by omega, zw, ?_⟩)⟩
        exact (BkBad_of hof (Tz M z) z f u).mp (Or.inl ⟨c', S, N, PP, a, hB, hS, hR⟩)
      · refine Or.inl ⟨_, _, Or.inr (Or.inr ⟨i, z, hi, hf, ez, z4, by omega, zw, (BkBad_of hof (Tz M z) z _ _).mp (Or.inr ⟨S, N, PP, hB, hS, rfl, rfl⟩)⟩)⟩
theorem Rdy.of {M D : JM} (hI : Inv M) {c w : Nat} (hc3 : c ≤ 3) (hc : gi M 32 0 = nI c) (ht : ∀ i, i < c → ICat M i) (hw : gi M 2 1 = nI w) (h0 : 0 < w) (h3 : w ≤ 300) (hr : RF (gr D)) (hg : ∀ k j, k = 1 ∨ 61 ≤ k → gr D k j = gr M k j) (hf : ∀ k j, 32 ≤ k → gi D k j = gi M k j) : Rdy M D c w := by
  refine ⟨hr, by rw [hf _ _ (by omega)]; exact hc, ITab.keep hc3 ht hg (fun k j hk => hf k j (by omega)), by rw [hf _ _ (by omega), ← hI.2.2.1.1]; exact hw, fun k j hk => hf k j (by omega), fun i hi => by rw [hf _ _ (by omega)]; exact (ht i hi).2.1.1.symm, fun j hj => ?_, hw, h0, h3, hc3⟩
  obtain ⟨a, b, d⟩ := hI.2.2.1.2.2.2 (nI j) (nI_pos' (by omega)) (by rw [hw]; exact nI_lt hj (by omega))
  rw [hf _ _ (by omega)]
  exact ⟨a.symm, b, d⟩
theorem eq_read {M : JM} (hI : Inv M) : Eqi M (f_X7_read 0) (f_X8_read 32) := by
  have hI0 := hI
  obtain ⟨hr, ⟨c, hc3, t1, t2, hn, ht⟩, hP, ⟨q0, hB⟩, hO, hK, hM⟩ := hI
  obtain ⟨w, ew, w3⟩ := nI_ex (h := 300) hP.2.1 hP.2.2.1 (by decide)
  by_cases hw0 : w = 0
  · refine Eqi.same hI0 (r := -2) ?_ ?_
    · unfold f_X7_read
      rw [hr.r0_2, orf_e, if_pos (by rw [ew, hw0]; rfl)]
    · unfold f_X8_read
      rw [if_pos (by rw [← hP.1, ew, hw0]; rfl)]
  · have hbytes : ∀ j : Nat, j < w → gi M 3 (nI j) = gi M 39 (nI j) ∧ 0 ≤ gi M 3 (nI j) ∧ gi M 3 (nI j) ≤ 255 := fun j hj => hP.2.2.2 (nI j) (nI_pos' (by omega)) (by rw [ew]; exact nI_lt hj (by omega))
    obtain ⟨q, hqq⟩ : ∃ q, q = 15 - q0 := ⟨_, rfl⟩
    have hq0 := hB.1
    have hq : q = 5 ∨ q = 10 := by omega
    have h04 : gr M 0 4 = some q0 := hB.2.1
    have h05 : gr M 0 5 = some q := by rw [hqq]; exact hB.2.2.1
    rcases rd_split hr hc3 ht hq ew w3 (fun j hj => (hbytes j hj).2) with ⟨f, u, hbad⟩ | ⟨i, z, cc, S, N, PP, hok⟩
    · obtain ⟨hf, M1, e1, ⟨c1, c2, c3, c4⟩⟩ := cread_bad hr hc3 t1 ht hq h05 (by rw [ew]; exact nI_ne0 (by omega) (by omega)) hbad
      have hr1 : RF (gr M1) := hr.ofr (fun k j a _ => c1 k j a) (fun j _ _ => c1 0 j (by omega))
      have hR : Rdy M M1 c w := Rdy.of hI0 hc3 t2 ht ew (by omega) w3 hr1 (fun k j hk => c1 k j (by omega)) (fun k j hk => c3 k j (by omega) (by omega) (by omega))
      obtain ⟨M2, e2, d1, d2, d3, d4⟩ := mread_bad hR hf hbad
      have kk : ∀ k j, ¬ (q ≤ k ∧ k ≤ q + 4) → k ≠ 4 → ¬ (k = 0 ∧ j = 8) → ¬ (44 ≤ k ∧ k ≤ 47) → k ≠ 60 → ¬ (k = 32 ∧ kx j) → gi M2 k j = gi M k j := fun k j a b d e f g => by rw [d3 k j e f g, c3 k j a b d]
      refine ⟨_, M1, M2, e1, e2, by rw [d1]; exact hr1, ⟨c, hc3, by rw [kk _ _ (by omega) (by omega) (by decide) (by omega) (by omega) (by omega)]; exact t1, by rw [kk _ _ (by omega) (by omega) (by omega) (by omega) (by omega) (by decide)]; exact t2, by rw [d2, c2]; exact hn, ITab.keep hc3 ht (fun k j hk => by rw [d1]; exact c1 k j (by omega)) (fun k j hk => kk k j (by omega) (by omega) (by omega) (by omega) (by omega) (by omega))⟩, ?_, ⟨q0, ?_⟩, ?_, ?_, ?_⟩
      · refine hP.congr (fun k j hd => ?_)
        unfold depTape at hd
        rcases hd with ⟨rfl, rfl⟩ | ⟨rfl, rfl⟩ | rfl | rfl
        · exact kk _ _ (by omega) (by omega) (by omega) (by omega) (by omega) (by omega)
        · exact kk _ _ (by omega) (by omega) (by omega) (by omega) (by omega) (by decide)
        · exact kk _ _ (by omega) (by omega) (by omega) (by omega) (by omega) (by omega)
        · exact kk _ _ (by omega) (by omega) (by omega) (by omega) (by omega) (by omega)
      · exact hB.keep (by rw [d1]; exact c1 0 4 (by omega)) (by rw [d1]; exact c1 0 5 (by omega)) (fun k j hk => kk k j (by omega) (by omega) (by omega) (by omega) (by omega) (by omega)) ⟨kk _ _ (by omega) (by omega) (by omega) (by omega) (by omega) (by decide), kk _ _ (by omega) (by omega) (by omega) (by omega) (by omega) (by decide)⟩ (kk _ _ (by omega) (by omega) (by decide) (by omega) (by omega) (by omega))
      · refine hO.congr (fun k j hd => ?_) (kk _ _ (by omega) (by omega) (by decide) (by omega) (by omega) (by omega))
        unfold depOwn at hd
        rcases hd with ⟨rfl, rfl⟩ | rfl | rfl | ⟨rfl, rfl⟩ | rfl | rfl
        · exact kk _ _ (by omega) (by omega) (by omega) (by omega) (by omega) (by omega)
        · exact kk _ _ (by omega) (by omega) (by omega) (by omega) (by omega) (by omega)
        · exact kk _ _ (by omega) (by omega) (by omega) (by omega) (by omega) (by omega)
        · exact kk _ _ (by omega) (by omega) (by omega) (by omega) (by omega) (by decide)
        · exact kk _ _ (by omega) (by omega) (by omega) (by omega) (by omega) (by omega)
        · exact kk _ _ (by omega) (by omega) (by omega) (by omega) (by omega) (by omega)
      · refine hK.congr2 (by rw [d1]; exact funext fun j => c1 19 j (by omega)) (fun k j hd => ?_)
        unfold depTrk at hd
        rcases hd with rfl | hd | ⟨rfl, hd⟩ | hd
        · exact kk _ _ (by omega) (by omega) (by omega) (by omega) (by omega) (by omega)
        · exact kk _ _ (by omega) (by omega) (by omega) (by omega) (by omega) (by omega)
        · refine kk _ _ (by omega) (by omega) (by omega) (by omega) (by omega) ?_
          rcases hd with rfl | rfl | rfl | rfl <;> decide
        · exact kk _ _ (by omega) (by omega) (by omega) (by omega) (by omega) (by omega)
      · refine ⟨?_, ?_⟩
        · rw [d4, d3 0 8 (by omega) (by omega) (by omega), c4]
        · rw [kk 0 9 (by omega) (by omega) (by decide) (by omega) (by omega) (by omega), kk 32 42 (by omega) (by omega) (by omega) (by omega) (by omega) (by decide)]
          exact hM.2
    · obtain ⟨M1, e1, ⟨⟨c1, c2, c3, c4, c5⟩, k1, ⟨x1, x2, x3, x4⟩, ⟨y1, y2, y3, y4⟩, y5⟩⟩ := cread_ok hr hc3 t1 ht hq h05 h04 ew (by omega) w3 hok
      have hr1 : RF (gr M1) := hr.ofr c1 c2
      have hR : Rdy M M1 c w := Rdy.of hI0 hc3 t2 ht ew (by omega) w3 hr1 (fun k j hk => c1 k j (by omega) (by omega)) (fun k j hk => k1 k j (by omega) (by omega) (by omega) (by omega) (by omega))
      obtain ⟨M2, e2, d1, d2, d3, ⟨f1, f2, f3, f4, f5⟩, d4, d5, d6, d7⟩ := mread_ok hR hok
      obtain ⟨oi, oidx, olen, z4, z3, ozw, cc1, cc8, hBk, hS⟩ := hok
      have zw' : z ≤ w := by rw [ew] at ozw; exact (nI_leI (by omega) (by omega)).mp ozw
      have kk : ∀ k j, ¬ (q ≤ k ∧ k ≤ q + 4) → k ≠ 4 → k ≠ 3 → ¬ (k = 0 ∧ (j = 8 ∨ j = 9)) → ¬ (k = 2 ∧ j = 1) → ¬ (39 ≤ k ∧ k ≤ 47) → k ≠ 60 → ¬ (k = 32 ∧ (kx j ∨ ky j)) → gi M2 k j = gi M k j := fun k j a b d e f g h i => by rw [d3 k j g h i, k1 k j a b d e f]
      have k2 : ∀ k j, k < 32 → gi M2 k j = gi M1 k j := fun k j h => d3 k j (by omega) (by omega) (by omega)
      have hTz : gi M2 40 = Tz M z := funext fun j => by
        rw [d6 j]
        unfold Tz
        by_cases g : 0 ≤ j ∧ j < nI z
        · obtain ⟨n, en, hnz⟩ := nI_of2 (n := z) (M := nI z) (nI_toInt (by omega)) (Int32.not_lt.mpr g.1) (Int32.le_of_lt g.2)
          have hlt : n < z ∨ n = z := by omega
          rw [if_pos g, if_pos g, k1 39 j (by omega) (by omega) (by omega) (by omega) (by omega)]
          subst hnz
          rcases hlt with hlt | hlt
          · exact (hbytes n (by omega)).1.symm
          · subst hlt
            exact absurd g.2 Int32.lt_irrefl
        · rw [if_neg g, if_neg g, k1 40 j (by omega) (by omega) (by omega) (by omega) (by omega)]
      have hcc : ∀ r, 0 ≤ r → r < nI cc → ∃ r' : Nat, r = nI r' ∧ r' < cc := fun r a b => by
        obtain ⟨n, en, hn'⟩ := nI_ex (x := r) (h := cc) a (Int32.le_of_lt b) (by omega)
        refine ⟨n, en, ?_⟩
        rw [en] at b
        exact (nI_ltI (by omega) (by omega)).mp b
      refine ⟨_, M1, M2, e1, e2, by rw [d1]; exact hr1, ⟨c, hc3, by rw [kk _ _ (by omega) (by omega) (by omega) (by decide) (by omega) (by omega) (by omega) (by omega)]; exact t1, by rw [kk _ _ (by omega) (by omega) (by omega) (by omega) (by omega) (by omega) (by omega) (by decide)]; exact t2, by rw [d2, c5]; exact hn, ITab.keep hc3 ht (fun k j hk => by rw [d1]; exact c1 k j (by omega) (by omega)) (fun k j hk => kk k j (by omega) (by omega) (by omega) (by omega) (by omega) (by omega) (by omega) (by omega))⟩, ?_, ⟨q, hq, by rw [d1]; exact c3, by rw [d1, c4, h04]; congr 1; omega, by rw [k2 q 1 (by omega), y1, f2], by rw [k2 q 0 (by omega), y2, f3], Or.inr ⟨i, by omega, by rw [kk _ _ (by omega) (by omega) (by omega) (by decide) (by omega) (by omega) (by omega) (by omega), t1]; exact nI_lt oi (by omega), by rw [k2 q 0 (by omega), y2], by rw [k2 q 1 (by omega), y1]; exact nI_le (a := 1) cc1 (by omega), by rw [k2 q 1 (by omega), y1]; exact nI_le (b := 8) cc8 (by decide), ?_⟩⟩, ?_, ?_, ?_⟩
      · refine ⟨by rw [k2 2 1 (by omega), x3, f5], by rw [k2 2 1 (by omega), x3]; exact nI_pos' (by omega), by rw [k2 2 1 (by omega), x3]; exact nI_le (b := 300) (by omega) (by decide), fun j a b => ?_⟩
        rw [k2 2 1 (by omega), x3] at b
        obtain ⟨n, en, hnz⟩ := nI_ex (x := j) (h := w - z) a (Int32.le_of_lt b) (by omega)
        have hlt : n < w - z := by rw [en] at b; exact (nI_ltI (by omega) (by omega)).mp b
        rw [k2 3 j (by omega), x4 j a b, d7 j a b, k1 39 _ (by omega) (by omega) (by omega) (by omega) (by omega), en, nI_add]
        exact hbytes (n + z) (by omega)
      · have hq3 : gi M2 q 3 = nI z := by rw [k2 q 3 (by omega), y3]
        refine ⟨⟨by rw [hq3]; exact nI_le (a := 4) z4 (by omega), by rw [hq3]; exact nI_le (b := 300) z3 (by decide)⟩, fun j a b => ?_, fun r a b => ?_, ?_, fun r p a b x y => ?_⟩
        · rw [hq3] at b
          rw [k2 (q + 1) j (by omega), y4 j a b, hTz]
          unfold Tz
          rw [if_pos ⟨a, b⟩]
          obtain ⟨n, en, hnz⟩ := nI_ex (x := j) (h := z) a (Int32.le_of_lt b) (by omega)
          have hlt : n < z := by rw [en] at b; exact (nI_ltI (by omega) (by omega)).mp b
          rw [en]
          exact ⟨rfl, (hbytes n (by omega)).2⟩
        · rw [k2 q 1 (by omega), y1] at b
          obtain ⟨r', er, hr'⟩ := hcc r a b
          obtain ⟨b1, b2, b3⟩ := hBk.2 r' hr'
          have hen := b2.end_
          have hle := hBk.le (by omega) (r := r') (by omega)
          have h41n : gi M2 41 (nI (r' + 1)) = nI (S (r' + 1)) := by
            by_cases g : r' + 1 = cc
            · rw [g, d5, hS]
            · exact (d4 (r' + 1) (by omega)).1
          rw [er, nI_p1, k2 (q + 2) _ (by omega), (y5 r' hr').1, (d4 r' hr').1, h41n, hq3, b3]
          exact ⟨rfl, nI_le (a := 3) hle.2 (by omega), nI_lt (by omega) (by omega), nI_le (by omega) (by omega)⟩
        · rw [k2 q 1 (by omega), y1, d5, hq3]
        · rw [k2 q 1 (by omega), y1] at b
          obtain ⟨r', er, hr'⟩ := hcc r a b
          obtain ⟨p', ep, hp'⟩ := nI_ex (x := p) (h := 21) (by grind) y (by decide)
          have hp1 : 1 ≤ p' := by rw [ep] at x; exact (nI_leI (a := 1) (by decide) (by omega)).mp x
          obtain ⟨t, rfl⟩ : ∃ t, p' = t + 1 := ⟨p' - 1, by omega⟩
          have ht21 : t < 21 := by omega
          obtain ⟨b1, ⟨b2, b2a, b2b⟩, b3⟩ := hBk.2 r' hr'
          have hen := (RcOk.end_ ⟨b2, b2a, b2b⟩).2.2
          obtain ⟨v1, v2⟩ := (y5 r' hr').2 t ht21
          obtain ⟨u1, u2⟩ := (d4 r' hr').2 t ht21
          rw [er, ep, slot_n, (dix (by omega) ht21).1, k2 (q + 4) _ (by omega), v1, u2, u1, hq3, hTz]
          refine ⟨rfl, ?_⟩
          obtain ⟨w1, w2⟩ := b2b t ht21
          cases hbit : bs (Tz M z) (nI (S r')) (nI (N r')) (nI t) with
          | false => left; rw [w2 hbit, Nat.sub_self]; rfl
          | true =>
            right
            obtain ⟨s1, s2, s3⟩ := w1 hbit
            have hk62 : gi M2 (62 + 4 * i) (nI (t + 1)) = gi M (62 + 4 * i) (nI (t + 1)) := kk _ _ (by omega) (by omega) (by omega) (by omega) (by omega) (by omega) (by omega) (by omega)
            have hci : ∀ a, cItem M2 i (Tz M z) (nI z) (nI (t + 1)) a = cItem M i (Tz M z) (nI z) (nI (t + 1)) a := fun a => cItem_of (fun k j hk => kk k j (by omega) (by omega) (by omega) (by omega) (by omega) (by omega) (by omega) (by omega)) _ _ _ a
            rw [k2 (q + 3) _ (by omega), v2 hbit, hk62, hci, s1, nI_add, show PP r' t + (PP r' (t + 1) - PP r' t) = PP r' (t + 1) by omega]
            have hpz := hen t (by omega)
            exact ⟨nI_lt (a := 0) (by omega) (by omega), rfl, nI_pos' (by omega), nI_lt (by omega) (by omega), nI_le (by omega) (by omega), nI_le (b := 300) (by omega) (by decide), b2.kind t ht21 hbit, rfl⟩
      · refine hO.congr (fun k j hd => ?_) (kk _ _ (by omega) (by omega) (by omega) (by decide) (by omega) (by omega) (by omega) (by omega))
        unfold depOwn at hd
        rcases hd with ⟨rfl, rfl⟩ | rfl | rfl | ⟨rfl, rfl⟩ | rfl | rfl
        · exact kk _ _ (by omega) (by omega) (by omega) (by omega) (by omega) (by omega) (by omega) (by omega)
        · exact kk _ _ (by omega) (by omega) (by omega) (by omega) (by omega) (by omega) (by omega) (by omega)
        · exact kk _ _ (by omega) (by omega) (by omega) (by omega) (by omega) (by omega) (by omega) (by omega)
        · exact kk _ _ (by omega) (by omega) (by omega) (by omega) (by omega) (by omega) (by omega) (by decide)
        · exact kk _ _ (by omega) (by omega) (by omega) (by omega) (by omega) (by omega) (by omega) (by omega)
        · exact kk _ _ (by omega) (by omega) (by omega) (by omega) (by omega) (by omega) (by omega) (by omega)
      · refine hK.congr2 (by rw [d1]; exact funext fun j => c1 19 j (by omega) (by omega)) (fun k j hd => ?_)
        unfold depTrk at hd
        rcases hd with rfl | hd | ⟨rfl, hd⟩ | hd
        · exact kk _ _ (by omega) (by omega) (by omega) (by omega) (by omega) (by omega) (by omega) (by omega)
        · exact kk _ _ (by omega) (by omega) (by omega) (by omega) (by omega) (by omega) (by omega) (by omega)
        · refine kk _ _ (by omega) (by omega) (by omega) (by omega) (by omega) (by omega) (by omega) ?_
          rcases hd with rfl | rfl | rfl | rfl <;> decide
        · exact kk _ _ (by omega) (by omega) (by omega) (by omega) (by omega) (by omega) (by omega) (by omega)
      · refine ⟨?_, ?_⟩
        · rw [k2 0 8 (by omega), x1, f1]
        · rw [k2 0 9 (by omega), x2, f4, k1 32 42 (by omega) (by omega) (by omega) (by omega) (by omega), hM.2]
