/-! PURE PART: tick: class and reference answer alike, end -/
theorem ICat.congr2 {M M' : JM} {i : Nat} (h : ICat M i) (hg : ∀ k j, (k = 1 ∨ 61 ≤ k) → gr M' k j = gr M k j) (hf : ∀ k j, depCat i k j → gi M' k j = gi M k j) : ICat M' i := by
  obtain ⟨h1, h2, h3, h4, h5, h6⟩ := h
  have e : ∀ k j, (k = 61 + 4 * i ∨ k = 62 + 4 * i ∨ k = 63 + 4 * i ∨ k = 64 + 4 * i ∨ (33 ≤ k ∧ k ≤ 38)) → gi M' k j = gi M k j := hf
  refine ⟨by rw [hg 1 _ (Or.inl rfl), hg _ _ (Or.inr (by omega)), hg _ _ (Or.inr (by omega)), hg _ _ (Or.inr (by omega))]; exact h1, ?_, fun p a1 a2 => ?_, ?_, fun p t a1 a2 a3 a4 => ?_, ?_⟩
  · rw [e (61 + 4 * i) 0 (by omega), e 33 _ (by omega)]; exact h2
  · rw [e (62 + 4 * i) p (by omega), e (63 + 4 * i) p (by omega), e 34 _ (by omega), e 35 _ (by omega)]; exact h3 p a1 a2
  · rw [e (62 + 4 * i) 0 (by omega)]; exact h4
  · rw [e (64 + 4 * i) _ (by omega), e 36 _ (by omega)]; exact h5 p t a1 a2 a3 a4
  · rw [e (61 + 4 * i) 4 (by omega), e (61 + 4 * i) 5 (by omega), e 37 _ (by omega), e 38 _ (by omega)]; exact h6
theorem ITab.congr2 {M M' : JM} (h : ITab M) (hg : ∀ k j, (k = 1 ∨ 61 ≤ k) → gr M' k j = gr M k j) (hn : gn M' = gn M) (hf : ∀ k j, depTab k j → gi M' k j = gi M k j) : ITab M' := by
  obtain ⟨c, h1, h2, h3, h4, h5⟩ := h
  refine ⟨c, h1, ?_, ?_, by rw [hn]; exact h4, fun i hi => (h5 i hi).congr2 hg (fun k j hd => hf k j ?_)⟩
  · rw [hf 0 1 (Or.inl ⟨rfl, rfl⟩)]; exact h2
  · rw [hf 32 0 (Or.inr (Or.inl ⟨rfl, rfl⟩))]; exact h3
  · unfold depCat at hd
    unfold depTab
    omega
theorem Inv_trk {M M' : JM} (hI : Inv M) (hg : ∀ k j, k ≠ 19 → gr M' k j = gr M k j) (hn : gn M' = gn M) (hk : ∀ k j, ¬ depTrk k j → gi M' k j = gi M k j) (hT : ITrk M') : Inv M' := by
  obtain ⟨hr, hT0, hP, hB, hO, hK, hM⟩ := hI
  refine ⟨hr.of19 hg, ?_, ?_, ?_, ?_, hT, ?_⟩
  · exact hT0.congr2 (fun k j a => hg k j (by omega)) hn (fun k j hd => hk k j (by unfold depTab at hd; unfold depTrk; grind))
  · exact hP.congr (fun k j hd => hk k j (by unfold depTape at hd; unfold depTrk; grind))
  · exact hB.congr2 (hg 0 4 (by omega)) (hg 0 5 (by omega)) (fun k j hd => hk k j (by unfold depBlk at hd; unfold depTrk; grind)) (fun i _ h => by rw [hk 0 1 (by unfold depTrk; grind)]; exact h) (fun i k j hi hx hk' => hk k j (by unfold depTrk; grind))
  · exact hO.congr (fun k j hd => hk k j (by clear hk hg hT0 hP hB hO hK hM hT; unfold depOwn at hd; unfold depTrk; grind (splits := 30))) (hk 0 1 (by unfold depTrk; grind))
  · unfold IMis
    rw [hk 0 8 (by unfold depTrk; grind), hk 0 9 (by unfold depTrk; grind), hk 32 13 (by unfold depTrk; grind), hk 32 42 (by unfold depTrk; grind)]
    exact hM
theorem LSt.of {M : JM} (h : ITrk M) : LSt M M := by
  obtain ⟨⟨a1, a2, a3, a4, a5, a6⟩, π, b1, b2, b3⟩ := h
  exact ⟨⟨a1, a2, a3, a4, a6⟩, π, ⟨b1, b2⟩, b3⟩
theorem LSt.to {M : JM} (h : LSt M M) (h3 : gi M 18 3 = gi M 32 40) : ITrk M := by
  obtain ⟨⟨a1, a2, a3, a4, a6⟩, π, ⟨b1, b2⟩, b3⟩ := h
  exact ⟨⟨a1, a2, a3, a4, h3, a6⟩, π, b1, b2, b3⟩
/-- class then reference: the state behind both is good again -/
theorem Inv_CM {M M1 M2 : JM} (hI : Inv M) (f1 : FrC M M1) (f2 : FrM M1 M2) (h : LSt M1 M2) (h3 : gi M1 18 3 = gi M2 32 40) : Inv M2 := by
  refine Inv_trk hI (fun k j a => by rw [f2.2.1]; exact f1.2.1 k j a) (by rw [f2.2.2, f1.2.2]) (fun k j a => ?_) ?_
  · have a1 : ¬ trkM k j := by unfold depTrk at a; unfold trkM; grind
    have a2 : ¬ trkC k j := by unfold depTrk at a; unfold trkC; grind
    rw [f2.1 k j a1, f1.1 k j a2]
  · have e : ∀ k j, trkC k j → gi M2 k j = gi M1 k j := fun k j a => f2.1 k j (by unfold trkC at a; unfold trkM; grind)
    exact (h.congr e (fun j => by rw [f2.2.1]) (fun _ _ _ => rfl)).to (by rw [e 18 3 (by simp [trkC]), h3])
/-- what the class left of the reference's own -/
theorem LSt.stay {MC MC' M M' : JM} (h : LSt MC M) (f : FrC M M') (e : MC' = MC) : LSt MC' M' := by
  subst e
  exact h.congr (fun _ _ _ => rfl) (fun _ => rfl) (fun k j a => f.1 k j (by unfold trkM at a; unfold trkC; grind))
theorem eq_tick {M : JM} (hI : Inv M) (v : Int32) : Eqi M (f_X7_tick 0 v) (f_X8_tick 32 v) := by
  have hI0 := hI
  obtain ⟨hr, hT, hP, hB, hO, hK, hM⟩ := hI
  by_cases hv : 1 ≤ v ∧ v ≤ 20
  · have e3 : gi M 18 3 = gi M 32 40 := hK.1.2.2.2.2.1
    have hm : v.toInt - (0 : Int32).toInt < (FU : Int) := up_fu (by decide) (by grind)
    have go : ∀ M1, RF (gr M1) → LSt M M1 → gi M1 32 40 = gi M 18 3 → _ := fun M1 h1 h2 h3 => lp_ticks (gi M 18 3) v FU 0 0 M M1 hr h1 h2 (by grind) h3 (by decide) (by grind) hm
    obtain ⟨M1, -, r, b1, -, -, -, f1, -⟩ := go M hr (LSt.of hK) e3.symm
    obtain ⟨MC', M2, r', c1, c2, c3, c4, c5, c6⟩ := go M1 (hr.of19 f1.2.1) ((LSt.of hK).stay f1 rfl) (by rw [f1.1 32 40 (by simp [trkC]), e3])
    rw [b1] at c1
    have e := Option.some.inj c1
    have er : r = r' := congrArg Prod.fst e
    have em : M1 = MC' := congrArg Prod.snd e
    subst er
    subst em
    refine ⟨r, M1, M2, ?_, ?_, Inv_CM hI0 f1 c6 c4 c3⟩
    · unfold f_X7_tick
      rw [if_neg (by grind), if_neg (by grind), hr.r0_7, orf_e, sv_e, sv_e, b1]
    · unfold f_X8_tick
      rw [in_t _ hv, ob_e, if_pos rfl, sv_e, sv_e, c2]
  · refine Eqi.same hI0 (r := -1) ?_ ?_
    · unfold f_X7_tick
      by_cases a : v < 1
      · rw [if_pos a]
      · rw [if_neg a, if_pos (by grind)]
    · unfold f_X8_tick
      rw [in_f M hv, ob_e, if_neg (by decide)]
