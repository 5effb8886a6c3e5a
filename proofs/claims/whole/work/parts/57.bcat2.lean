/-! PURE PART: category: class and reference answer alike -/
theorem gi_catC {M : JM} {c : Nat} {v : Int32} (hn : gn M = 61 + 4 * c) (k : Nat) (j : Int32) : gi (catC M c v) k j = if k = 0 ∧ j = 1 then nI (c + 1) else if k = 62 + 4 * c ∧ 0 ≤ j ∧ j < 22 then -9 else if k = 64 + 4 * c then 0 else if k = 63 + 4 * c then 0 else if k = 62 + 4 * c then 0 else if k = 61 + 4 * c ∧ j = 0 then v else if k = 61 + 4 * c then 0 else gi M k j := by
  unfold catC
  rw [gi_si, gi_sr, gi_fil, gi_sr, gi_al, gi_sr, gi_al, gi_sr, gi_al, gi_si, gi_al, Gn_sr, gn_al, Gn_sr, gn_al, Gn_si, gn_al, hn, show 61 + 4 * c + 1 = 62 + 4 * c by omega, show 62 + 4 * c + 1 = 63 + 4 * c by omega, show 63 + 4 * c + 1 = 64 + 4 * c by omega]
theorem gr_catC {M : JM} {c : Nat} {v : Int32} (hn : gn M = 61 + 4 * c) (k : Nat) (j : Int32) : gr (catC M c v) k j = if k = 1 ∧ j = nI c then some (61 + 4 * c) else if k = 61 + 4 * c ∧ j = 3 then some (64 + 4 * c) else if k = 64 + 4 * c then none else if k = 61 + 4 * c ∧ j = 2 then some (63 + 4 * c) else if k = 63 + 4 * c then none else if k = 61 + 4 * c ∧ j = 1 then some (62 + 4 * c) else if k = 62 + 4 * c then none else if k = 61 + 4 * c then none else gr M k j := by
  unfold catC
  rw [gr_si, gr_sr, Gr_fil, gr_sr, gr_al, gr_sr, gr_al, gr_sr, gr_al, gr_si, gr_al, Gn_sr, gn_al, Gn_sr, gn_al, Gn_si, gn_al, hn, show 61 + 4 * c + 1 = 62 + 4 * c by omega, show 62 + 4 * c + 1 = 63 + 4 * c by omega, show 63 + 4 * c + 1 = 64 + 4 * c by omega]
theorem gi_catM (M : JM) (c : Nat) (v : Int32) (k : Nat) (j : Int32) : gi (catM M c v) k j = if k = 32 ∧ j = 0 then nI (c + 1) else if k = 36 ∧ 14 * (22 * nI c + 0) ≤ j ∧ j < 14 * (22 * nI c + 22) then 0 else if k = 35 ∧ 22 * nI c + 0 ≤ j ∧ j < 22 * nI c + 22 then 0 else if k = 34 ∧ 22 * nI c + 0 ≤ j ∧ j < 22 * nI c + 22 then -9 else if k = 38 ∧ j = nI c then -9 else if k = 37 ∧ j = nI c then -9 else if k = 33 ∧ j = nI c then v else gi M k j := by
  unfold catM
  rw [gi_si, gi_fil3, gi_si, gi_si, gi_si]
theorem Gr_catM (M : JM) (c : Nat) (v : Int32) : gr (catM M c v) = gr M := rfl
theorem Gn_catM (M : JM) (c : Nat) (v : Int32) : gn (catM M c v) = gn M := rfl
theorem Gn_catC {M : JM} {c : Nat} {v : Int32} (hn : gn M = 61 + 4 * c) : gn (catC M c v) = 61 + 4 * (c + 1) := by
  unfold catC
  rw [Gn_si, Gn_sr, Gn_fil, Gn_sr, gn_al, Gn_sr, gn_al, Gn_sr, gn_al, Gn_si, gn_al, hn]
  omega
theorem catM_old {M : JM} {c : Nat} {v : Int32} {k : Nat} {j : Int32} (h : k < 33 ∨ 38 < k) (h2 : ¬ (k = 32 ∧ j = 0)) : gi (catM M c v) k j = gi M k j := by
  rw [gi_catM, if_neg h2, if_neg (by omega), if_neg (by omega), if_neg (by omega), if_neg (by omega), if_neg (by omega), if_neg (by omega)]
theorem catC_old {M : JM} {c : Nat} {v : Int32} {k : Nat} {j : Int32} (hn : gn M = 61 + 4 * c) (h : k < 61 + 4 * c) (h2 : ¬ (k = 0 ∧ j = 1)) : gi (catC M c v) k j = gi M k j := by
  rw [gi_catC hn, if_neg h2, if_neg (by omega), if_neg (by omega), if_neg (by omega), if_neg (by omega), if_neg (by omega), if_neg (by omega)]
theorem catC_oldr {M : JM} {c : Nat} {v : Int32} {k : Nat} {j : Int32} (hn : gn M = 61 + 4 * c) (h : k < 61 + 4 * c) (h2 : ¬ (k = 1 ∧ j = nI c)) : gr (catC M c v) k j = gr M k j := by
  rw [gr_catC hn, if_neg h2, if_neg (by omega), if_neg (by omega), if_neg (by omega), if_neg (by omega), if_neg (by omega), if_neg (by omega), if_neg (by omega)]
theorem RF.of {g g' : Nat → Int32 → Option Nat} (h : RF g) (e : ∀ k j, k ≠ 1 → k < 61 → g' k j = g k j) : RF g' := by
  unfold RF at *
  simp only [e _ _ (show (0 : Nat) ≠ 1 by decide) (by decide), e _ _ (show (2 : Nat) ≠ 1 by decide) (by decide), e _ _ (show (4 : Nat) ≠ 1 by decide) (by decide), e _ _ (show (5 : Nat) ≠ 1 by decide) (by decide), e _ _ (show (10 : Nat) ≠ 1 by decide) (by decide), e _ _ (show (15 : Nat) ≠ 1 by decide) (by decide), e _ _ (show (18 : Nat) ≠ 1 by decide) (by decide), e _ _ (show (32 : Nat) ≠ 1 by decide) (by decide)]
  exact h
theorem ICat_new {M : JM} {c : Nat} {v : Int32} (hc : c < 3) (hn : gn M = 61 + 4 * c) (hv : 1 ≤ v ∧ v ≤ 255) : ICat (catM (catC M c v) c v) c := by
  have hx : ∃ x : Int32, 22 * nI c = x ∧ 0 ≤ x ∧ x ≤ 44 := by
    refine ⟨_, rfl, ?_⟩
    rcases nI3 hc with ⟨-, h⟩ | ⟨-, h⟩ | ⟨-, h⟩ <;> rw [h] <;> decide
  obtain ⟨x, hx, x0, x1⟩ := hx
  have a62 : ∀ p, 0 ≤ p → p ≤ 21 → gi (catM (catC M c v) c v) (62 + 4 * c) p = -9 := by
    intro p h0 h1
    rw [catM_old (by omega) (by omega), gi_catC hn, if_neg (by omega), if_pos ⟨rfl, h0, by grind⟩]
  refine ⟨⟨?_, ?_, ?_, ?_⟩, ?_, fun p h0 h1 => ?_, a62 0 (by decide) (by decide), fun p t h0 h1 h2 h3 => ?_, ?_⟩
  · rw [Gr_catM, gr_catC hn, if_pos ⟨rfl, rfl⟩]
  · rw [Gr_catM, gr_catC hn, if_neg (by omega), if_neg (fun q => absurd q.2 (by decide)), if_neg (by omega), if_neg (fun q => absurd q.2 (by decide)), if_neg (by omega), if_pos ⟨rfl, rfl⟩]
  · rw [Gr_catM, gr_catC hn, if_neg (by omega), if_neg (fun q => absurd q.2 (by decide)), if_neg (by omega), if_pos ⟨rfl, rfl⟩]
  · rw [Gr_catM, gr_catC hn, if_neg (by omega), if_pos ⟨rfl, rfl⟩]
  · have e1 : gi (catM (catC M c v) c v) (61 + 4 * c) 0 = v := by
      rw [catM_old (by omega) (by omega), gi_catC hn, if_neg (by omega), if_neg (by omega), if_neg (by omega), if_neg (by omega), if_neg (by omega), if_pos ⟨rfl, rfl⟩]
    have e2 : gi (catM (catC M c v) c v) 33 (nI c) = v := by
      rw [gi_catM, if_neg (by omega), if_neg (by omega), if_neg (by omega), if_neg (by omega), if_neg (by omega), if_neg (by omega), if_pos ⟨rfl, rfl⟩]
    rw [e1, e2]
    exact ⟨rfl, hv⟩
  · have e2 : gi (catM (catC M c v) c v) 34 (22 * nI c + p) = -9 := by
      rw [gi_catM, if_neg (by omega), if_neg (by omega), if_neg (by omega), hx, if_pos ⟨rfl, by grind, by grind⟩]
    have e3 : gi (catM (catC M c v) c v) 35 (22 * nI c + p) = 0 := by
      rw [gi_catM, if_neg (by omega), if_neg (by omega), hx, if_pos ⟨rfl, by grind, by grind⟩]
    have e4 : gi (catM (catC M c v) c v) (63 + 4 * c) p = 0 := by
      rw [catM_old (by omega) (by omega), gi_catC hn, if_neg (by omega), if_neg (by omega), if_neg (by omega), if_pos rfl]
    rw [a62 p h0 h1, e2, e3, e4]
    exact ⟨rfl, rfl, Or.inr (Or.inr (Or.inr (Or.inr ⟨rfl, rfl⟩)))⟩
  · have e1 : gi (catM (catC M c v) c v) (64 + 4 * c) (p * 14 + t) = 0 := by
      rw [catM_old (by omega) (by omega), gi_catC hn, if_neg (by omega), if_neg (by omega), if_pos rfl]
    have e2 : gi (catM (catC M c v) c v) 36 (14 * (22 * nI c + p) + t) = 0 := by
      rw [gi_catM, if_neg (by omega), hx, if_pos ⟨rfl, by grind, by grind⟩]
    rw [e1, e2]
    exact ⟨rfl, by decide, by decide⟩
  · have e1 : ∀ j, ¬ j = 0 → gi (catM (catC M c v) c v) (61 + 4 * c) j = 0 := by
      intro j hj
      rw [catM_old (by omega) (by omega), gi_catC hn, if_neg (by omega), if_neg (by omega), if_neg (by omega), if_neg (by omega), if_neg (by omega), if_neg (fun q => hj q.2), if_pos rfl]
    have e2 : gi (catM (catC M c v) c v) 37 (nI c) = -9 := by
      rw [gi_catM, if_neg (by omega), if_neg (by omega), if_neg (by omega), if_neg (by omega), if_neg (by omega), if_pos ⟨rfl, rfl⟩]
    have e3 : gi (catM (catC M c v) c v) 38 (nI c) = -9 := by
      rw [gi_catM, if_neg (by omega), if_neg (by omega), if_neg (by omega), if_neg (by omega), if_pos ⟨rfl, rfl⟩]
    rw [e1 4 (by decide), e1 5 (by decide), e2, e3]
    exact Or.inl ⟨rfl, rfl, rfl, rfl⟩
theorem ap34 {x y p : Int32} (x0 : 0 ≤ x) (x2 : x ≤ 22) (xy : x + 22 ≤ y) (y1 : y ≤ 44) (h0 : 0 ≤ p) (h1 : p ≤ 21) (A : Prop) : ¬ (A ∧ y + 0 ≤ x + p ∧ x + p < y + 22) := by
  rintro ⟨-, a, b⟩
  grind
theorem ap36a {u y t : Int32} (u0 : 0 ≤ u) (uy : u < y) (y1 : y ≤ 44) (h2 : 0 ≤ t) (h3 : t < 14) : ¬ 14 * (y + 0) ≤ 14 * u + t := by
  intro a
  grind
theorem ap36 {x y p t : Int32} (x0 : 0 ≤ x) (x2 : x ≤ 22) (xy : x + 22 ≤ y) (y1 : y ≤ 44) (h0 : 0 ≤ p) (h1 : p ≤ 21) (h2 : 0 ≤ t) (h3 : t < 14) (A : Prop) : ¬ (A ∧ 14 * (y + 0) ≤ 14 * (x + p) + t ∧ 14 * (x + p) + t < 14 * (y + 22)) := by
  rintro ⟨-, a, -⟩
  exact ap36a (u := x + p) (by grind) (by grind) y1 h2 h3 a
theorem ICat_old {M : JM} {c i : Nat} {v : Int32} (hc : c < 3) (hi : i < c) (hn : gn M = 61 + 4 * c) (h : ICat M i) : ICat (catM (catC M c v) c v) i := by
  obtain ⟨⟨c1, c1', c1'', c1'''⟩, c2, c3, c4, c5, c6⟩ := h
  have hne : ¬ nI i = nI c := nI_ne3 hc (by omega) (by omega)
  have a1 : ∀ k j, 61 ≤ k → k < 61 + 4 * c → gi (catM (catC M c v) c v) k j = gi M k j := by
    intro k j h1 h2
    rw [catM_old (by omega) (by omega), catC_old hn h2 (by omega)]
  have a2 : ∀ k, (k = 33 ∨ k = 37 ∨ k = 38) → gi (catM (catC M c v) c v) k (nI i) = gi M k (nI i) := by
    intro k hk
    rw [gi_catM, if_neg (by omega), if_neg (by omega), if_neg (by omega), if_neg (by omega), if_neg (fun q => hne q.2), if_neg (fun q => hne q.2), if_neg (fun q => hne q.2), catC_old hn (by omega) (by omega)]
  have xs : ∃ x y : Int32, 22 * nI i = x ∧ 22 * nI c = y ∧ 0 ≤ x ∧ x ≤ 22 ∧ x + 22 ≤ y ∧ y ≤ 44 := by
    refine ⟨_, _, rfl, rfl, ?_⟩
    rcases nI3 hc with ⟨e, h⟩ | ⟨e, h⟩ | ⟨e, h⟩ <;> rcases nI3 (show i < 3 by omega) with ⟨e', h'⟩ | ⟨e', h'⟩ | ⟨e', h'⟩ <;> first | (exfalso; omega) | (rw [h, h']; decide)
  obtain ⟨x, y, hx, hy, x0, x2, xy, y1⟩ := xs
  refine ⟨⟨?_, ?_, ?_, ?_⟩, ?_, fun p h0 h1 => ?_, ?_, fun p t h0 h1 h2 h3 => ?_, ?_⟩
  · rw [Gr_catM, catC_oldr hn (by omega) (fun q => hne q.2)]; exact c1
  · rw [Gr_catM, catC_oldr hn (by omega) (by omega)]; exact c1'
  · rw [Gr_catM, catC_oldr hn (by omega) (by omega)]; exact c1''
  · rw [Gr_catM, catC_oldr hn (by omega) (by omega)]; exact c1'''
  · rw [a1 (61 + 4 * i) _ (by omega) (by omega), a2 33 (by omega)]; exact c2
  · have e2 : gi (catM (catC M c v) c v) 34 (22 * nI i + p) = gi M 34 (22 * nI i + p) := by
      rw [gi_catM, if_neg (by omega), if_neg (by omega), if_neg (by omega), hx, hy, if_neg (ap34 x0 x2 xy y1 h0 h1 _), if_neg (by omega), if_neg (by omega), if_neg (by omega), catC_old hn (by omega) (by omega)]
    have e3 : gi (catM (catC M c v) c v) 35 (22 * nI i + p) = gi M 35 (22 * nI i + p) := by
      rw [gi_catM, if_neg (by omega), if_neg (by omega), hx, hy, if_neg (ap34 x0 x2 xy y1 h0 h1 _), if_neg (by omega), if_neg (by omega), if_neg (by omega), if_neg (by omega), catC_old hn (by omega) (by omega)]
    rw [a1 (62 + 4 * i) _ (by omega) (by omega), a1 (63 + 4 * i) _ (by omega) (by omega), e2, e3]
    exact c3 p h0 h1
  · rw [a1 _ _ (by omega) (by omega)]; exact c4
  · have e2 : gi (catM (catC M c v) c v) 36 (14 * (22 * nI i + p) + t) = gi M 36 (14 * (22 * nI i + p) + t) := by
      rw [gi_catM, if_neg (by omega), hx, hy, if_neg (ap36 x0 x2 xy y1 h0 h1 h2 h3 _), if_neg (by omega), if_neg (by omega), if_neg (by omega), if_neg (by omega), if_neg (by omega), catC_old hn (by omega) (by omega)]
    rw [a1 (64 + 4 * i) _ (by omega) (by omega), e2]
    exact c5 p t h0 h1 h2 h3
  · rw [a1 (61 + 4 * i) 4 (by omega) (by omega), a1 (61 + 4 * i) 5 (by omega) (by omega), a2 37 (by omega), a2 38 (by omega)]; exact c6
theorem eq_category {M : JM} (hI : Inv M) (v : Int32) : Eqi M (f_X7_category 0 v) (f_X8_category 32 v) := by
  have hI0 := hI
  obtain ⟨hr, ⟨c, hc3, t1, t2, hn, ht⟩, hP, hB, hO, hK, hM⟩ := hI
  by_cases hv : 1 ≤ v ∧ v ≤ 255
  · have h1 : f_X7_indexOfNumber 0 v M = some (fnd (fun i => gi M (61 + 4 * i) 0) v c 0, M) := by
      unfold f_X7_indexOfNumber
      exact lp_index hr hc3 t1 ht v FU 0 (by omega) (by show _ < 4096; omega)
    have h2 : f_X8_find 32 v M = some (fnd (fun i => gi M (61 + 4 * i) 0) v c 0, M) := by
      unfold f_X8_find
      rw [fnd_congr c 0 (fun j _ hj => (ht j (by omega)).2.1.1)]
      exact lp_find hr hc3 t2 v FU 0 (by omega) (by show _ < 4096; omega)
    rcases fnd_cases (f := fun i => gi M (61 + 4 * i) 0) (v := v) c 0 with hf | ⟨j, j1, j2, hf, -⟩
    · rw [hf] at h1 h2
      by_cases hc : c = 3
      · subst hc
        refine Eqi.same hI0 (r := -3) ?_ ?_
        · unfold f_X7_category
          rw [if_neg (by grind), if_neg (by grind), h1, ob_e, if_pos rfl, t1, if_neg (by decide)]
        · unfold f_X8_category
          rw [in_eq, ob_e, decide_eq_true hv, if_pos rfl, h2, ob_e, if_pos (by decide), t2, if_pos (show nI 3 = 3 from rfl)]
      · have hc2 : c < 3 := by omega
        have hr1 : RF (gr (catC M c v)) := hr.of (fun k j a b => catC_oldr hn (by omega) (fun q => a q.1))
        have e32 : gi (catC M c v) 32 0 = nI c := by rw [catC_old hn (by omega) (by omega)]; exact t2
        have hf1 : f_X8_find 32 v (catC M c v) = some (-9, catC M c v) := by
          unfold f_X8_find
          rw [← hf, fnd_congr c 0 (g := fun i => gi (catC M c v) 33 (nI i)) (fun j _ hj => by
            rw [catC_old hn (by omega) (by omega)]
            exact (ht j (by omega)).2.1.1)]
          exact lp_find hr1 hc3 e32 v FU 0 (by omega) (by show _ < 4096; omega)
        have kp : ∀ k j, k < 61 → ¬ (33 ≤ k ∧ k ≤ 38) → ¬ (k = 0 ∧ j = 1) → ¬ (k = 32 ∧ j = 0) → gi (catM (catC M c v) c v) k j = gi M k j := by
          intro k j a1 a2 a3 a4
          rw [catM_old (by omega) a4, catC_old hn (by omega) a3]
        have kr : ∀ k j, k < 61 → k ≠ 1 → gr (catM (catC M c v) c v) k j = gr M k j := by
          intro k j a1 a2
          rw [Gr_catM, catC_oldr hn (by omega) (fun q => a2 q.1)]
        refine ⟨_, _, _, cCategory_new hr hc2 t1 hn v hv h1, mCategory_new hr1 hc2 e32 v hv hf1, hr1, ⟨c + 1, by omega, ?_, ?_, ?_, fun i hi => ?_⟩, ?_, ?_, ?_, ?_, ?_⟩
        · rw [catM_old (by omega) (by omega), gi_catC hn, if_pos ⟨rfl, rfl⟩]
        · rw [gi_catM, if_pos ⟨rfl, rfl⟩]
        · rw [Gn_catM, Gn_catC hn]
        · by_cases hic : i = c
          · subst hic
            exact ICat_new hc2 hn hv
          · exact ICat_old hc2 (by omega) hn (ht i (by omega))
        · exact hP.congr (fun k j hd => by unfold depTape at hd; exact kp k j (by omega) (by omega) (by omega) (by grind))
        · refine hB.congr2 (kr _ _ (by omega) (by omega)) (kr _ _ (by omega) (by omega)) (fun k j hd => by unfold depBlk at hd; exact kp k j (by omega) (by omega) (by omega) (by grind)) (fun i hi h => ?_) (fun i k j hi hx hk => ?_)
          · rw [catM_old (by omega) (by omega), gi_catC hn, if_pos ⟨rfl, rfl⟩]
            rw [t1] at h
            exact Int32.lt_trans h (nI_lt (by omega) (by omega))
          · have hic : i < c := by
              obtain ⟨q, hq, hB1, hB2, hB3, hB4, hB5⟩ := hB
              obtain ⟨q', hq', e1, e2⟩ := hx
              have hqq : q' = q := by
                rw [hB1] at e1
                exact (Option.some.inj e1).symm
              subst hqq
              rcases hB5 with ⟨-, b⟩ | ⟨i', b1, b2, b3, -⟩
              · rw [b] at e2
                have : 0 ≤ nI i := nI_pos' (by omega)
                rw [← e2] at this
                exact absurd this (by decide)
              · rw [t1] at b2
                have := (nI_ltI (by omega) (by omega)).mp b2
                have e := nI_inj (by omega) (by omega) (e2.symm.trans b3)
                omega
            rw [catM_old (by omega) (by omega), catC_old hn (by omega) (by omega)]
        · refine hO.congr2 (fun k j hd => by unfold depOwn at hd; exact kp k j (by omega) (by omega) (by omega) (by grind)) (fun i hi h => ?_)
          rw [catM_old (by omega) (by omega), gi_catC hn, if_pos ⟨rfl, rfl⟩]
          rw [t1] at h
          exact Int32.lt_trans h (nI_lt (by omega) (by omega))
        · exact hK.congr2 (funext fun j => kr 19 j (by omega) (by omega)) (fun k j hd => by unfold depTrk at hd; exact kp k j (by omega) (by omega) (by omega) (by grind))
        · unfold IMis
          rw [kp 0 _ (by omega) (by omega) (fun q => absurd q.2 (by decide)) (by omega), kp 0 _ (by omega) (by omega) (fun q => absurd q.2 (by decide)) (by omega), kp 32 _ (by omega) (by omega) (by omega) (fun q => absurd q.2 (by decide)), kp 32 _ (by omega) (by omega) (by omega) (fun q => absurd q.2 (by decide))]
          exact hM
    · rw [hf] at h1 h2
      have hj : 0 ≤ nI j := nI_pos' (by omega)
      refine Eqi.same hI0 (r := -1) ?_ ?_
      · unfold f_X7_category
        rw [if_neg (by grind), if_neg (by grind), h1, ob_e, if_neg (by intro q; rw [q] at hj; exact absurd hj (by decide))]
      · unfold f_X8_category
        rw [in_eq, ob_e, decide_eq_true hv, if_pos rfl, h2, ob_e, if_neg (Int32.not_lt.mpr hj)]
  · refine Eqi.same hI0 (r := -1) ?_ ?_
    · unfold f_X7_category
      by_cases a : v < 1
      · rw [if_pos a]
      · rw [if_neg a, if_pos (by grind)]
    · unfold f_X8_category
      rw [in_eq, ob_e, decide_eq_false hv, if_neg (by decide)]
