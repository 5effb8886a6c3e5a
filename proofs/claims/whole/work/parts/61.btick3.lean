/-! PURE PART: tick: class and reference answer alike -/
theorem frl_ptM {M : JM} {t : Nat} (h : 20 ≤ t ∧ t < 32) : FrL M (ptM M t) := by
  refine ⟨fun k j hk => ?_, fun k j _ => by rw [Gr_ptM], Gn_ptM M t⟩
  rw [gi_ptM, if_neg (by omega), if_neg (by omega), if_neg (by omega)]
theorem frl_swC {M : JM} {t : Nat} {i k : Int32} {o : Option Nat} (h : 20 ≤ t ∧ t < 32) : FrL M (swC M t i k o) := by
  refine ⟨(frl_ptM h).1, fun a j ha => ?_, Gn_ptM M t⟩
  unfold swC
  rw [gr_sr, gr_sr, if_neg (fun q => ha q.1), if_neg (fun q => ha q.1), Gr_ptM]
theorem frn_ptN (M : JM) (i : Int32) : FrN M (ptN M i) := by
  refine ⟨fun k j hk => ?_, Gr_ptN M i, Gn_ptN M i⟩
  rw [gi_ptN, if_neg (by omega), if_neg (by omega), if_neg (by omega)]
theorem frn_mvM (M : JM) (i k : Int32) : FrN M (mvM M i k) := ⟨fun a j ha => by rw [gi_mvM, if_neg (by omega)], rfl, rfl⟩
theorem lp_tick (T s : Int32) (hs : s ≤ 12) : ∀ (n : Nat) (k i : Int32) (MC MM : JM), RF (gr MC) → RF (gr MM) → gi MC 18 1 = s → gi MM 32 28 = s → 0 ≤ k → k ≤ i → i ≤ s → s.toInt - i.toInt < (n : Int) → LT MC MM T k i s → ∃ MC' MM' k', f_X6_passTick_L14 n 18 k i MC = f_X6_passTick_L70 18 k' MC' ∧ (∀ k16 v1 v2 v3, f_X8_tick_L37 k16 n 32 v1 v2 v3 k i MM = f_X8_tick_L149 k16 32 v1 v2 v3 k' MM') ∧ 0 ≤ k' ∧ k' ≤ s ∧ FrL MC MC' ∧ FrN MM MM' ∧ LT MC' MM' T k' s s := by
  intro n
  induction n with
  | zero => intro k i MC MM _ _ _ _ _ _ h1 hn; exact (up_no h1 hn).elim
  | succ n ih =>
    intro k i MC MM hr hr' g1 g2 k0 ki is hn L
    by_cases c : i < s
    · obtain ⟨π, hp, h1, h2⟩ := L
      have hi : 0 ≤ i ∧ i < 12 := by clear ih; constructor <;> grind
      have hk : 0 ≤ k ∧ k < 12 := by clear ih; constructor <;> grind
      have t7 : gi MC (π i) 7 = gi MM 55 i := (h2 i (by clear ih; grind) c).2.2.2.2.2.2.2.1
      have hpi := (hp.1 i hi.1 hi.2).2
      have e1 := ptC_step hr hp n k i hi hk (by rw [g1]; exact c)
      have e2 : ∀ k16 v1 v2 v3, _ := fun k16 v1 v2 v3 => ptN_step (k16 := k16) hr' n v1 v2 v3 k i hi hk (by rw [g2]; exact c)
      rw [t7] at e1
      by_cases c6 : gi MM 55 i + 1 < 6
      · rw [if_pos c6] at e1
        have f1 : FrL MC (swC MC (π i) i k (some (π k))) := frl_swC hpi
        have f2 : FrN MM (mvM (ptN MM i) i k) := (frn_ptN MM i).trans (frn_mvM _ i k)
        obtain ⟨MC', MM', k', a1, a2, a3, a4, a5, a6, a7⟩ := ih (k + 1) (i + 1) (swC MC (π i) i k (some (π k))) (mvM (ptN MM i) i k) (hr.of19 f1.2.1) (by rw [f2.2.1]; exact hr') (by rw [f1.1 18 1 (by omega)]; exact g1) (by rw [f2.1 32 28 (by omega)]; exact g2) (by clear ih; grind) (by clear ih; grind) (up_le c) (up_lt c hn) (LT_step k0 ki c hs hp h1 h2 c6)
        refine ⟨MC', MM', k', by rw [e1, a1], fun k16 v1 v2 v3 => ?_, a3, a4, f1.trans a5, f2.trans a6, a7⟩
        rw [e2 k16 v1 v2 v3, if_pos c6, a2]
      · rw [if_neg c6] at e1
        have f1 : FrL MC (ptM MC (π i)) := frl_ptM hpi
        have f2 : FrN MM (ptN MM i) := frn_ptN MM i
        obtain ⟨MC', MM', k', a1, a2, a3, a4, a5, a6, a7⟩ := ih k (i + 1) (ptM MC (π i)) (ptN MM i) (hr.of19 f1.2.1) (by rw [f2.2.1]; exact hr') (by rw [f1.1 18 1 (by omega)]; exact g1) (by rw [f2.1 32 28 (by omega)]; exact g2) k0 (by clear ih; grind) (up_le c) (up_lt c hn) (LT_drop k0 ki c hs hp h1 h2)
        refine ⟨MC', MM', k', by rw [e1, a1], fun k16 v1 v2 v3 => ?_, a3, a4, f1.trans a5, f2.trans a6, a7⟩
        rw [e2 k16 v1 v2 v3, if_neg c6, a2]
    · have e : i = s := by clear ih; grind
      subst e
      refine ⟨MC, MM, k, by rw [f_X6_passTick_L14, if_neg (by rw [g1]; exact c)], fun k16 v1 v2 v3 => by rw [f_X8_tick_L37, if_neg (by rw [g2]; exact c)], k0, ki, FrL.refl MC, FrN.refl MM, L⟩
def LSt (MC MM : JM) : Prop := (gi MC 18 1 = gi MM 32 28 ∧ 0 ≤ gi MC 18 1 ∧ gi MC 18 1 ≤ 12 ∧ gi MC 18 2 = gi MM 32 39 ∧ gi MC 18 4 = gi MM 32 41) ∧ ∃ π, Perm MC π ∧ ∀ j, 0 ≤ j → j < gi MC 18 1 → ITr2 MC MM (gi MM 32 41) (π j) j
abbrev trkC (k : Nat) (j : Int32) : Prop := (k = 18 ∧ (j = 1 ∨ j = 2 ∨ j = 3 ∨ j = 4)) ∨ (20 ≤ k ∧ k ≤ 31)
abbrev trkM (k : Nat) (j : Int32) : Prop := (50 ≤ k ∧ k ≤ 59) ∨ (k = 32 ∧ (j = 28 ∨ j = 39 ∨ j = 40 ∨ j = 41))
def FrC (M M' : JM) : Prop := (∀ k j, ¬ trkC k j → gi M' k j = gi M k j) ∧ (∀ k j, k ≠ 19 → gr M' k j = gr M k j) ∧ gn M' = gn M
def FrM (M M' : JM) : Prop := (∀ k j, ¬ trkM k j → gi M' k j = gi M k j) ∧ gr M' = gr M ∧ gn M' = gn M
theorem FrC.refl (M : JM) : FrC M M := ⟨fun _ _ _ => rfl, fun _ _ _ => rfl, rfl⟩
theorem FrM.refl (M : JM) : FrM M M := ⟨fun _ _ _ => rfl, rfl, rfl⟩
theorem FrC.trans {A B C : JM} (h : FrC A B) (g : FrC B C) : FrC A C := ⟨fun k j x => (g.1 k j x).trans (h.1 k j x), fun k j x => (g.2.1 k j x).trans (h.2.1 k j x), g.2.2.trans h.2.2⟩
theorem FrM.trans {A B C : JM} (h : FrM A B) (g : FrM B C) : FrM A C := ⟨fun k j x => (g.1 k j x).trans (h.1 k j x), g.2.1.trans h.2.1, g.2.2.trans h.2.2⟩
theorem FrL.C {M M' : JM} (h : FrL M M') : FrC M M' := ⟨fun k j x => h.1 k j (by unfold trkC at x; omega), h.2.1, h.2.2⟩
theorem FrN.M {M M' : JM} (h : FrN M M') : FrM M M' := ⟨fun k j x => h.1 k j (by unfold trkM at x; omega), h.2.1, h.2.2⟩
theorem FrC.si {M : JM} {j v : Int32} (h : j = 1 ∨ j = 2 ∨ j = 3 ∨ j = 4) : FrC M (si M 18 j v) := ⟨fun k j' x => by rw [gi_si, if_neg (fun q => x (Or.inl ⟨q.1, by rw [q.2]; exact h⟩))], fun _ _ _ => rfl, rfl⟩
theorem FrM.si {M : JM} {j v : Int32} (h : j = 28 ∨ j = 39 ∨ j = 40 ∨ j = 41) : FrM M (si M 32 j v) := ⟨fun k j' x => by rw [gi_si, if_neg (fun q => x (Or.inr ⟨q.1, by rw [q.2]; exact h⟩))], rfl, rfl⟩
theorem ITr2.congr {MC MC' MM MM' : JM} {T : Int32} {t : Nat} {j : Int32} (h : ITr2 MC MM T t j) (h1 : ∀ f, gi MC' t f = gi MC t f) (h2 : ∀ r, 50 ≤ r → r ≤ 59 → gi MM' r j = gi MM r j) : ITr2 MC' MM' T t j := by
  unfold ITr2 at *
  rw [h1, h1, h1, h1, h1, h1, h1, h1, h1, h2 50 (by decide) (by decide), h2 51 (by decide) (by decide), h2 52 (by decide) (by decide), h2 53 (by decide) (by decide), h2 54 (by decide) (by decide), h2 55 (by decide) (by decide), h2 56 (by decide) (by decide), h2 57 (by decide) (by decide), h2 58 (by decide) (by decide), h2 59 (by decide) (by decide)]
  exact h
theorem LSt.congr {MC MC' MM MM' : JM} (h : LSt MC MM) (h1 : ∀ k j, trkC k j → gi MC' k j = gi MC k j) (h2 : ∀ j, gr MC' 19 j = gr MC 19 j) (h3 : ∀ k j, trkM k j → gi MM' k j = gi MM k j) : LSt MC' MM' := by
  obtain ⟨a, π, b, c⟩ := h
  have e1 := h1 18 1 (Or.inl ⟨rfl, Or.inl rfl⟩)
  refine ⟨?_, π, ⟨fun j x y => by rw [h2]; exact b.1 j x y, b.2⟩, fun j x y => ?_⟩
  · rw [e1, h1 18 2 (by simp [trkC]), h1 18 4 (by simp [trkC]), h3 32 28 (by simp [trkM]), h3 32 39 (by simp [trkM]), h3 32 41 (by simp [trkM])]
    exact a
  · rw [e1] at y
    rw [h3 32 41 (by simp [trkM])]
    have hj : j < 12 := by have := a.2.2.1; grind
    have hp := (b.1 j x hj).2
    exact (c j x y).congr (fun f => h1 _ _ (Or.inr (by omega))) (fun r a b => h3 _ _ (Or.inl ⟨a, b⟩))
theorem tick1 {MC MM : JM} (hr : RF (gr MC)) (hr' : RF (gr MM)) (h : LSt MC MM) : ∃ MC' MM' d, f_X6_passTick 18 MC = some ((), MC') ∧ (∀ n v1 v2 v3, v3 < v1 → f_X8_tick_L16 (n + 1) 32 v1 v2 v3 MM = f_X8_tick_L16 n 32 v1 (v2 + d) (v3 + 1) MM') ∧ gi MC' 18 3 = gi MC 18 3 + d ∧ gi MM' 32 40 = gi MM 32 40 ∧ LSt MC' MM' ∧ FrC MC MC' ∧ FrM MM MM' := by
  obtain ⟨⟨a1, a2, a3, a4, a5⟩, π, hp, hc⟩ := h
  have q1 : FrC MC (si MC 18 4 (gi MC 18 4 + 1)) := FrC.si (by simp)
  have q2 : FrM MM (si MM 32 41 (gi MM 32 41 + 1)) := FrM.si (by simp)
  obtain ⟨MC', MM', k', b1, b2, b3, b4, b5, b6, b7⟩ := lp_tick (gi MM 32 41) (gi MC 18 1) a3 FU 0 0 (si MC 18 4 (gi MC 18 4 + 1)) (si MM 32 41 (gi MM 32 41 + 1)) hr hr' (by rw [gi_si, if_neg (fun q => absurd q.2 (by decide))]) (by rw [gi_si, if_neg (fun q => absurd q.2 (by decide)), a1]) (by decide) (by decide) a2 (up_fu (by decide) (by grind)) ⟨π, hp, fun j x y => by exfalso; clear hc; grind, fun j x y => (hc j x y).congr (fun f => by
    have hp2 := (hp.1 j x (by clear hc; grind)).2
    rw [gi_si, if_neg (by omega)]) (fun r u v => by rw [gi_si, if_neg (by omega)])⟩
  have c1 : gi MC' 18 1 = gi MC 18 1 := by rw [b5.1 18 1 (by omega), gi_si, if_neg (fun q => absurd q.2 (by decide))]
  have c2 : gi MC' 18 2 = gi MC 18 2 := by rw [b5.1 18 2 (by omega), gi_si, if_neg (fun q => absurd q.2 (by decide))]
  have c3 : gi MC' 18 3 = gi MC 18 3 := by rw [b5.1 18 3 (by omega), gi_si, if_neg (fun q => absurd q.2 (by decide))]
  have c4 : gi MC' 18 4 = gi MC 18 4 + 1 := by rw [b5.1 18 4 (by omega), gi_si, if_pos ⟨rfl, rfl⟩]
  have d1 : gi MM' 32 28 = gi MC 18 1 := by rw [b6.1 32 28 (by omega), gi_si, if_neg (fun q => absurd q.2 (by decide)), a1]
  have d2 : gi MM' 32 39 = gi MM 32 39 := by rw [b6.1 32 39 (by omega), gi_si, if_neg (fun q => absurd q.2 (by decide))]
  have d3 : gi MM' 32 40 = gi MM 32 40 := by rw [b6.1 32 40 (by omega), gi_si, if_neg (fun q => absurd q.2 (by decide))]
  have d4 : gi MM' 32 41 = gi MM 32 41 + 1 := by rw [b6.1 32 41 (by omega), gi_si, if_pos ⟨rfl, rfl⟩]
  have s1 : ∀ (A : JM) (k k' : Nat) (j j' v : Int32), ¬ (k' = k ∧ j' = j) → gi (si A k j v) k' j' = gi A k' j' := fun A k k' j j' v h => by rw [gi_si, if_neg h]
  refine ⟨si (si MC' 18 3 (gi MC' 18 3 + (gi MC' 18 1 - k'))) 18 1 k', si MM' 32 28 k', gi MC 18 1 - k', ?_, fun n v1 v2 v3 hv => ?_, ?_, ?_, ?_, ?_, ?_⟩
  · unfold f_X6_passTick
    rw [sq_e, sv_e, sv_e, b1]
    rfl
  · rw [f_X8_tick_L16, if_pos hv, sq_e, sv_e, sv_e, b2]
    unfold f_X8_tick_L149
    rw [sv_e, sq_e, sv_e, d1]
  · rw [gi_si, if_neg (fun q => absurd q.2 (by decide)), gi_si, if_pos ⟨rfl, rfl⟩, c3, c1]
  · rw [gi_si, if_neg (fun q => absurd q.2 (by decide)), d3]
  · obtain ⟨π', hp', l1, -⟩ := b7
    have e1 : gi (si (si MC' 18 3 (gi MC' 18 3 + (gi MC' 18 1 - k'))) 18 1 k') 18 1 = k' := by rw [gi_si, if_pos ⟨rfl, rfl⟩]
    refine ⟨⟨?_, ?_, ?_, ?_, ?_⟩, π', hp', fun j x y => ?_⟩
    · rw [e1, gi_si, if_pos ⟨rfl, rfl⟩]
    · rw [e1]; exact b3
    · rw [e1]; grind
    · rw [s1 _ _ _ _ _ _ (by decide), s1 _ _ _ _ _ _ (by decide), s1 _ _ _ _ _ _ (by decide), c2, d2, a4]
    · rw [s1 _ _ _ _ _ _ (by decide), s1 _ _ _ _ _ _ (by decide), s1 _ _ _ _ _ _ (by decide), c4, d4, a5]
    · rw [e1] at y
      rw [s1 _ _ _ _ _ _ (show ¬ (32 = 32 ∧ (41 : Int32) = 28) by decide), d4]
      have hp2 := (hp'.1 j x (by clear hc; grind)).2
      exact (l1 j x y).congr (fun f => by rw [s1 _ _ _ _ _ _ (by omega), s1 _ _ _ _ _ _ (by omega)]) (fun r u v => by rw [s1 _ _ _ _ _ _ (by omega)])
  · exact q1.trans (b5.C.trans ((FrC.si (by simp)).trans (FrC.si (by simp))))
  · exact q2.trans (b6.M.trans (FrM.si (by simp)))
theorem lp_ticks (d0 v1 : Int32) : ∀ (n : Nat) (v3 v2 : Int32) (MC MM : JM), RF (gr MC) → RF (gr MM) → LSt MC MM → gi MC 18 3 = d0 + v2 → gi MM 32 40 = d0 → 0 ≤ v3 → v3 ≤ v1 → v1.toInt - v3.toInt < (n : Int) → ∃ MC' MM' r, f_X7_tick_L23 n 0 v1 d0 v3 MC = some (r, MC') ∧ f_X8_tick_L16 n 32 v1 v2 v3 MM = some (r, MM') ∧ gi MC' 18 3 = gi MM' 32 40 ∧ LSt MC' MM' ∧ FrC MC MC' ∧ FrM MM MM' := by
  intro n
  induction n with
  | zero => intro v3 v2 MC MM _ _ _ _ _ _ h1 hn; exact (up_no h1 hn).elim
  | succ n ih =>
    intro v3 v2 MC MM hr hr' h h3 h40 a0 a1 hn
    by_cases c : v3 < v1
    · obtain ⟨MC', MM', d, b1, b2, b3, b4, b5, b6, b7⟩ := tick1 hr hr' h
      obtain ⟨MC'', MM'', r, c1, c2, c3, c4, c5, c6⟩ := ih (v3 + 1) (v2 + d) MC' MM' (hr.of19 b6.2.1) (by rw [b7.2.1]; exact hr') b5 (by rw [b3, h3]; clear ih b2; grind) (by rw [b4]; exact h40) (by clear ih b2; grind) (up_le c) (up_lt c hn)
      refine ⟨MC'', MM'', r, ?_, ?_, c3, c4, b6.trans c5, b7.trans c6⟩
      · rw [f_X7_tick_L23, if_pos c, hr.r0_7, orf_e, b1, ob_e, sv_e, c1]
      · rw [b2 n v1 v2 v3 c, c2]
    · refine ⟨MC, si MM 32 40 (gi MM 32 40 + v2), v2, ?_, ?_, ?_, ?_, FrC.refl MC, FrM.si (by simp)⟩
      · rw [f_X7_tick_L23, if_neg c]
        unfold f_X7_tick_L41
        rw [hr.r0_7, orf_e, h3, show d0 + v2 - d0 = v2 by clear ih; grind]
      · rw [f_X8_tick_L16, if_neg c]
        unfold f_X8_tick_L171
        rw [sq_e]
      · rw [gi_si, if_pos ⟨rfl, rfl⟩, h3, h40]
      · obtain ⟨⟨x1, x2, x3, x4, x5⟩, π, hp, hc⟩ := h
        have s1 : ∀ (A : JM) (k k' : Nat) (j j' v : Int32), ¬ (k' = k ∧ j' = j) → gi (si A k j v) k' j' = gi A k' j' := fun A k k' j j' v h => by rw [gi_si, if_neg h]
        refine ⟨⟨?_, x2, x3, ?_, ?_⟩, π, hp, fun j x y => ?_⟩
        · rw [s1 _ _ _ _ _ _ (by decide)]; exact x1
        · rw [s1 _ _ _ _ _ _ (by decide)]; exact x4
        · rw [s1 _ _ _ _ _ _ (by decide)]; exact x5
        · rw [s1 _ _ _ _ _ _ (show ¬ (32 = 32 ∧ (41 : Int32) = 40) by decide)]
          exact (hc j x y).congr (fun f => rfl) (fun r u v => by rw [s1 _ _ _ _ _ _ (by omega)])
