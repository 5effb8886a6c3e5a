/-! PURE PART: the reference's record: the places that are named -/
def MR (M D : JM) : Prop := gr D = gr M ∧ gn D = gn M ∧ ∀ k j, ¬ (44 ≤ k ∧ k ≤ 47) → k ≠ 60 → ¬ (k = 32 ∧ (j = 20 ∨ j = 43 ∨ j = 44)) → gi D k j = gi M k j
theorem MR.refl (M : JM) : MR M M := ⟨rfl, rfl, fun _ _ _ _ _ => rfl⟩
theorem MR.trans {M D E : JM} (h : MR M D) (h2 : MR D E) : MR M E := ⟨h2.1.trans h.1, h2.2.1.trans h.2.1, fun k j a b c => (h2.2.2 k j a b c).trans (h.2.2 k j a b c)⟩
theorem MB.mr {M D : JM} (h : MB M D) : MR M D := ⟨h.1, h.2.1, fun k j a _ c => h.2.2 k j (by omega) (fun x => c ⟨x.1, Or.inr x.2⟩)⟩
theorem MR.si {M D : JM} (h : MR M D) {k : Nat} {j v : Int32} (hk : (44 ≤ k ∧ k ≤ 47) ∨ k = 60 ∨ (k = 32 ∧ (j = 20 ∨ j = 43 ∨ j = 44))) : MR M (si D k j v) := ⟨h.1, h.2.1, fun k' j' a b c => by
  rw [gi_si, if_neg (fun x => by
    obtain ⟨rfl, rfl⟩ := x
    exact hk.elim a (fun y => y.elim b c))]
  exact h.2.2 k' j' a b c⟩
theorem MR.ow {M D : JM} (h : MR M D) (lo hi : Int32) (β : Int32 → Int32) : MR M (ow D 60 lo hi β) := ⟨h.1, h.2.1, fun k' j' a b c => by
  rw [gi_ow, if_neg (fun x => b x.1)]
  exact h.2.2 k' j' a b c⟩
theorem MR.rdd {M D : JM} (h : MR M D) {T : Int32 → Int32} {z : Nat} (hR : RdD M T z) : RdD D T z := by
  obtain ⟨a, b, c, d⟩ := hR
  exact ⟨by rw [h.1]; exact a, by rw [h.2.2 32 10 (by omega) (by decide) (by decide)]; exact b, c, fun j hj => by rw [h.2.2 39 _ (by omega) (by decide) (by omega)]; exact d j hj⟩
theorem MR.cat {M D : JM} (h : MR M D) {i : Nat} (hc : ICat M i) : ICat D i := hc.congr h.1 (fun k j hd => h.2.2 k j (by unfold depCat at hd; omega) (by unfold depCat at hd; omega) (by unfold depCat at hd; omega))
theorem MR.item {M D : JM} (h : MR M D) (i : Nat) (T : Int32 → Int32) (e p a : Int32) : cItem D i T e p a = cItem M i T e p a := cItem_of (fun k j hk => h.2.2 k j (by omega) (by omega) (by omega)) T e p a
theorem lp_names {D : JM} (hr : RF (gr D)) {i : Nat} (hi : i < 3) (hc : ICat D i) {x : Nat} {p0 v3 y : Int32} {B Bf : Int32 → Bool} (hB : ∀ t, t < 21 → gi D 47 (nI (t + 1)) = bI (B (nI t))) (hBf : ∀ t, t < 21 → Bf (nI t) = (B (nI t) && (decide (v3 = 0) || decide (t < 7)))) : ∀ (n m : Nat), m ≤ 21 → 21 - m < n →
    (∀ g u, g ≠ 0 → f_X8_readRecord_L57 n 32 (nI i) (nI x) v3 (nI (m + 1)) (mdM (ow D 60 (nI 1) (nI (m + 1)) (gi D 47)) y g u) = f_X8_readRecord_L136 32 (nI i) (nI x) v3 (mdM (ow D 60 (nI 1) (nI 22) (gi D 47)) y g u)) ∧
    (sMiss Bf (kMis D i) (nI x) (21 - m) (nI m) = none → f_X8_readRecord_L57 n 32 (nI i) (nI x) v3 (nI (m + 1)) (mdM (ow D 60 (nI 1) (nI (m + 1)) (gi D 47)) y 0 p0) = f_X8_readRecord_L136 32 (nI i) (nI x) v3 (mdM (ow D 60 (nI 1) (nI 22) (gi D 47)) y 0 p0)) ∧
    (∀ u, sMiss Bf (kMis D i) (nI x) (21 - m) (nI m) = some u → f_X8_readRecord_L57 n 32 (nI i) (nI x) v3 (nI (m + 1)) (mdM (ow D 60 (nI 1) (nI (m + 1)) (gi D 47)) y 0 p0) = f_X8_readRecord_L136 32 (nI i) (nI x) v3 (mdM (ow D 60 (nI 1) (nI 22) (gi D 47)) y 5 u)) := by
  intro n
  induction n with
  | zero => intro m _ h; omega
  | succ n ih =>
    intro m hm hn
    by_cases e : m = 21
    · subst e
      refine ⟨fun g u hg => ?_, fun _ => ?_, fun u q => by rw [Nat.sub_self, sMiss] at q; cases q⟩
      · rw [f_X8_readRecord_L57, if_pos (by decide)]
      · rw [f_X8_readRecord_L57, if_pos (by decide)]
    · obtain ⟨ih0, ih1, ih2⟩ := ih (m + 1) (by omega) (by omega)
      have l22 : 0 ≤ nI (m + 1) ∧ nI (m + 1) < 22 := ⟨nI_pos' (by omega), nI_lt (b := 22) (by omega) (by decide)⟩
      obtain ⟨m1, m2, -, -⟩ := hc.mix hi (p := nI (m + 1)) ⟨l22.1, nI_le (b := 21) (by omega) (by decide)⟩
      have hkm : kMis D i (nI m) = decide (gi D (62 + 4 * i) (nI (m + 1)) = -9) := by
        show decide (gi D (62 + 4 * i) (nI m + 1) = -9) = _
        rw [nI_p1]
      have hstep : ∀ g u, f_X8_readRecord_L57 (n + 1) 32 (nI i) (nI x) v3 (nI (m + 1)) (mdM (ow D 60 (nI 1) (nI (m + 1)) (gi D 47)) y g u) = if Bf (nI m) = true ∧ gi D (62 + 4 * i) (nI (m + 1)) = -9 then (ob (f_X8_fails 32 5 (nI x + nI m / 7) (mdM (ow D 60 (nI 1) (nI (m + 1 + 1)) (gi D 47)) y g u)) fun _ N => f_X8_readRecord_L57 n 32 (nI i) (nI x) v3 (nI (m + 1 + 1)) N) else f_X8_readRecord_L57 n 32 (nI i) (nI x) v3 (nI (m + 1 + 1)) (mdM (ow D 60 (nI 1) (nI (m + 1 + 1)) (gi D 47)) y g u) := by
        intro g u
        have e47 : ∀ h : Nat, gi (mdM (ow D 60 (nI 1) (nI h) (gi D 47)) y g u) 47 (nI (m + 1)) = bI (B (nI m)) := fun h => by
          rw [md_k (by omega), gi_ow, if_neg (by omega), hB m (by omega)]
        have e34 : gi (mdM (ow D 60 (nI 1) (nI (m + 1 + 1)) (gi D 47)) y g u) 34 (22 * nI i + nI (m + 1)) = gi D (62 + 4 * i) (nI (m + 1)) := by rw [md_k (by omega), gi_ow, if_neg (by omega), m2]
        have hset : si (mdM (ow D 60 (nI 1) (nI (m + 1)) (gi D 47)) y g u) 60 (nI (m + 1)) (vp_nar .boolean (gi (mdM (ow D 60 (nI 1) (nI (m + 1)) (gi D 47)) y g u) 47 (nI (m + 1)))) = mdM (ow D 60 (nI 1) (nI (m + 1 + 1)) (gi D 47)) y g u := by
          rw [e47, nar_b, ← hB m (by omega), md_si (by omega), ow_si (by omega) (by omega)]
        rw [f_X8_readRecord_L57, if_neg (show ¬ 21 < nI (m + 1) from Int32.not_lt.mpr (nI_le (b := 21) (by omega) (by decide))), Gr_md, Gr_ow, hr.r32_45, orf_e, hr.r32_24, orf_e, ln_47, if_pos l22, ln_60, if_pos l22, hset, sq_e, Gr_md, Gr_ow, hr.r32_24, orf_e, ln_47, if_pos l22, e47]
        unfold f_X8_readRecord_L116 f_X8_readRecord_L130
        rw [nI_p1, nI_pred, sv_e, hBf m (by omega)]
        cases hb : B (nI m) with
        | false => rw [if_pos (show bI false = 0 from rfl), if_neg (by simp)]
        | true =>
          rw [if_neg (show ¬ bI true = 0 by decide), hr.r32_2, orf_e, ln_34, if_pos m1, e34, Bool.true_and]
          by_cases hk : gi D (62 + 4 * i) (nI (m + 1)) = -9
          · rw [if_pos hk]
            by_cases h3 : v3 = 0
            · rw [if_pos h3, if_pos ⟨by rw [decide_eq_true h3]; rfl, hk⟩]
              congr 1
            · rw [if_neg h3]
              by_cases h7 : m < 7
              · rw [if_pos (show nI (m + 1) < 8 from nI_lt (b := 8) (by omega) (by decide)), if_pos ⟨by rw [decide_eq_true h7, Bool.or_true], hk⟩]
                congr 1
              · rw [if_neg (show ¬ nI (m + 1) < 8 from Int32.not_lt.mpr (nI_le (a := 8) (by omega) (by omega))), if_neg (fun q => by
                  have := q.1
                  rw [decide_eq_false h7, decide_eq_false h3] at this
                  cases this)]
          · rw [if_neg hk, if_neg (fun q => hk q.2)]
      refine ⟨fun g u hg => ?_, ?_⟩
      · rw [hstep, fails_n hg, ob_e, ih0 g u hg]; split <;> rfl
      · rw [hstep, show 21 - m = 21 - (m + 1) + 1 by omega, sMiss, nI_p1, hkm]
        by_cases hb : Bf (nI m) = true ∧ gi D (62 + 4 * i) (nI (m + 1)) = -9
        · rw [if_pos hb, if_pos (by rw [hb.1, decide_eq_true hb.2]; rfl)]
          refine ⟨fun e => (by cases e), fun u e => ?_⟩
          rw [fails_y, ob_e, Option.some.inj e]
          exact ih0 5 u (by decide)
        · rw [if_neg hb, if_neg (by simpa using hb)]
          exact ⟨ih1, ih2⟩
