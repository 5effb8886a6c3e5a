/-! PURE PART: the reference's bytes of bits -/
def MB (M D : JM) : Prop := gr D = gr M ∧ gn D = gn M ∧ ∀ k j, k ≠ 47 → ¬ (k = 32 ∧ (j = 43 ∨ j = 44)) → gi D k j = gi M k j
theorem MB.refl (M : JM) : MB M M := ⟨rfl, rfl, fun _ _ _ _ => rfl⟩
theorem MB.trans {M D E : JM} (h : MB M D) (h2 : MB D E) : MB M E := ⟨h2.1.trans h.1, h2.2.1.trans h.2.1, fun k j a b => (h2.2.2 k j a b).trans (h.2.2 k j a b)⟩
theorem MB.rdd {M D : JM} (h : MB M D) {T : Int32 → Int32} {z : Nat} (hR : RdD M T z) : RdD D T z := by
  obtain ⟨a, b, c, d⟩ := hR
  exact ⟨by rw [h.1]; exact a, by rw [h.2.2 32 10 (by decide) (by decide)]; exact b, c, fun j hj => by rw [h.2.2 39 _ (by decide) (by omega)]; exact d j hj⟩
theorem MB.si {M D : JM} (h : MB M D) {k : Nat} {j v : Int32} (hk : k = 47 ∨ (k = 32 ∧ (j = 43 ∨ j = 44))) : MB M (si D k j v) := ⟨h.1, h.2.1, fun k' j' a b => by
  rw [gi_si, if_neg (fun x => by
    obtain ⟨rfl, rfl⟩ := x
    exact hk.elim a b)]
  exact h.2.2 k' j' a b⟩
theorem MB.ow {M D : JM} (h : MB M D) (lo hi : Int32) (β : Int32 → Int32) : MB M (ow D 47 lo hi β) := ⟨h.1, h.2.1, fun k' j' a b => by
  rw [gi_ow, if_neg (fun x => a x.1)]
  exact h.2.2 k' j' a b⟩
theorem nar_b : ∀ b : Bool, vp_nar .boolean (bI b) = bI b := by intro b; cases b <;> rfl
theorem ow_si {D : JM} {k : Nat} {l h : Nat} {β : Int32 → Int32} (hl : l ≤ h) (h3 : h < 2000) : si (ow D k (nI l) (nI h) β) k (nI h) (β (nI h)) = ow D k (nI l) (nI (h + 1)) β := by
  refine JM_ext (fun k' j => ?_) rfl rfl
  rw [gi_si, gi_ow, gi_ow]
  by_cases hk : k' = k
  · subst hk
    simp only [true_and]
    have e : nI (h + 1) = nI h + 1 := (nI_p1 h).symm
    have l1 : nI h < nI (h + 1) := nI_lt (by omega) (by omega)
    have l2 : nI l ≤ nI h := nI_le hl (by omega)
    by_cases hj : j = nI h
    · subst hj
      rw [if_pos rfl, if_pos ⟨l2, l1⟩]
    · rw [if_neg hj]
      have hiff : (nI l ≤ j ∧ j < nI h) ↔ (nI l ≤ j ∧ j < nI (h + 1)) := by
        rw [e] at l1 ⊢
        generalize nI h = x at *
        generalize nI l = y at *
        grind
      by_cases g : nI l ≤ j ∧ j < nI h
      · rw [if_pos g, if_pos (hiff.mp g)]
      · rw [if_neg g, if_neg (fun x => g (hiff.mpr x))]
  · simp only [hk, false_and, if_false]
theorem ow_0 {D : JM} {k : Nat} {l : Nat} {β : Int32 → Int32} : ow D k (nI l) (nI l) β = D := by
  refine JM_ext (fun k' j => ?_) rfl rfl
  rw [gi_ow, if_neg]
  rintro ⟨-, x, y⟩
  exact absurd y (Int32.not_lt.mpr x)
/-- a byte's seven bits come to the row -/
theorem lp_mbit {D : JM} (hr : RF (gr D)) {T : Int32 → Int32} {x b : Nat} (hb : b < 3) (h44 : gi D 32 44 = nI (b + 1)) (K : Nat → Int32 → Int32 → JM → Option (Unit × JM)) (most v2 n9 f p : Int32) : ∀ (n v : Nat), v ≤ 7 → 7 - v < n → f_X8_readBits_L123 K n 32 most v2 (T (nI (x + b))) (nI v) (mdM (ow D 47 (nI (7 * b + 1)) (nI (7 * b + 1 + v)) (fun j => bI (bit T (nI x) (j - 1)))) n9 f p) = K 32 most v2 (mdM (ow D 47 (nI (7 * b + 1)) (nI (7 * b + 8)) (fun j => bI (bit T (nI x) (j - 1)))) n9 f p) := by
  intro n
  induction n with
  | zero => intro v _ h; omega
  | succ n ih =>
    intro v hv hn
    rw [f_X8_readBits_L123]
    unfold f_X8_readBits_L166 f_X8_readBits_L173
    by_cases e : v = 7
    · subst e
      rw [if_neg (by decide)]
    · have hix : 7 * nI (b + 1) - 6 + nI v = nI (7 * b + 1 + v) := by
        rw [show (7 : Int32) = nI 7 from rfl, pk_mul, show (6 : Int32) = nI 6 from rfl, pk_sub (by omega), nI_add, show 7 * (b + 1) - 6 + v = 7 * b + 1 + v by omega]
      have l22 : 0 ≤ nI (7 * b + 1 + v) ∧ nI (7 * b + 1 + v) < 22 := ⟨nI_pos' (by omega), nI_lt (b := 22) (by omega) (by decide)⟩
      have hbit : ((T (nI (x + b)) >>> ((7 - nI v) &&& 31)) &&& 1 = 1) ↔ bit T (nI x) (nI (7 * b + v)) = true := by
        unfold bit
        rw [decide_eq_true_iff, d7 (by omega), show (7 * b + v) / 7 = b by omega, nI_add, show nI (7 * b + v) - nI b * 7 = nI v by rw [show (7 : Int32) = nI 7 from rfl, pk_mul, pk_sub (by omega), show 7 * b + v - b * 7 = v by omega]]
      have hstep : ∀ u : Bool, bit T (nI x) (nI (7 * b + v)) = u → (if 0 ≤ nI (7 * b + 1 + v) ∧ nI (7 * b + 1 + v) < ln 47 then (sq (si (mdM (ow D 47 (nI (7 * b + 1)) (nI (7 * b + 1 + v)) (fun j => bI (bit T (nI x) (j - 1)))) n9 f p) 47 (nI (7 * b + 1 + v)) (vp_nar .boolean (bI u))) fun M17 => sv (nI v + (1 : Int32)) fun i19 => f_X8_readBits_L123 K n 32 most v2 (T (nI (x + b))) i19 M17) else none) = K 32 most v2 (mdM (ow D 47 (nI (7 * b + 1)) (nI (7 * b + 8)) (fun j => bI (bit T (nI x) (j - 1)))) n9 f p) := by
        intro u hu
        have hβ : (fun j => bI (bit T (nI x) (j - 1))) (nI (7 * b + 1 + v)) = bI u := by
          show bI (bit T (nI x) (nI (7 * b + 1 + v) - 1)) = bI u
          rw [show 7 * b + 1 + v = 7 * b + v + 1 by omega, nI_pred, hu]
        rw [ln_47, if_pos l22, nar_b, ← hβ, sq_e, md_si (by omega), ow_si (by omega) (by omega), sv_e, nI_p1]
        exact ih (v + 1) (by omega) (by omega)
      have hg44 : gi (mdM (ow D 47 (nI (7 * b + 1)) (nI (7 * b + 1 + v)) (fun j => bI (bit T (nI x) (j - 1)))) n9 f p) 32 44 = nI (b + 1) := by
        rw [md_k (by decide), gi_ow, if_neg (by omega), h44]
      rw [if_pos (show nI v < 7 from nI_lt (b := 7) (by omega) (by decide)), Gr_md, Gr_ow, hr.r32_24, orf_e, hg44, hix]
      cases hu : bit T (nI x) (nI (7 * b + v)) with
      | true =>
        rw [if_pos (hbit.mpr hu)]
        exact hstep true hu
      | false =>
        rw [if_neg (fun y => by rw [hbit.mp y] at hu; cases hu)]
        exact hstep false hu
theorem lp_mzero {D : JM} (hr : RF (gr D)) (most v2 n9 f p : Int32) : ∀ (n v : Nat), v ≤ 22 → 22 - v < n → f_X8_readBits_L17 n 32 most v2 (nI v) (mdM (ow D 47 (nI 0) (nI v) (fun _ => bI false)) n9 f p) = f_X8_readBits_L36 FU 32 most v2 (mdM (ow D 47 (nI 0) (nI 22) (fun _ => bI false)) n9 f p) := by
  intro n
  induction n with
  | zero => intro v _ h; omega
  | succ n ih =>
    intro v hv hn
    rw [f_X8_readBits_L17]
    by_cases e : v = 22
    · subst e
      rw [if_neg (by decide)]
    · rw [if_pos (show nI v < 22 from nI_lt (b := 22) (by omega) (by decide)), Gr_md, Gr_ow, hr.r32_24, orf_e, ln_47, if_pos (show 0 ≤ nI v ∧ nI v < 22 from ⟨nI_pos' (by omega), nI_lt (b := 22) (by omega) (by decide)⟩), show vp_nar .boolean (0 : Int32) = (fun _ => bI false) (nI v) from rfl, sq_e, md_si (by omega), ow_si (by omega) (by omega), sv_e, nI_p1]
      exact ih (v + 1) (by omega) (by omega)
