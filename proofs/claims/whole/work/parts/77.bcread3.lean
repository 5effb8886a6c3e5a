/-! PURE PART: read, the class: a block that is whole -/
def FrG (q i z w cc : Nat) (T : Int32 → Int32) (S N : Nat → Nat) (PP : Nat → Nat → Nat) (M M1 : JM) : Prop :=
  ((∀ k j, ¬ (k = 4 ∧ j = 1) → k ≠ 0 → gr M1 k j = gr M k j) ∧ (∀ j, j ≠ 4 → j ≠ 5 → gr M1 0 j = gr M 0 j) ∧ gr M1 0 4 = some q ∧ gr M1 0 5 = gr M 0 4 ∧ gn M1 = gn M) ∧
  (∀ k j, ¬ (q ≤ k ∧ k ≤ q + 4) → k ≠ 4 → k ≠ 3 → ¬ (k = 0 ∧ (j = 8 ∨ j = 9)) → ¬ (k = 2 ∧ j = 1) → gi M1 k j = gi M k j) ∧
  (gi M1 0 8 = 0 ∧ gi M1 0 9 = gi M 0 9 + 1 ∧ gi M1 2 1 = nI (w - z) ∧ ∀ j, 0 ≤ j → j < nI (w - z) → gi M1 3 j = gi M 3 (j + nI z)) ∧
  (gi M1 q 1 = nI cc ∧ gi M1 q 0 = nI i ∧ gi M1 q 3 = nI z ∧ ∀ j, 0 ≤ j → j < nI z → gi M1 (q + 1) j = gi M 3 j) ∧
  ∀ r', r' < cc → gi M1 (q + 2) (nI r') = nI (S r') ∧ ∀ t, t < 21 → gi M1 (q + 4) (nI (21 * r' + t)) = nI (PP r' (t + 1) - PP r' t) ∧ (bs T (nI (S r')) (nI (N r')) (nI t) = true → gi M1 (q + 3) (nI (21 * r' + t)) = nI (PP r' t))
theorem keep_eq {A : JM} (hr : RF (gr A)) {q : Nat} (hq : q = 5 ∨ q = 10) {z : Nat} (hz : z ≤ 300) : f_X0_keepBytes q 3 (nI z) A = some ((), si (cpm A 3 0 (q + 1) 0 (nI z)) q 3 (nI z)) := by
  have l0 : 0 ≤ nI z := nI_pos' (by omega)
  have l2 : nI z < 2000 := nI_lt (b := 2000) (by omega) (by decide)
  have l3 : 0 + nI z ≤ 300 := by rw [show (0 : Int32) + nI z = nI z by simp]; exact nI_le (b := 300) hz (by decide)
  unfold f_X0_keepBytes
  rw [(hr.rq hq).1, orf_e, (ln_q hq).1, ln_3, if_pos ⟨by decide, by decide, by decide, by decide, l0, l2, l3, l3⟩, sq_e, sq_e]
theorem cread_ok {M : JM} (hr : RF (gr M)) {c : Nat} (hc3 : c ≤ 3) (hc : gi M 0 1 = nI c) (ht : ∀ i, i < c → ICat M i) {q : Nat} (hq : q = 5 ∨ q = 10) (h05 : gr M 0 5 = some q) {q' : Nat} (h04 : gr M 0 4 = some q') {w : Nat} (hw : gi M 2 1 = nI w) (hw0 : 0 < w) (hw3 : w ≤ 300) {i z cc : Nat} {S N : Nat → Nat} {PP : Nat → Nat → Nat} (hO : RdOk M c i z cc S N PP) : ∃ M1, f_X7_read 0 M = some (nI cc, M1) ∧ FrG q i z w cc (Tz M z) S N PP M M1 := by
  obtain ⟨a, b, d, z4, z3, zw, cc1, cc8, hB, hS⟩ := hO
  have zw' : z ≤ w := by rw [hw] at zw; exact (nI_leI (by omega) (by omega)).mp zw
  obtain ⟨-, -, p3⟩ := cpb_eq hr hc3 hc ht hq h05 (gi (clM M q) 4 5)
  have e := p3 i a b (by rw [d]; exact Int32.not_lt.mpr (nI_le (a := 4) z4 (by omega))) (by rw [d]; exact Int32.not_lt.mpr zw)
  obtain ⟨b1, b2, b3⟩ := bg_base hr hc3 ht hq (q := q) a z3
  obtain ⟨x1, x2, x3⟩ := bg_cnt (M := M) hq i (nI z)
  have hB' := (BkT_of (B := bgM M q i (nI z)) (fun k j hk => bg_k (by omega) (by omega) (by omega)) (Tz M z) z cc S N PP).mpr hB
  obtain ⟨C, f1, f2, g1, g2, g3, -⟩ := cblk_ok b1 (gi (clM M q) 4 5) (by omega) b2 b3 hq (by rw [bg_r (by omega)]; exact h05) x1 x3 cc8 hB' hS
  rw [d, f1] at e
  have hgC : ∀ k j, ¬ (k = 4 ∧ j = 1) → gr C k j = gr M k j := fun k j g => by rw [f2.1]; exact bg_r g
  have hkC : ∀ k j, ¬ (q ≤ k ∧ k ≤ q + 4) → k ≠ 4 → gi C k j = gi M k j := fun k j g1 g2 => by rw [f2.2.2 k j g1]; exact bg_k (by omega) (by omega) g2
  have hC43 : gi C 4 3 = nI z := by
    rw [f2.2.2 4 3 (by omega)]
    unfold bgM
    rw [gi_si, if_pos ⟨rfl, rfl⟩]
  have hrC : RF (gr C) := hr.ofr (fun k j a _ => hgC k j a) (fun j _ _ => hgC 0 j (by omega))
  have hgo := (cread_go hr hq h05 (by rw [hw]; exact nI_ne0 hw0 (by omega)) hgC e).2 rfl
  rw [hC43] at hgo
  generalize hA : si (rdM C (nI z) 0 (gi (clM M q) 4 5)) 0 8 0 = A at hgo
  have hgA : gr A = gr C := by rw [← hA]; rfl
  have hnA : gn A = gn M := by rw [← hA]; exact f2.2.1
  have hkA : ∀ k j, k ≠ 4 → ¬ (k = 0 ∧ j = 8) → gi A k j = gi C k j := fun k j a b => by rw [← hA, gi_si, if_neg b, rd_k a]
  have hA08 : gi A 0 8 = 0 := by rw [← hA, gi_si, if_pos ⟨rfl, rfl⟩]
  have hA43 : gi A 4 3 = nI z := by rw [← hA, gi_si, if_neg (by decide), rd3, hC43]
  have hrA : RF (gr A) := by rw [hgA]; exact hrC
  rw [keep_eq hrA hq z3, ob_e] at hgo
  generalize hX : si (cpm A 3 0 (q + 1) 0 (nI z)) q 3 (nI z) = X at hgo
  have hgX : gr X = gr C := by rw [← hX]; exact hgA
  have hnX : gn X = gn M := by rw [← hX]; exact hnA
  have hrX : RF (gr X) := by rw [hgX]; exact hrC
  have hkX : ∀ k j, k ≠ q + 1 → ¬ (k = q ∧ j = 3) → gi X k j = gi A k j := fun k j a b => by rw [← hX, gi_si, if_neg b, gi_cpm, if_neg (fun y => a y.1)]
  have hX1 : ∀ j, 0 ≤ j → j < nI z → gi X (q + 1) j = gi M 3 j := fun j a b => by
    rw [← hX, gi_si, if_neg (by omega), gi_cpm, if_pos ⟨rfl, a, by simpa using b⟩, hkA _ _ (by omega) (by omega), hkC _ _ (by omega) (by omega)]
    congr 1
    simp
  have hXq3 : gi X q 3 = nI z := by rw [← hX, gi_si, if_pos ⟨rfl, rfl⟩]
  have hX43 : gi X 4 3 = nI z := by rw [hkX _ _ (by omega) (by omega), hA43]
  have hX21 : gi X 2 1 = nI w := by rw [hkX _ _ (by omega) (by omega), hkA _ _ (by omega) (by omega), hkC _ _ (by omega) (by omega), hw]
  have hgD : ∀ v, gr (si (dpM X 3 z (w - z)) 2 1 v) = gr X := fun _ => rfl
  have h04C : gr C 0 4 = some q' := by rw [hgC 0 4 (by omega)]; exact h04
  have h05C : gr C 0 5 = some q := by rw [hgC 0 5 (by omega)]; exact h05
  rw [hrX.r0_2, orf_e, hrX.r0_3, orf_e, hX43, drop_eq hrX hX21 hw3 (by omega) zw', ob_e, hgD, hgX, h04C, orf_e, h05C, orf_e, sq_e, sq_e, sq_e] at hgo
  generalize hY : si (dpM X 3 z (w - z)) 2 1 (nI (w - z)) = Y at hgo
  have hgY : gr Y = gr C := by rw [← hY]; exact hgX
  have hkY : ∀ k j, k ≠ 3 → ¬ (k = 2 ∧ j = 1) → gi Y k j = gi X k j := fun k j a b => by rw [← hY, gi_si, if_neg b, gi_dp, if_neg (fun y => a y.1)]
  have hfin : ∀ v, gr (si (sr (sr Y 0 4 (some q)) 0 5 (some q')) 0 9 v) 0 4 = some q := fun v => by rw [gr_si, gr_sr, if_neg (by decide), gr_sr, if_pos ⟨rfl, rfl⟩]
  rw [hfin, orf_e, gi_si, if_neg (by omega), gi_sr, gi_sr, hkY q 1 (by omega) (by omega), hkX q 1 (by omega) (fun y => absurd y.2 (by decide)), hkA q 1 (by omega) (by omega), g1] at hgo
  refine ⟨_, hgo, ⟨fun k j a b => ?_, fun j a b => ?_, ?_, ?_, ?_⟩, fun k j k1 k2 k3 k4 k5 => ?_, ⟨?_, ?_, ?_, fun j a b => ?_⟩, ⟨?_, ?_, ?_, fun j a b => ?_⟩, fun r' hr' => ⟨?_, fun t ht' => ⟨?_, fun hb => ?_⟩⟩⟩
  · rw [gr_si, gr_sr, if_neg (fun y => b y.1), gr_sr, if_neg (fun y => b y.1), hgY, hgC k j a]
  · rw [gr_si, gr_sr, if_neg (fun y => b y.2), gr_sr, if_neg (fun y => a y.2), hgY, hgC 0 j (by omega)]
  · exact hfin _
  · rw [gr_si, gr_sr, if_pos ⟨rfl, rfl⟩, h04]
  · show gn Y = gn M
    rw [← hY]; exact hnX
  · rw [gi_si, if_neg (fun y => k4 ⟨y.1, Or.inr y.2⟩), gi_sr, gi_sr, hkY k j k3 k5, hkX k j (by omega) (fun y => k1 (by omega)), hkA k j k2 (fun y => k4 ⟨y.1, Or.inl y.2⟩), hkC k j k1 k2]
  · rw [gi_si, if_neg (by decide), gi_sr, gi_sr, hkY _ _ (by decide) (by decide), hkX _ _ (by omega) (by omega), hA08]
  · rw [gi_si, if_pos ⟨rfl, rfl⟩, gi_sr, gi_sr, hkY _ _ (by decide) (by decide), hkX _ _ (by omega) (by omega), hkA _ _ (by decide) (by decide), hkC _ _ (by omega) (by omega)]
  · rw [gi_si, if_neg (by decide), gi_sr, gi_sr, ← hY, gi_si, if_pos ⟨rfl, rfl⟩]
  · rw [gi_si, if_neg (by omega), gi_sr, gi_sr, ← hY, gi_si, if_neg (by omega), gi_dp, if_pos ⟨rfl, a, b⟩, hkX _ _ (by omega) (by omega), hkA _ _ (by decide) (by omega), hkC _ _ (by omega) (by omega)]
  · rw [gi_si, if_neg (by omega), gi_sr, gi_sr, hkY _ _ (by omega) (by omega), hkX _ _ (by omega) (fun y => absurd y.2 (by decide)), hkA _ _ (by omega) (by omega), g1]
  · rw [gi_si, if_neg (by omega), gi_sr, gi_sr, hkY _ _ (by omega) (by omega), hkX _ _ (by omega) (fun y => absurd y.2 (by decide)), hkA _ _ (by omega) (by omega), g2, x2]
  · rw [gi_si, if_neg (by omega), gi_sr, gi_sr, hkY _ _ (by omega) (by omega), hXq3]
  · rw [gi_si, if_neg (by omega), gi_sr, gi_sr, hkY _ _ (by omega) (by omega), hX1 j a b]
  · rw [gi_si, if_neg (by omega), gi_sr, gi_sr, hkY _ _ (by omega) (by omega), hkX _ _ (by omega) (by omega), hkA _ _ (by omega) (by omega)]
    exact (g3 r' hr').1
  · rw [gi_si, if_neg (by omega), gi_sr, gi_sr, hkY _ _ (by omega) (by omega), hkX _ _ (by omega) (by omega), hkA _ _ (by omega) (by omega)]
    exact ((g3 r' hr').2 t ht').1
  · rw [gi_si, if_neg (by omega), gi_sr, gi_sr, hkY _ _ (by omega) (by omega), hkX _ _ (by omega) (by omega), hkA _ _ (by omega) (by omega)]
    exact ((g3 r' hr').2 t ht').2 hb
