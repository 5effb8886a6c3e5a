/-! PURE PART: read, the reference: the rows are copied -/
theorem ow_ne {D : JM} {k k' : Nat} {lo hi j v : Int32} {β : Int32 → Int32} (h : k' ≠ k) : si (ow D k lo hi β) k' j v = ow (si D k' j v) k lo hi β := by
  refine JM_ext (fun a b => ?_) rfl rfl
  rw [gi_si, gi_ow, gi_ow, gi_si]
  by_cases ha : a = k'
  · subst ha
    simp only [h, false_and, if_false]
  · simp only [ha, false_and, if_false]
def cp42 (D : JM) (v : Nat) : JM := ow (ow D 42 (nI 0) (nI v) (gi D 45)) 43 (nI 0) (nI v) (gi D 46)
theorem cp42_k {D : JM} {v k : Nat} {j : Int32} (h1 : k ≠ 42) (h2 : k ≠ 43) : gi (cp42 D v) k j = gi D k j := by
  unfold cp42
  rw [gi_ow, if_neg (fun x => h2 x.1), gi_ow, if_neg (fun x => h1 x.1)]
theorem cp42_1 {D : JM} {v : Nat} (hv : v < 176) : si (si (cp42 D v) 42 (nI v) (gi D 45 (nI v))) 43 (nI v) (gi D 46 (nI v)) = cp42 D (v + 1) := by
  unfold cp42
  rw [ow_ne (by decide), ow_si (by omega) (by omega), ow_si (by omega) (by omega)]
theorem lp_68 {D : JM} (hr : RF (gr D)) : ∀ (n v : Nat), v ≤ 176 → 176 - v < n → f_X8_read_L68 n 32 (nI v) (cp42 D v) = f_X8_read_L105 32 (cp42 D 176) := by
  intro n
  induction n with
  | zero => intro v _ h; omega
  | succ n ih =>
    intro v hv hn
    have hr1 : RF (gr (cp42 D v)) := hr
    rw [f_X8_read_L68]
    by_cases e : v = 176
    · subst e
      rw [if_neg (by decide)]
    · have l : 0 ≤ nI v ∧ nI v < 176 := ⟨nI_pos' (by omega), nI_lt (b := 176) (by omega) (by decide)⟩
      rw [if_pos l.2, hr1.r32_18, orf_e, hr1.r32_22, orf_e, ln_45, if_pos l, ln_42, if_pos l, cp42_k (by decide) (by decide), sq_e, Gr_si, hr1.r32_19, orf_e, hr1.r32_23, orf_e, ln_46, if_pos l, ln_43, if_pos l, gi_si, if_neg (by omega), cp42_k (by decide) (by decide), sq_e, cp42_1 (by omega), sv_e, nI_p1]
      exact ih (v + 1) (by omega) (by omega)
theorem lp_107 {D : JM} (hr : RF (gr D)) : ∀ (n v : Nat), v ≤ 9 → 9 - v < n → f_X8_read_L107 n 32 (nI v) (ow D 41 (nI 0) (nI v) (gi D 44)) = f_X8_read_L131 32 (ow D 41 (nI 0) (nI 9) (gi D 44)) := by
  intro n
  induction n with
  | zero => intro v _ h; omega
  | succ n ih =>
    intro v hv hn
    have hr1 : RF (gr (ow D 41 (nI 0) (nI v) (gi D 44))) := hr
    rw [f_X8_read_L107]
    by_cases e : v = 9
    · subst e
      rw [if_neg (by decide)]
    · have l : 0 ≤ nI v ∧ nI v < 9 := ⟨nI_pos' (by omega), nI_lt (b := 9) (by omega) (by decide)⟩
      rw [if_pos l.2, hr1.r32_17, orf_e, hr1.r32_21, orf_e, ln_44, if_pos l, ln_41, if_pos l, gi_ow, if_neg (by omega), sq_e, ow_si (by omega) (by omega), sv_e, nI_p1]
      exact ih (v + 1) (by omega) (by omega)
theorem lp_133a {D : JM} (hr : RF (gr D)) {w z : Nat} (h8 : gi D 32 8 = nI w) (h10 : gi D 32 10 = nI z) (hz : z ≤ w) (hw : w ≤ 300) : ∀ (n v : Nat), v ≤ z → z - v < n → f_X8_read_L133 n 32 (nI v) (ow D 40 (nI 0) (nI v) (gi D 39)) = f_X8_read_L133 (n - (z - v)) 32 (nI z) (ow D 40 (nI 0) (nI z) (gi D 39)) := by
  intro n
  induction n with
  | zero => intro v _ h; omega
  | succ n ih =>
    intro v hv hn
    have hr1 : RF (gr (ow D 40 (nI 0) (nI v) (gi D 39))) := hr
    by_cases e : v = z
    · subst e
      rw [Nat.sub_self]; rfl
    · have l : 0 ≤ nI v ∧ nI v < 300 := ⟨nI_pos' (by omega), nI_lt (b := 300) (by omega) (by decide)⟩
      have k8 : gi (ow D 40 (nI 0) (nI v) (gi D 39)) 32 8 = nI w := by rw [gi_ow, if_neg (by omega), h8]
      have k10 : gi (ow D 40 (nI 0) (nI v) (gi D 39)) 32 10 = nI z := by rw [gi_ow, if_neg (by omega), h10]
      have k39 : gi (ow D 40 (nI 0) (nI v) (gi D 39)) 39 (nI v) = gi D 39 (nI v) := by rw [gi_ow, if_neg (by omega)]
      rw [show n + 1 - (z - v) = n - (z - (v + 1)) by omega, f_X8_read_L133]
      unfold f_X8_read_L181
      rw [k8, if_pos (nI_lt (by omega) (by omega)), k10, if_pos (nI_lt (by omega) (by omega)), hr1.r32_16, orf_e, hr1.r32_7, orf_e, ln_39, if_pos l, ln_40, if_pos l, k39, sq_e, ow_si (by omega) (by omega), sv_e, nI_p1, ih (v + 1) (by omega) (by omega)]
theorem lp_133b {D : JM} (hr : RF (gr D)) {w z cc : Nat} (h8 : gi D 32 8 = nI w) (h10 : gi D 32 10 = nI z) (h14 : gi D 32 14 = nI cc) (hz1 : 1 ≤ z) (hz : z ≤ w) (hw : w ≤ 300) : ∀ (n d : Nat), d ≤ w - z → w - z - d < n → f_X8_read_L133 n 32 (nI (z + d)) (dpM D 39 z d) = some (nI cc, si (dpM D 39 z (w - z)) 32 8 (nI (w - z))) := by
  intro n
  induction n with
  | zero => intro d _ h; omega
  | succ n ih =>
    intro d hd hn
    have hr1 : RF (gr (dpM D 39 z d)) := hr
    have k32 : ∀ j, gi (dpM D 39 z d) 32 j = gi D 32 j := fun j => by rw [gi_dp, if_neg (by omega)]
    rw [f_X8_read_L133, k32, k32, h8, h10]
    by_cases e : d = w - z
    · subst e
      unfold f_X8_read_L187
      rw [if_neg (Int32.not_lt.mpr (nI_le (by omega) (by omega))), k32, k32, h8, h10, pk_sub hz, sq_e, gi_si, if_neg (by decide), k32, h14]
    · unfold f_X8_read_L181
      rw [if_pos (nI_lt (by omega) (by omega)), if_neg (show ¬ nI (z + d) < nI z from Int32.not_lt.mpr (nI_le (by omega) (by omega))), hr1.r32_7, orf_e, orf_e, ln_39, if_pos (show 0 ≤ nI (z + d) ∧ nI (z + d) < 300 from ⟨nI_pos' (by omega), nI_lt (b := 300) (by omega) (by decide)⟩), pk_sub (by omega), show z + d - z = d by omega, if_pos (show 0 ≤ nI d ∧ nI d < 300 from ⟨nI_pos' (by omega), nI_lt (b := 300) (by omega) (by decide)⟩), sq_e, sv_e, dp_1 D 39 z d (by omega) hz1 (by omega), nI_p1]
      exact ih (d + 1) (by omega) (by omega)
/-- what the copying comes to -/
def cpR (X : JM) (w z : Nat) (X1 : JM) : Prop := gr X1 = gr X ∧ gn X1 = gn X ∧ (∀ k j, ¬ (39 ≤ k ∧ k ≤ 43) → ¬ (k = 32 ∧ j = 8) → gi X1 k j = gi X k j) ∧ gi X1 32 8 = nI (w - z) ∧ (∀ t, t < 9 → gi X1 41 (nI t) = gi X 44 (nI t)) ∧ (∀ t, t < 176 → gi X1 42 (nI t) = gi X 45 (nI t) ∧ gi X1 43 (nI t) = gi X 46 (nI t)) ∧ (∀ j, gi X1 40 j = if 0 ≤ j ∧ j < nI z then gi X 39 j else gi X 40 j) ∧ ∀ j, 0 ≤ j → j < nI (w - z) → gi X1 39 j = gi X 39 (j + nI z)
theorem rows_eq {X : JM} (hr : RF (gr X)) {w z cc : Nat} (h8 : gi X 32 8 = nI w) (h10 : gi X 32 10 = nI z) (h14 : gi X 32 14 = nI cc) (hz1 : 1 ≤ z) (hz : z ≤ w) (hw : w ≤ 300) : ∃ X1, f_X8_read_L68 FU 32 0 X = some (nI cc, X1) ∧ cpR X w z X1 := by
  have a1 := lp_68 hr FU 0 (by omega) (by show _ < 4096; omega)
  have e0 : cp42 X 0 = X := by unfold cp42; rw [ow_0, ow_0]
  rw [e0] at a1
  generalize hY : cp42 X 176 = Y at a1
  have hrY : RF (gr Y) := by rw [← hY]; exact hr
  have kY : ∀ k j, k ≠ 42 → k ≠ 43 → gi Y k j = gi X k j := fun k j a b => by rw [← hY, cp42_k a b]
  have a2 := lp_107 hrY FU 0 (by omega) (by show _ < 4096; omega)
  rw [ow_0] at a2
  generalize hZ : ow Y 41 (nI 0) (nI 9) (gi Y 44) = Z at a2
  have hrZ : RF (gr Z) := by rw [← hZ]; exact hrY
  have kZ : ∀ k j, k ≠ 41 → gi Z k j = gi Y k j := fun k j a => by rw [← hZ, gi_ow, if_neg (fun x => a x.1)]
  have a3 := lp_133a (D := Z) hrZ (w := w) (z := z) (by rw [kZ _ _ (by decide), kY _ _ (by decide) (by decide), h8]) (by rw [kZ _ _ (by decide), kY _ _ (by decide) (by decide), h10]) hz hw FU 0 (by omega) (by show _ < 4096; omega)
  rw [ow_0] at a3
  generalize hW : ow Z 40 (nI 0) (nI z) (gi Z 39) = W at a3
  have hrW : RF (gr W) := by rw [← hW]; exact hrZ
  have kW : ∀ k j, k ≠ 40 → gi W k j = gi Z k j := fun k j a => by rw [← hW, gi_ow, if_neg (fun x => a x.1)]
  have k32 : ∀ j, gi W 32 j = gi X 32 j := fun j => by rw [kW _ _ (by decide), kZ _ _ (by decide), kY _ _ (by decide) (by decide)]
  have a4 := lp_133b (D := W) hrW (w := w) (z := z) (cc := cc) (by rw [k32, h8]) (by rw [k32, h10]) (by rw [k32, h14]) hz1 hz hw (FU - (z - 0)) 0 (by omega) (by show _ < 4096 - (z - 0); omega)
  rw [dp_0] at a4
  have k39 : ∀ j, gi W 39 j = gi X 39 j := fun j => by rw [kW _ _ (by decide), kZ _ _ (by decide), kY _ _ (by decide) (by decide)]
  refine ⟨si (dpM W 39 z (w - z)) 32 8 (nI (w - z)), ?_, ?_, ?_, fun k j a b => ?_, ?_, fun t ht => ?_, fun t ht => ⟨?_, ?_⟩, fun j => ?_, fun j a b => ?_⟩
  · refine a1.trans ?_
    unfold f_X8_read_L105
    rw [sv_e]
    refine a2.trans ?_
    unfold f_X8_read_L131
    rw [sv_e]
    exact a3.trans a4
  · show gr W = gr X
    rw [← hW, ← hZ, ← hY]; rfl
  · show gn W = gn X
    rw [← hW, ← hZ, ← hY]; rfl
  · rw [gi_si, if_neg b, gi_dp, if_neg (fun x => a (by omega)), kW _ _ (by omega), kZ _ _ (by omega), kY _ _ (by omega) (by omega)]
  · rw [gi_si, if_pos ⟨rfl, rfl⟩]
  · rw [gi_si, if_neg (by omega), gi_dp, if_neg (by omega), kW _ _ (by omega), ← hZ, gi_ow, if_pos ⟨rfl, nI_le (by omega) (by omega), nI_lt (by omega) (by omega)⟩, kY _ _ (by decide) (by decide)]
  · rw [gi_si, if_neg (by omega), gi_dp, if_neg (by omega), kW _ _ (by omega), kZ _ _ (by omega), ← hY]
    unfold cp42
    rw [gi_ow, if_neg (by omega), gi_ow, if_pos ⟨rfl, nI_le (by omega) (by omega), nI_lt (by omega) (by omega)⟩]
  · rw [gi_si, if_neg (by omega), gi_dp, if_neg (by omega), kW _ _ (by omega), kZ _ _ (by omega), ← hY]
    unfold cp42
    rw [gi_ow, if_pos ⟨rfl, nI_le (by omega) (by omega), nI_lt (by omega) (by omega)⟩]
  · rw [gi_si, if_neg (by omega), gi_dp, if_neg (by omega), ← hW, gi_ow]
    have k39' : ∀ j, gi Z 39 j = gi X 39 j := fun j => by rw [kZ _ _ (by decide), kY _ _ (by decide) (by decide)]
    have k40' : ∀ j, gi Z 40 j = gi X 40 j := fun j => by rw [kZ _ _ (by decide), kY _ _ (by decide) (by decide)]
    rw [k39', k40']
    by_cases c : 0 ≤ j ∧ j < nI z
    · rw [if_pos c, if_pos ⟨rfl, c⟩]
    · rw [if_neg c, if_neg (fun x => c x.2)]
  · rw [gi_si, if_neg (by omega), gi_dp, if_pos ⟨rfl, a, b⟩, k39]
