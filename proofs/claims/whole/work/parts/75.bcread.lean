/-! PURE PART: read, the class -/
def dpM (A : JM) (a : Nat) (z d : Nat) : JM := ow A a 0 (nI d) (fun j => gi A a (j + nI z))
theorem gi_dp (A : JM) (a z d k : Nat) (j : Int32) : gi (dpM A a z d) k j = if k = a ∧ 0 ≤ j ∧ j < nI d then gi A a (j + nI z) else gi A k j := rfl
theorem dp_0 (A : JM) (a z : Nat) : dpM A a z 0 = A := by
  refine JM_ext (fun k j => ?_) rfl rfl
  rw [gi_dp, if_neg]
  rintro ⟨-, x, y⟩
  exact absurd y (Int32.not_lt.mpr x)
theorem dp_1 (A : JM) (a z d : Nat) (hd : d < 1000) (hz : 1 ≤ z) (h2 : z < 1000) : si (dpM A a z d) a (nI d) (gi (dpM A a z d) a (nI (z + d))) = dpM A a z (d + 1) := by
  refine JM_ext (fun k j => ?_) rfl rfl
  rw [gi_si, gi_dp, gi_dp, gi_dp, if_neg (show ¬ (a = a ∧ 0 ≤ nI (z + d) ∧ nI (z + d) < nI d) from fun x => absurd x.2.2 (Int32.not_lt.mpr (nI_le (by omega) (by omega))))]
  by_cases hk : k = a
  · subst hk
    simp only [true_and]
    by_cases hj : j = nI d
    · subst hj
      rw [if_pos rfl, if_pos ⟨nI_pos' (by omega), nI_lt (by omega) (by omega)⟩, nI_add, Nat.add_comm]
    · rw [if_neg hj]
      have e : nI (d + 1) = nI d + 1 := (nI_p1 d).symm
      have l1 : nI d < nI (d + 1) := nI_lt (by omega) (by omega)
      have hiff : (0 ≤ j ∧ j < nI d) ↔ (0 ≤ j ∧ j < nI (d + 1)) := by
        rw [e] at l1 ⊢
        generalize nI d = x at *
        grind
      by_cases g : 0 ≤ j ∧ j < nI d
      · rw [if_pos g, if_pos (hiff.mp g)]
      · rw [if_neg g, if_neg (fun x => g (hiff.mpr x))]
  · simp only [hk, false_and, if_false]
theorem lp_drop {A : JM} (hr : RF (gr A)) {w z : Nat} (hw : gi A 2 1 = nI w) (h3 : w ≤ 300) (hz : 1 ≤ z) (hzw : z ≤ w) : ∀ (n d : Nat), d ≤ w - z → w - z - d < n → f_X4_dropFirst_L2 n 2 (nI z) (nI (z + d)) (dpM A 3 z d) = some ((), si (dpM A 3 z (w - z)) 2 1 (nI (w - z))) := by
  intro n
  induction n with
  | zero => intro d _ h; omega
  | succ n ih =>
    intro d hd hn
    have hr1 : RF (gr (dpM A 3 z d)) := hr
    have hw1 : gi (dpM A 3 z d) 2 1 = nI w := by rw [gi_dp, if_neg (by omega)]; exact hw
    rw [f_X4_dropFirst_L2, hw1]
    by_cases e : d = w - z
    · subst e
      unfold f_X4_dropFirst_L30
      rw [if_neg (Int32.not_lt.mpr (nI_le (by omega) (by omega))), hw1, pk_sub hzw, sq_e]
    · rw [if_pos (nI_lt (by omega) (by omega)), hr1.r2_0, orf_e, orf_e, ln_3, if_pos (show 0 ≤ nI (z + d) ∧ nI (z + d) < 300 from ⟨nI_pos' (by omega), nI_lt (b := 300) (by omega) (by decide)⟩), pk_sub (by omega), show z + d - z = d by omega, if_pos (show 0 ≤ nI d ∧ nI d < 300 from ⟨nI_pos' (by omega), nI_lt (b := 300) (by omega) (by decide)⟩), sq_e, sv_e, dp_1 A 3 z d (by omega) hz (by omega), nI_p1]
      exact ih (d + 1) (by omega) (by omega)
theorem drop_eq {A : JM} (hr : RF (gr A)) {w z : Nat} (hw : gi A 2 1 = nI w) (h3 : w ≤ 300) (hz : 1 ≤ z) (hzw : z ≤ w) : f_X4_dropFirst 2 (nI z) A = some ((), si (dpM A 3 z (w - z)) 2 1 (nI (w - z))) := by
  have := lp_drop hr hw h3 hz hzw FU 0 (by omega) (by show _ < 4096; omega)
  rw [dp_0] at this
  unfold f_X4_dropFirst
  rw [sv_e]
  exact this
theorem st_eq (A : JM) (v : Int32) : f_X3_start 4 v A = some ((), rdM (si A 4 3 v) 0 0 (gi A 4 5)) := by
  unfold f_X3_start
  rw [sq_e, sq_e, sq_e]
  congr 2
  refine JM_ext (fun k j => ?_) rfl rfl
  rw [gi_si, gi_si, gi_si, gi_rd, gi_si]
  by_cases hk : k = 4
  · subst hk
    simp only [true_and]
    grind
  · simp only [hk, false_and, if_false]
/-- the memory with the spare block emptied -/
def clM (M : JM) (q : Nat) : JM := fil (si M q 1 0) (q + 4) 0 168 0
theorem clear_eq {M : JM} (hr : RF (gr M)) {q : Nat} (hq : q = 5 ∨ q = 10) : f_X0_clear q M = some ((), clM M q) := by
  unfold f_X0_clear
  rw [sq_e, Gr_si, (hr.rq hq).2.2.2, orf_e, fill_all _ _ _ (by rw [(ln_q hq).2.2.2]; decide) (by rw [(ln_q hq).2.2.2]; decide), ob_e, (ln_q hq).2.2.2]
  rfl
theorem cl_k {M : JM} {q k : Nat} {j : Int32} (h1 : k ≠ q) (h2 : k ≠ q + 4) : gi (clM M q) k j = gi M k j := by
  unfold clM
  rw [gi_fil, if_neg (fun x => h2 x.1), gi_si, if_neg (fun x => h1 x.1)]
theorem cl_0 {M : JM} {q r t : Nat} (hr : r < 8) (ht : t < 21) : gi (clM M q) (q + 4) (nI (21 * r + t)) = 0 := by
  unfold clM
  rw [gi_fil, if_pos ⟨rfl, nI_pos' (by omega), nI_lt (b := 168) (by omega) (by decide)⟩]
theorem cl_1 {M : JM} {q : Nat} : gi (clM M q) q 1 = 0 := by
  unfold clM
  rw [gi_fil, if_neg (by omega), gi_si, if_pos ⟨rfl, rfl⟩]
/-- the category whose number stands ahead of the tape; the length that stands there -/
def idxM (M : JM) (c : Nat) : Int32 := fnd (fun i => gi M (61 + 4 * i) 0) (gi M 3 0) c 0
def lenM (M : JM) : Int32 := if gi M 2 1 < 3 then 0 else gi M 3 1 * 256 + gi M 3 2
/-- the memory as the records begin to be read -/
def bgM (M : JM) (q i : Nat) (v : Int32) : JM := si (sr (si (clM M q) q 0 (nI i)) 4 1 (some (61 + 4 * i))) 4 3 v
theorem bg_k {M : JM} {q i : Nat} {v : Int32} {k : Nat} {j : Int32} (h1 : k ≠ q) (h2 : k ≠ q + 4) (h3 : k ≠ 4) : gi (bgM M q i v) k j = gi M k j := by
  unfold bgM
  rw [gi_si, if_neg (fun x => h3 x.1), gi_sr, gi_si, if_neg (fun x => h1 x.1), cl_k h1 h2]
theorem bg_r {M : JM} {q i : Nat} {v : Int32} {k : Nat} {j : Int32} (h : ¬ (k = 4 ∧ j = 1)) : gr (bgM M q i v) k j = gr M k j := by
  unfold bgM
  rw [gr_si, gr_sr, if_neg h]
  rfl
theorem RF.ofr {g g' : Nat → Int32 → Option Nat} (h : RF g) (e : ∀ k j, ¬ (k = 4 ∧ j = 1) → k ≠ 0 → g' k j = g k j) (e0 : ∀ j, j ≠ 4 → j ≠ 5 → g' 0 j = g 0 j) : RF g' := by
  have e2 : ∀ k j, k ≠ 0 → k ≠ 4 → g' k j = g k j := fun k j a b => e k j (fun x => b x.1) a
  have e4 : g' 4 0 = g 4 0 := e 4 0 (by decide) (by decide)
  unfold RF at *
  rw [e0 0 (by decide) (by decide), e0 2 (by decide) (by decide), e0 3 (by decide) (by decide), e0 6 (by decide) (by decide), e0 7 (by decide) (by decide), e4]
  simp only [e2 _ _ (show (2 : Nat) ≠ 0 by decide) (by decide), e2 _ _ (show (5 : Nat) ≠ 0 by decide) (by decide), e2 _ _ (show (10 : Nat) ≠ 0 by decide) (by decide), e2 _ _ (show (15 : Nat) ≠ 0 by decide) (by decide), e2 _ _ (show (18 : Nat) ≠ 0 by decide) (by decide), e2 _ _ (show (32 : Nat) ≠ 0 by decide) (by decide)]
  exact h
theorem ITab.keep {M C : JM} {c : Nat} (hc3 : c ≤ 3) (ht : ∀ i, i < c → ICat M i) (hg : ∀ k j, k = 1 ∨ 61 ≤ k → gr C k j = gr M k j) (hf : ∀ k j, 61 ≤ k ∨ (33 ≤ k ∧ k ≤ 38) → gi C k j = gi M k j) : ∀ i, i < c → ICat C i := by
  intro i hi
  have := ht i hi
  unfold ICat at this ⊢
  simp only [hg 1 _ (Or.inl rfl), hg (61 + 4 * i) _ (Or.inr (by omega)), hf (61 + 4 * i) _ (Or.inl (by omega)), hf (62 + 4 * i) _ (Or.inl (by omega)), hf (63 + 4 * i) _ (Or.inl (by omega)), hf (64 + 4 * i) _ (Or.inl (by omega)), hf 33 _ (Or.inr (by omega)), hf 34 _ (Or.inr (by omega)), hf 35 _ (Or.inr (by omega)), hf 36 _ (Or.inr (by omega)), hf 37 _ (Or.inr (by omega)), hf 38 _ (Or.inr (by omega))]
  exact this
theorem cpb_eq {M : JM} (hr : RF (gr M)) {c : Nat} (hc3 : c ≤ 3) (hc : gi M 0 1 = nI c) (ht : ∀ i, i < c → ICat M i) {q : Nat} (hq : q = 5 ∨ q = 10) (h05 : gr M 0 5 = some q) (p0 : Int32) :
    (idxM M c = -9 → f_X7_passBlock 0 (rdM (si (clM M q) 4 3 (gi M 2 1)) 0 0 p0) = some ((), rdM (si (clM M q) 4 3 (gi M 2 1)) 0 1 0)) ∧
    (∀ i, i < c → idxM M c = nI i → (lenM M < 4 ∨ gi M 2 1 < lenM M) → f_X7_passBlock 0 (rdM (si (clM M q) 4 3 (gi M 2 1)) 0 0 p0) = some ((), rdM (si (clM M q) 4 3 (gi M 2 1)) 0 2 1)) ∧
    (∀ i, i < c → idxM M c = nI i → ¬ lenM M < 4 → ¬ gi M 2 1 < lenM M → f_X7_passBlock 0 (rdM (si (clM M q) 4 3 (gi M 2 1)) 0 0 p0) = f_X7_passBlock_L134 FU 0 0 (rdM (bgM M q i (lenM M)) 3 0 p0)) := by
  generalize hA : rdM (si (clM M q) 4 3 (gi M 2 1)) 0 0 p0 = A
  have hgA : gr A = gr M := by rw [← hA]; rfl
  have kA : ∀ k j, k ≠ q → k ≠ q + 4 → k ≠ 4 → gi A k j = gi M k j := fun k j a b d => by rw [← hA, rd_k d, gi_si, if_neg (fun x => d x.1), cl_k a b]
  have hrA : RF (gr A) := by rw [hgA]; exact hr
  have htA : ∀ i, i < c → ICat A i := ITab.keep hc3 ht (fun k j _ => by rw [hgA]) (fun k j hk => kA k j (by omega) (by omega) (by omega))
  have hcA : gi A 0 1 = nI c := by rw [kA _ _ (by omega) (by omega) (by omega)]; exact hc
  have hidx : f_X7_indexOfNumber 0 (gi M 3 0) A = some (idxM M c, A) := by
    unfold f_X7_indexOfNumber idxM
    rw [sv_e]
    have := lp_index hrA hc3 hcA htA (gi M 3 0) FU 0 (by omega) (by show _ < 4096; omega)
    rw [fnd_congr (c - 0) 0 (g := fun i => gi M (61 + 4 * i) 0) (fun j _ hj => kA _ _ (by omega) (by omega) (by omega))] at this
    exact this
  have k31 : ∀ j, gi A 3 j = gi M 3 j := fun j => kA _ _ (by omega) (by omega) (by omega)
  have k21 : gi A 2 1 = gi M 2 1 := kA _ _ (by omega) (by omega) (by omega)
  have hstart : f_X7_passBlock 0 A = ob (f_X7_categoryAt 0 (idxM M c) A) fun o10 M7 => oca o10 (orf (gr M7 0 3) fun r11 => ob (f_X3_fail r11 (1 : Int32) (0 : Int32) M7) fun _ M12 => some ((), M12)) fun r9 => orf (gr M7 0 2) fun r14 => if (gi M7 r14 1) < (3 : Int32) then (f_X7_passBlock_L72 0 (idxM M c) r9 (0 : Int32) M7) else (orf (gr M7 0 2) fun r15 => orf (gr M7 r15 0) fun r16 => if 0 ≤ (1 : Int32) ∧ (1 : Int32) < ln r16 then (orf (gr M7 0 2) fun r17 => orf (gr M7 r17 0) fun r18 => if 0 ≤ (2 : Int32) ∧ (2 : Int32) < ln r18 then (f_X7_passBlock_L72 0 (idxM M c) r9 (((gi M7 r16 (1 : Int32)) * (256 : Int32)) + (gi M7 r18 (2 : Int32))) M7) else none) else none) := by
    unfold f_X7_passBlock
    rw [hrA.r0_2, orf_e, hrA.r2_0, orf_e, ln_3, if_pos (by decide), k31, hidx, ob_e, sv_e]
  have hyes : ∀ i, i < c → idxM M c = nI i → f_X7_passBlock 0 A = f_X7_passBlock_L72 0 (nI i) (61 + 4 * i) (lenM M) A := by
    intro i hi he
    rw [hstart, he, cCat_yes hrA (by omega) (htA i hi) ⟨nI_pos' (by omega), by rw [hcA]; exact nI_lt hi (by omega)⟩, ob_e, oca_s, hrA.r0_2, orf_e, k21]
    unfold lenM
    by_cases h3 : gi M 2 1 < 3
    · rw [if_pos h3, if_pos h3]
    · rw [if_neg h3, if_neg h3, orf_e, hrA.r2_0, orf_e, ln_3, if_pos (by decide), orf_e, hrA.r2_0, orf_e, ln_3, if_pos (by decide), k31, k31]
  refine ⟨fun he => ?_, fun i hi he hl => ?_, fun i hi he h1 h2 => ?_⟩
  · rw [hstart, he, cCat_no (fun x => absurd x.1 (by decide)), ob_e, oca_n, hrA.r0_3, orf_e, ← hA, fail_y, ob_e]
  · rw [hyes i hi he]
    have h89 : f_X7_passBlock_L89 0 A = some ((), rdM (si (clM M q) 4 3 (gi M 2 1)) 0 2 1) := by
      unfold f_X7_passBlock_L89
      rw [hrA.r0_3, orf_e, ← hA, fail_y, ob_e]
    unfold f_X7_passBlock_L72
    rw [sv_e, h89, hrA.r0_2, orf_e, k21]
    by_cases h1 : lenM M < 4
    · rw [if_pos h1]
    · rw [if_neg h1, if_pos (hl.resolve_left h1)]
  · rw [hyes i hi he]
    unfold f_X7_passBlock_L72
    rw [sv_e, if_neg h1, hrA.r0_2, orf_e, k21, if_neg h2, hgA, h05, orf_e, sq_e, Gr_si, hrA.r0_3, orf_e, sq_e, gr_sr, if_neg (by decide), Gr_si, hrA.r0_3, orf_e, sq_e, Gr_si, gr_sr, if_neg (by decide), Gr_si, hrA.r0_3, orf_e, sq_e, sv_e, ← hA]
    congr 1
    unfold bgM
    refine JM_ext (fun k j => ?_) rfl rfl
    have hq4 : ¬ 4 = q := by omega
    by_cases hk : k = 4
    · subst hk
      rw [gi_si, gi_si, gi_sr, gi_si, gi_rd, gi_rd, gi_si, gi_si, gi_sr, gi_si]
      simp only [hq4, true_and, false_and, if_false]
      grind
    · simp only [gi_si, gi_sr, rd_k hk, hk, false_and, if_false]
