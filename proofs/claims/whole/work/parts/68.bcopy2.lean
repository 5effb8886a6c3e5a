/-! PURE PART: copy, the reference, and both together -/
theorem lp_msum {M : JM} (hr : RF (gr M)) {q c z : Nat} {S : Nat → Nat} (h : CSt M q c z S) (v : Int32) : ∀ (n r a : Nat), r ≤ c → c - r < n → f_X8_copy_L22 n 32 v (nI (3 + a)) (nI r) M = f_X8_copy_L66 32 v (nI (3 + (a + cpN S v (c - r) r))) M := by
  intro n
  induction n with
  | zero => intro r a _ h; omega
  | succ n ih =>
    intro r a h1 h2
    have h8 := h.2.2.1
    rw [f_X8_copy_L22, h.2.1]
    by_cases hrc : r = c
    · subst hrc
      rw [if_neg Int32.lt_irrefl, Nat.sub_self, cpN, Nat.add_zero]
    · have hm := h.mono 1 r (by omega)
      rw [if_pos (nI_lt (by omega) (by omega)), show c - r = c - (r + 1) + 1 by omega, cpN]
      unfold f_X8_copy_L58
      by_cases hb : cpB v r
      · rw [if_pos hb, if_pos hb, hr.r32_17, orf_e, nI_p1, ln_41, if_pos (show 0 ≤ nI (r + 1) ∧ nI (r + 1) < 9 from ⟨nI_pos' (by omega), nI_lt (b := 9) (by omega) (by decide)⟩), orf_e, ln_41, if_pos (show 0 ≤ nI r ∧ nI r < 9 from ⟨nI_pos' (by omega), nI_lt (b := 9) (by omega) (by decide)⟩), h.at (by omega), h.at (by omega), pk_sub (by omega), nI_add, sv_e, sv_e, show 3 + a + (S (r + 1) - S r) = 3 + (a + (S (r + 1) - S r)) by omega, ih (r + 1) _ (by omega) (by omega), Nat.add_assoc a]
      · rw [if_neg hb, if_neg hb, show nI (3 + a) + (0 : Int32) = nI (3 + a) by simp, sv_e, sv_e, nI_p1, ih (r + 1) _ (by omega) (by omega), Nat.zero_add]
theorem lp_mrec {M : JM} (hr : RF (gr M)) {q c z : Nat} {S : Nat → Nat} (h : CSt M q c z S) (v t : Int32) (K : Nat → Int32 → Int32 → Int32 → JM → Option (Int32 × JM)) {r : Nat} (hrc : r < c) (hb : cpB v r) : ∀ (n i : Nat) (L : List Int32), i ≤ S (r + 1) - S r → S (r + 1) - S r - i < n → Rm (gi M 32 8) (L.length + (S (r + 1) - S r - i)) → f_X8_copy_L133 K n 32 v t (nI r) (nI (S r + i)) (aM M L) = K 32 v t (nI (r + 1)) (aM M (L ++ tak (fun j => gi M 40 j &&& 255) (S (r + 1) - S r - i) (nI (S r + i)))) := by
  intro n
  induction n with
  | zero => intro i L _ h; omega
  | succ n ih =>
    intro i L h1 h2 h3
    have hr1 : RF (gr (aM M L)) := hr
    have h8 := h.2.2.1
    have hm := h.mono 1 r (by omega)
    have a4 := h.le (r := r + 1) (by omega)
    have a5 := h.2.2.2.2.1
    rw [f_X8_copy_L133, hr1.r32_17, orf_e, ln_41, nI_p1, if_pos (show 0 ≤ nI (r + 1) ∧ nI (r + 1) < 9 from ⟨nI_pos' (by omega), nI_lt (b := 9) (by omega) (by decide)⟩), keep_aM (by decide) (fun q => absurd q.1 (by decide)), h.at (by omega)]
    by_cases hi : i = S (r + 1) - S r
    · subst hi
      unfold f_X8_copy_L171
      rw [if_neg (Int32.not_lt.mpr (nI_le (by omega) (by omega))), Nat.sub_self, tak, List.append_nil, sv_e, nI_p1]
    · rw [if_pos (nI_lt (by omega) (by omega)), if_pos hb, hr1.r32_16, orf_e, ln_40, if_pos (show 0 ≤ nI (S r + i) ∧ nI (S r + i) < 300 from ⟨nI_pos' (by omega), nI_lt (b := 300) (by omega) (by decide)⟩), keep_aM (by decide) (fun q => absurd q.1 (by decide)), aM_put hr _ (h3.le (by omega)), ob_e, sv_e, nI_p1]
      have hh := ih (i + 1) (L ++ [gi M 40 (nI (S r + i)) &&& 255]) (by omega) (by omega) (by simp only [List.length_append, List.length_cons, List.length_nil]; exact h3.le (by omega))
      rw [show S r + i + 1 = S r + (i + 1) by omega, hh, app_1, show S (r + 1) - S r - i = S (r + 1) - S r - (i + 1) + 1 by omega, tak, nI_p1, show S r + (i + 1) = S r + i + 1 by omega]
theorem lp_mcopy {M : JM} (hr : RF (gr M)) {q c z : Nat} {S : Nat → Nat} (h : CSt M q c z S) (v t : Int32) : ∀ (n r : Nat) (L : List Int32), r ≤ c → c - r < n → Rm (gi M 32 8) (L.length + cpN S v (c - r) r) → f_X8_copy_L117 n 32 v t (nI r) (aM M L) = some (t, aM M (L ++ cpL (fun j => gi M 40 j &&& 255) S v (c - r) r)) := by
  intro n
  induction n with
  | zero => intro r L _ h; omega
  | succ n ih =>
    intro r L h1 h2 h3
    have hr1 : RF (gr (aM M L)) := hr
    have h8 := h.2.2.1
    rw [f_X8_copy_L117, keep_aM (by decide) (fun q => absurd q.2 (by decide)), h.2.1]
    by_cases hrc : r = c
    · subst hrc
      rw [if_neg Int32.lt_irrefl, Nat.sub_self, cpL, List.append_nil]
    · have hm := h.mono 1 r (by omega)
      have a4 := h.le (r := r + 1) (by omega)
      have a5 := h.2.2.2.2.1
      rw [show c - r = c - (r + 1) + 1 by omega, cpN] at h3
      rw [if_pos (nI_lt (by omega) (by omega)), hr1.r32_17, orf_e, ln_41, if_pos (show 0 ≤ nI r ∧ nI r < 9 from ⟨nI_pos' (by omega), nI_lt (b := 9) (by omega) (by decide)⟩), keep_aM (by decide) (fun q => absurd q.1 (by decide)), h.at (by omega), sv_e, show c - r = c - (r + 1) + 1 by omega, cpL]
      by_cases hb : cpB v r
      · rw [if_pos hb] at h3
        have hp := lp_mrec hr h v t (f_X8_copy_L117 n) (r := r) (by omega) hb FU 0 L (by omega) (by show _ < 4096; omega) (h3.le (by omega))
        simp only [Nat.add_zero, Nat.sub_zero] at hp
        rw [if_pos hb, hp, ← List.append_assoc]
        exact ih (r + 1) _ (by omega) (by omega) (by rw [List.length_append, tak_len]; exact h3.le (by omega))
      · rw [if_neg hb] at h3
        rw [if_neg hb, show FU = 4095 + 1 from rfl, f_X8_copy_L133, hr1.r32_17, orf_e, ln_41, nI_p1, if_pos (show 0 ≤ nI (r + 1) ∧ nI (r + 1) < 9 from ⟨nI_pos' (by omega), nI_lt (b := 9) (by omega) (by decide)⟩), keep_aM (by decide) (fun q => absurd q.1 (by decide)), h.at (by omega), if_pos (nI_lt (by omega) (by omega)), if_neg hb]
        unfold f_X8_copy_L171
        rw [sv_e, nI_p1, List.nil_append]
        exact ih (r + 1) L (by omega) (by omega) (h3.le (by omega))
theorem eq_copy {M : JM} (hI : Inv M) (v : Int32) : Eqi M (f_X7_copy 0 v) (f_X8_copy 32 v) := by
  have hI0 := hI
  obtain ⟨hr, hT, hP, ⟨q, hB⟩, hO, hK, hM⟩ := hI
  have hz : 0 ≤ gi M 2 1 ∧ gi M 2 1 ≤ 300 := ⟨hP.2.1, hP.2.2.1⟩
  have h04 := hB.2.1
  have hcn := hB.cnt
  have h14 := hB.2.2.2.1
  obtain ⟨c, ec, c8⟩ := nI_ex (h := 8) hcn.1 hcn.2 (by decide)
  have hm : ∀ (N : JM), gi N 32 14 = nI c → f_X8_copy 32 v N = if v < 0 ∨ ¬ v >>> (nI c &&& 31) = 0 then some (-1, N) else f_X8_copy_L22 FU 32 v 3 0 N := by
    intro N hN
    unfold f_X8_copy
    rw [hN]
    by_cases h0 : v < 0
    · rw [in_f N (show ¬ (0 ≤ v ∧ v ≤ ((1 : Int32) <<< (nI c &&& 31)) - 1) from fun x => absurd h0 (Int32.not_lt.mpr x.1)), ob_e, if_neg (by decide), if_pos (Or.inl h0)]
    · by_cases h1 : v >>> (nI c &&& 31) = 0
      · rw [in_t N ((cp_in (by omega) h0).mp h1), ob_e, if_pos rfl, sv_e, sv_e, if_neg (fun x => x.elim h0 (fun y => y h1))]
      · rw [in_f N (fun x => h1 ((cp_in (by omega) h0).mpr x)), ob_e, if_neg (by decide), if_pos (Or.inr h1)]
  have hc1 : f_X7_copy 0 v M = if v < 0 ∨ ¬ v >>> (nI c &&& 31) = 0 then some (-1, M) else f_X7_copy 0 v M := by
    split
    · rename_i h
      unfold f_X7_copy
      by_cases h0 : v < 0
      · rw [if_pos h0]
      · rw [if_neg h0, h04, orf_e, ec, if_neg (h.resolve_left h0)]
    · rfl
  by_cases hbad : v < 0 ∨ ¬ v >>> (nI c &&& 31) = 0
  · rw [if_pos hbad] at hc1
    exact Eqi.same hI0 hc1 (by rw [hm M (by rw [← h14, ec]), if_pos hbad])
  · have h0 : ¬ v < 0 := fun x => hbad (Or.inl x)
    have h1 : v >>> (nI c &&& 31) = 0 := Classical.byContradiction fun x => hbad (Or.inr x)
    rcases hB.2.2.2.2.2 with ⟨b1, b2⟩ | ⟨i, hi, d1, d2, d3, d4, hS⟩
    · have hc0 : c = 0 := nI_inj (by omega) (by decide) (by rw [← ec, b1]; rfl)
      subst hc0
      refine Eqi.same hI0 (r := -2) ?_ ?_
      · unfold f_X7_copy f_X0_bytesWithout
        rw [if_neg h0, h04, orf_e, ec, if_pos h1, orf_e, b2, cCat_no (by grind), ob_e, oca_n, h04, orf_e, sv_e, sv_e, show FU = 4095 + 1 from rfl, f_X0_bytesWithout_L4, ec, if_neg (by decide), ob_e, sv_e]
      · rw [hm M (by rw [← h14, ec]), if_neg hbad, show FU = 4095 + 1 from rfl, f_X8_copy_L22, ← h14, ec, if_neg (by decide)]
        unfold f_X8_copy_L66
        rw [if_pos rfl]
    · obtain ⟨c', z, S, hCS, hc'⟩ := hS.st d3 d4 h14
      have hcc : c' = c := nI_inj (by have := hCS.2.2.1; omega) (by omega) (by rw [← ec, hCS.1])
      subst hcc
      obtain ⟨cn, e1, e2, e3, e4, e5⟩ := hT
      have hic : i < cn := by
        rw [e2] at d1
        exact (nI_ltI (by omega) (by omega)).mp d1
      have hc := e5 i hic
      have hn : 0 ≤ nI i := nI_pos' (by omega)
      have hz0 : 0 ≤ (gi M 2 1).toInt := by
        have := hz.1
        rw [ti_le, ti_0] at this
        exact this
      have hN := cpN_le hCS v c' 0 (by omega)
      have hz3 := hCS.2.2.2.2.1
      have hlen : ∀ f, (cpL f S v c' 0).length = cpN S v c' 0 := fun f => cpL_len f S v c' 0
      have hcl : f_X7_copy 0 v M = if cpN S v c' 0 = 0 then some (-2, M) else if 300 < (gi M 2 1).toInt + (3 + cpN S v c' 0 : Nat) then some (-3, M) else some (nI (3 + cpN S v c' 0), aC M ([gi M (61 + 4 * i) 0, nI (3 + cpN S v c' 0) >>> ((8 : Int32) &&& 31), nI (3 + cpN S v c' 0) &&& 255] ++ cpL (gi M (q + 1)) S v c' 0)) := by
        have hwo := without_eq hr hB.1 hCS v
        have hcopy := lp_ccopy hr hB.1 h04 hCS v (nI (3 + cpN S v c' 0)) FU 0 [gi M (61 + 4 * i) 0, nI (3 + cpN S v c' 0) >>> ((8 : Int32) &&& 31), nI (3 + cpN S v c' 0) &&& 255] (by omega) (by show _ < 4096; omega)
        rw [Nat.sub_zero] at hcopy
        generalize cpN S v c' 0 = N at *
        unfold f_X7_copy
        rw [if_neg h0, h04, orf_e, ec, if_pos h1, orf_e, d2, cCat_yes hr hi hc ⟨hn, d1⟩, ob_e, oca_s, h04, orf_e, hwo, ob_e, sv_e]
        by_cases hN0 : N = 0
        · rw [if_pos hN0, if_pos (by rw [hN0]; rfl)]
        · rw [if_neg hN0, if_neg (nI_ne0 (by omega) (by omega)), show (3 : Int32) + nI N = nI (3 + N) by rw [show (3 : Int32) = nI 3 from rfl, nI_add], sv_e, hr.r0_2, orf_e]
          obtain ⟨rm1, rm2⟩ := room_n hz.1 hz.2 (3 + N) (by omega)
          unfold f_X4_hasRoom
          by_cases hf : 300 < (gi M 2 1).toInt + ((3 + N : Nat) : Int)
          · rw [if_pos (rm1.mpr hf), if_pos hf, ob_e, if_neg (by decide)]
          · have hrm : Rm (gi M 2 1) (3 + N) := ⟨hz.1, by omega⟩
            rw [if_neg (fun q => hf (rm1.mp q)), if_neg hf, ob_e, if_pos rfl, hr.r0_2, orf_e, cHead_eq hr _ _ (hrm.le (by omega)), ob_e, sv_e]
            exact hcopy (hrm.le (by simp only [List.length_cons, List.length_nil]; omega))
      have hml : ∀ (N : JM), RF (gr N) → CSt N q c' z S → gi N 32 15 = nI i → gi N 32 8 = gi M 2 1 → f_X8_copy 32 v N = if cpN S v c' 0 = 0 then some (-2, N) else if 300 < (gi M 2 1).toInt + (3 + cpN S v c' 0 : Nat) then some (-3, N) else some (nI (3 + cpN S v c' 0), aM N ([gi N 33 (nI i) &&& 255, (nI (3 + cpN S v c' 0) >>> ((8 : Int32) &&& 31)) &&& 255, nI (3 + cpN S v c' 0) &&& 255] ++ cpL (fun j => gi N 40 j &&& 255) S v c' 0)) := by
        intro N hrN hCN h15 hN8
        rw [← hN8]
        rw [hm N hCN.2.1, if_neg hbad]
        have hs := lp_msum hrN hCN v FU 0 0 (by omega) (by show _ < 4096; omega)
        rw [Nat.zero_add, Nat.sub_zero] at hs
        have hs2 : f_X8_copy_L22 FU 32 v 3 0 N = f_X8_copy_L66 32 v (nI (3 + cpN S v c' 0)) N := hs
        rw [hs2]
        have hcopy := lp_mcopy hrN hCN v (nI (3 + cpN S v c' 0)) FU 0 [gi N 33 (nI i) &&& 255, (nI (3 + cpN S v c' 0) >>> ((8 : Int32) &&& 31)) &&& 255, nI (3 + cpN S v c' 0) &&& 255] (by omega) (by show _ < 4096; omega)
        rw [Nat.sub_zero] at hcopy
        generalize cpN S v c' 0 = x at *
        unfold f_X8_copy_L66
        by_cases hN0 : x = 0
        · rw [if_pos hN0, if_pos (by rw [hN0]; rfl)]
        · have hne : ¬ nI (3 + x) = 3 := fun y => hN0 (by have := nI_inj (a := 3 + x) (c := 3) (by omega) (by decide) y; omega)
          rw [if_neg hN0, if_neg hne]
          obtain ⟨rm1, rm2⟩ := room_n (z := gi N 32 8) (by rw [hN8]; exact hz.1) (by rw [hN8]; exact hz.2) (3 + x) (by omega)
          by_cases hf : 300 < (gi N 32 8).toInt + ((3 + x : Nat) : Int)
          · rw [if_pos (rm2.mpr hf), if_pos hf]
          · have hrm : Rm (gi N 32 8) (3 + x) := ⟨by rw [hN8]; exact hz.1, by omega⟩
            rw [if_neg (fun q => hf (rm2.mp q)), if_neg hf, hrN.r32_1, orf_e, ln_33, h15, if_pos ⟨hn, nI_lt hi (by decide)⟩]
            have p1 := aM_put hrN (L := []) (gi N 33 (nI i)) (hrm.le (by simp only [List.length_nil]; omega))
            have p2 := aM_put hrN (L := [gi N 33 (nI i) &&& 255]) (nI (3 + x) >>> ((8 : Int32) &&& 31)) (hrm.le (by simp only [List.length_cons, List.length_nil]; omega))
            have p3 := aM_put hrN (L := [gi N 33 (nI i) &&& 255, (nI (3 + x) >>> ((8 : Int32) &&& 31)) &&& 255]) (nI (3 + x)) (hrm.le (by simp only [List.length_cons, List.length_nil]; omega))
            rw [aM_0] at p1
            rw [p1, ob_e]
            show ob (f_X8_put 32 (nI (3 + x) >>> ((8 : Int32) &&& 31)) (aM N [gi N 33 (nI i) &&& 255])) _ = _
            rw [p2, ob_e]
            show ob (f_X8_put 32 (nI (3 + x)) (aM N [gi N 33 (nI i) &&& 255, (nI (3 + x) >>> ((8 : Int32) &&& 31)) &&& 255])) _ = _
            rw [p3, ob_e, sv_e]
            exact hcopy (hrm.le (by simp only [List.length_cons, List.length_nil]; omega))
      have h15 : gi M 32 15 = nI i := by rw [← hB.2.2.2.2.1]; exact d2
      by_cases hN0 : cpN S v c' 0 = 0
      · rw [if_pos hN0] at hcl
        exact Eqi.same hI0 hcl (by rw [hml M hr hCS h15 hP.1.symm, if_pos hN0])
      · rw [if_neg hN0] at hcl
        by_cases hf : 300 < (gi M 2 1).toInt + (3 + cpN S v c' 0 : Nat)
        · rw [if_pos hf] at hcl
          exact Eqi.same hI0 hcl (by rw [hml M hr hCS h15 hP.1.symm, if_neg hN0, if_pos hf])
        · rw [if_neg hf] at hcl
          obtain ⟨hb1, hb2, hb3⟩ := hi_byte (3 + cpN S v c' 0) (by omega)
          have hnum := hc.2.1
          have hL : ([gi M (61 + 4 * i) 0, nI (3 + cpN S v c' 0) >>> ((8 : Int32) &&& 31), nI (3 + cpN S v c' 0) &&& 255] ++ cpL (gi M (q + 1)) S v c' 0).length = 3 + cpN S v c' 0 := by
            rw [List.length_append, hlen]; rfl
          have hbytes : ∀ r' t, r' < c' → t < S (r' + 1) - S r' → gi M (q + 1) (nI (S r') + nI t) = gi M 40 (nI (S r') + nI t) ∧ 0 ≤ gi M 40 (nI (S r') + nI t) ∧ gi M 40 (nI (S r') + nI t) ≤ 255 := by
            intro r' t a b
            have b1 := hCS.le (r := r' + 1) (by omega)
            rw [nI_add]
            exact hS.2.1 _ (nI_pos' (by omega)) (by rw [hCS.2.2.2.1]; exact nI_lt (by omega) (by omega))
          generalize hLL : [gi M (61 + 4 * i) 0, nI (3 + cpN S v c' 0) >>> ((8 : Int32) &&& 31), nI (3 + cpN S v c' 0) &&& 255] ++ cpL (gi M (q + 1)) S v c' 0 = L at *
          have hrm : Rm (gi M 2 1) L.length := ⟨hz.1, by rw [hL]; omega⟩
          have k1 : ∀ k j, k ≠ 3 → k ≠ 2 → gi (aC M L) k j = gi M k j := fun k j x y => keep_aC x (fun q => y q.1)
          have hS1 : CSt (aC M L) q c' z S := by
            obtain ⟨x1, x2, x3, x4, x5, x6, x7, x8⟩ := hCS
            have hq := hB.1
            exact ⟨by rw [k1 q _ (by omega) (by omega)]; exact x1, by rw [k1 32 _ (by omega) (by omega)]; exact x2, x3, by rw [k1 q _ (by omega) (by omega)]; exact x4, x5, by rw [k1 41 _ (by omega) (by omega)]; exact x6, x7, fun r hr => by rw [k1 (q + 2) _ (by omega) (by omega), k1 41 _ (by omega) (by omega)]; exact x8 r hr⟩
          have hmd := hml (aC M L) hr hS1 (by rw [k1 _ _ (by decide) (by decide)]; exact h15) (by rw [k1 _ _ (by decide) (by decide)]; exact hP.1.symm)
          have hLm : [gi (aC M L) 33 (nI i) &&& 255, (nI (3 + cpN S v c' 0) >>> ((8 : Int32) &&& 31)) &&& 255, nI (3 + cpN S v c' 0) &&& 255] ++ cpL (fun j => gi (aC M L) 40 j &&& 255) S v c' 0 = L := by
            refine Eq.trans ?_ hLL
            rw [k1 33 _ (by decide) (by decide), hb1, hnum.1, and255_eq (by grind) hnum.2.2]
            congr 1
            refine cpL_congr c' 0 (fun r' _ a t ht => ?_)
            obtain ⟨v1, v2, v3⟩ := hbytes r' t (by omega) ht
            show gi (aC M L) 40 _ &&& 255 = _
            rw [k1 _ _ (by decide) (by decide), and255_eq v2 v3, v1]
          rw [if_neg hN0, if_neg hf, hLm] at hmd
          refine ⟨_, _, _, hcl, hmd, Inv_tape hI0 rfl rfl (fun k j hd => keep_aCM hd) (aCM_tape hP hrm (fun x hx => ?_))⟩
          rw [← hLL] at hx
          rcases List.mem_append.mp hx with h | h
          · rcases List.mem_cons.mp h with h | h
            · rw [h, hnum.1]; exact ⟨by grind, hnum.2.2⟩
            · rcases List.mem_cons.mp h with h | h
              · rw [h]; exact ⟨hb2, hb3⟩
              · rw [List.mem_singleton.mp h]; exact and255 _
          · obtain ⟨r', t, a, b, w, hj⟩ := cpL_mem _ _ h
            rw [hj]
            obtain ⟨v1, v2, v3⟩ := hbytes r' t (by omega) w
            rw [v1]
            exact ⟨v2, v3⟩
