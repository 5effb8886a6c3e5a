/-! PURE PART: the reference's block -/
def BlM (M D : JM) (r : Nat) (S : Nat → Nat) (PP : Nat → Nat → Nat) : Prop := MR M D ∧ gi D 32 20 = nI r ∧ (∀ r', r' < r → gi D 44 (nI r') = nI (S r') ∧ ∀ t, t < 21 → gi D 45 (nI (22 * r' + t + 1)) = nI (PP r' t) ∧ gi D 46 (nI (22 * r' + t + 1)) = nI (PP r' (t + 1) - PP r' t)) ∧ (0 < r → gi D 44 (nI r) = nI (S r))
theorem lp_mgo {M : JM} {T : Int32 → Int32} {z : Nat} (h : RdD M T z) (p0 : Int32) {i : Nat} (hi : i < 3) (hc : ICat M i) {c : Nat} (hc8 : c ≤ 8) {S N : Nat → Nat} {PP : Nat → Nat → Nat} (hB : BkT M i T z c S N PP) : ∀ (n r : Nat) (D : JM), r ≤ c → c - r < n → BlM M D r S PP → ∃ D', BlM M D' c S PP ∧ f_X8_readBlock_L84 n 32 (nI i) (mdM D (nI (S r)) 0 p0) = f_X8_readBlock_L84 (n - (c - r)) 32 (nI i) (mdM D' (nI (S c)) 0 p0) := by
  have hz := h.2.2.1
  intro n
  induction n with
  | zero => intro r D _ h; omega
  | succ n ih =>
    intro r D hr hn hD
    by_cases hrc : r = c
    · subst hrc
      exact ⟨D, hD, by rw [Nat.sub_self]; rfl⟩
    · obtain ⟨b1, b2, b3⟩ := hB.2 r (by omega)
      obtain ⟨d1, d2, d3, d4⟩ := hD
      obtain ⟨D1, e, f1, f2, f3, f4, f5, f6, f7⟩ := mrec_ok h p0 hi hc (r := r) (by omega) b2 d1 d2
      have hD1 : BlM M D1 (r + 1) S PP := by
        refine ⟨f1, f2, fun r' hr' => ?_, fun _ => by rw [f3, b3]⟩
        by_cases e : r' = r
        · subst e
          exact ⟨f4, f6⟩
        · obtain ⟨y1, y2⟩ := d3 r' (by omega)
          refine ⟨by rw [f5 r' (by omega)]; exact y1, fun t ht => ?_⟩
          obtain ⟨x1, x2⟩ := f7 (22 * r' + t + 1) (by omega) (by omega)
          rw [x1, x2]
          exact y2 t ht
      obtain ⟨D', g1, g2⟩ := ih (r + 1) D1 (by omega) (by omega) hD1
      refine ⟨D', g1, ?_⟩
      have hD' := d1.rdd h
      rw [f_X8_readBlock_L84, md11, if_pos (show (0 : Int32) = 0 from rfl), md9, md10, hD'.2.1, if_pos (nI_lt b1 (by omega)), e, ob_e, ← b3, g2, show n + 1 - (c - r) = n - (c - (r + 1)) by omega]
theorem mblk_ok {M : JM} {T : Int32 → Int32} {z : Nat} (h : RdD M T z) (p0 : Int32) {i : Nat} (hi : i < 3) (hc : ICat M i) (h20 : gi M 32 20 = 0) {c : Nat} (hc8 : c ≤ 8) {S N : Nat → Nat} {PP : Nat → Nat → Nat} (hB : BkT M i T z c S N PP) (hS : S c = z) : ∃ D', f_X8_readBlock_L84 FU 32 (nI i) (mdM M 3 0 p0) = some (nI i, mdM D' (nI z) 0 p0) ∧ BlM M D' c S PP := by
  obtain ⟨D', f1, f2⟩ := lp_mgo h p0 hi hc hc8 hB FU 0 M (by omega) (by show _ < 4096; omega) ⟨MR.refl M, h20, fun r' hr => by omega, fun y => absurd y (by decide)⟩
  rw [hB.1] at f2
  refine ⟨D', ?_, f1⟩
  have hD' := f1.1.rdd h
  show f_X8_readBlock_L84 FU 32 (nI i) (mdM M (nI 3) 0 p0) = _
  rw [f2, hS, show FU - (c - 0) = 4095 - c + 1 by show 4096 - (c - 0) = _; omega, f_X8_readBlock_L84, md11, if_pos (show (0 : Int32) = 0 from rfl), md9, md10, hD'.2.1, if_neg Int32.lt_irrefl]
theorem l84_d {D : JM} {v n g u : Int32} (hg : g ≠ 0) (k : Nat) : f_X8_readBlock_L84 (k + 1) 32 v (mdM D n g u) = some (v, mdM D n g u) := by
  rw [f_X8_readBlock_L84, md11, if_neg hg]
theorem mblk_bad {M : JM} {T : Int32 → Int32} {z : Nat} (h : RdD M T z) (p0 : Int32) {i : Nat} (hi : i < 3) (hc : ICat M i) (h20 : gi M 32 20 = 0) {f u : Int32} (hB : BkBad M i T z f u) : ∃ D' n', f_X8_readBlock_L84 FU 32 (nI i) (mdM M 3 0 p0) = some (nI i, mdM D' n' f u) ∧ MR M D' := by
  have hz := h.2.2.1
  rcases hB with ⟨c, S, N, PP, hc8, hB, hS, hR⟩ | ⟨S, N, PP, hB, hS, rfl, rfl⟩
  · obtain ⟨D', f1, f2⟩ := lp_mgo h p0 hi hc (by omega) hB FU 0 M (by omega) (by show _ < 4096; omega) ⟨MR.refl M, h20, fun r' hr => by omega, fun y => absurd y (by decide)⟩
    rw [hB.1] at f2
    obtain ⟨D2, n2, e, hD2⟩ := mrec_bad h p0 hi hc hc8 (x := S c) (by omega) hR f1.1 f1.2.1
    refine ⟨D2, n2, ?_, hD2⟩
    have hD' := f1.1.rdd h
    show f_X8_readBlock_L84 FU 32 (nI i) (mdM M (nI 3) 0 p0) = _
    rw [f2, show FU - (c - 0) = 4094 - c + 1 + 1 by show 4096 - (c - 0) = _; omega, f_X8_readBlock_L84, md11, if_pos (show (0 : Int32) = 0 from rfl), md9, md10, hD'.2.1, if_pos (nI_lt hS (by omega)), e, ob_e, l84_d hR.1]
  · obtain ⟨D', f1, f2⟩ := lp_mgo h p0 hi hc (by omega) hB FU 0 M (by omega) (by show _ < 4096; omega) ⟨MR.refl M, h20, fun r' hr => by omega, fun y => absurd y (by decide)⟩
    rw [hB.1] at f2
    obtain ⟨D2, n2, e, hD2⟩ := mrec_nin h p0 hi hc (x := S 8) hS f1.1 f1.2.1
    refine ⟨D2, n2, ?_, hD2⟩
    have hD' := f1.1.rdd h
    show f_X8_readBlock_L84 FU 32 (nI i) (mdM M (nI 3) 0 p0) = _
    rw [f2, show FU - (8 - 0) = 4086 + 1 + 1 from rfl, f_X8_readBlock_L84, md11, if_pos (show (0 : Int32) = 0 from rfl), md9, md10, hD'.2.1, if_pos (nI_lt hS (by omega)), e, ob_e, l84_d (nin_f M i T (S 8))]
/-- the length that stands ahead of the reference's tape -/
def lenD (D : JM) : Int32 := if gi D 32 8 < 3 then 0 else (gi D 39 1 <<< ((8 : Int32) &&& 31)) ||| gi D 39 2
theorem len_or {b1 b2 : Nat} (h1 : b1 < 256) (h2 : b2 < 256) : (nI b1 <<< ((8 : Int32) &&& 31)) ||| nI b2 = nI b1 * 256 + nI b2 := by
  have e : nI b1 <<< ((8 : Int32) &&& 31) = nI (b1 * 256) := pk_shlN _ 8 (by decide) (by omega)
  rw [e, show (256 : Int32) = nI 256 from rfl, pk_mul, nI_add]
  apply Int32.toBitVec_inj.mp
  apply BitVec.eq_of_toNat_eq
  rw [Int32.toBitVec_or, BitVec.toNat_or, pk_tn (by omega), pk_tn (by omega), pk_tn (by omega)]
  have := Nat.shiftLeft_add_eq_or_of_lt (i := 8) (b := b2) (by omega) b1
  rw [Nat.shiftLeft_eq] at this
  exact this.symm
theorem find_eq {D : JM} (hr : RF (gr D)) {c : Nat} (hc3 : c ≤ 3) (hc : gi D 32 0 = nI c) (v : Int32) : f_X8_find 32 v D = some (fnd (fun i => gi D 33 (nI i)) v c 0, D) := by
  unfold f_X8_find
  rw [sv_e]
  exact lp_find hr hc3 hc v FU 0 (by omega) (by show _ < 4096; omega)
theorem l69_eq (M : JM) (v1 v2 n f p : Int32) : f_X8_readBlock_L69 32 v1 v2 (mdM M n f p) = f_X8_readBlock_L84 FU 32 v1 (mdM (si (si M 32 10 v2) 32 20 0) 3 f p) := by
  unfold f_X8_readBlock_L69
  rw [sq_e, md_n, sq_e, md_si (by decide), sq_e, md_si (by decide)]
theorem mrb_eq {M : JM} (hr : RF (gr M)) {c : Nat} (hc3 : c ≤ 3) (hc : gi M 32 0 = nI c) (n0 p0 : Int32) :
    (fnd (fun i => gi M 33 (nI i)) (gi M 39 0) c 0 = -9 → ∃ v, f_X8_readBlock 32 (mdM M n0 0 p0) = some (-9, mdM (si (si M 32 10 v) 32 20 0) 3 1 0)) ∧
    (∀ i, i < c → fnd (fun i => gi M 33 (nI i)) (gi M 39 0) c 0 = nI i → (lenD M < 4 ∨ gi M 32 8 < lenD M) → ∃ v, f_X8_readBlock 32 (mdM M n0 0 p0) = some (nI i, mdM (si (si M 32 10 v) 32 20 0) 3 2 1)) ∧
    (∀ i, i < c → fnd (fun i => gi M 33 (nI i)) (gi M 39 0) c 0 = nI i → ¬ lenD M < 4 → ¬ gi M 32 8 < lenD M → f_X8_readBlock 32 (mdM M n0 0 p0) = f_X8_readBlock_L84 FU 32 (nI i) (mdM (si (si M 32 10 (lenD M)) 32 20 0) 3 0 p0)) := by
  have hf : f_X8_find 32 (gi M 39 0) (mdM M n0 0 p0) = some (fnd (fun i => gi M 33 (nI i)) (gi M 39 0) c 0, mdM M n0 0 p0) := by
    rw [find_eq (D := mdM M n0 0 p0) hr hc3 (by rw [md_k (by decide)]; exact hc)]
    rw [fnd_congr c 0 (f := fun i => gi (mdM M n0 0 p0) 33 (nI i)) (g := fun i => gi M 33 (nI i)) (fun j _ _ => md_k (by omega))]
  have h21 : ∀ v1 f p, f_X8_readBlock_L21 32 v1 (mdM M n0 f p) = f_X8_readBlock_L49 32 v1 (lenD M) (mdM M n0 f p) := by
    intro v1 f p
    unfold f_X8_readBlock_L21 lenD
    rw [md_k (by decide)]
    by_cases h3 : gi M 32 8 < 3
    · rw [if_pos h3, if_pos h3]
    · rw [if_neg h3, if_neg h3, Gr_md, hr.r32_7, orf_e, ln_39, if_pos (by decide), orf_e, if_pos (by decide), md_k (by decide), md_k (by decide)]
  have h63 : ∀ v1 v2 f p, f ≠ 0 → f_X8_readBlock_L63 32 v1 v2 (mdM M n0 f p) = some (v1, mdM (si (si M 32 10 v2) 32 20 0) 3 f p) := by
    intro v1 v2 f p hf
    unfold f_X8_readBlock_L63
    rw [fails_n hf, ob_e, l69_eq, show FU = 4095 + 1 from rfl, l84_d hf]
  have hhead : f_X8_readBlock 32 (mdM M n0 0 p0) = if fnd (fun i => gi M 33 (nI i)) (gi M 39 0) c 0 < 0 then f_X8_readBlock_L21 32 (fnd (fun i => gi M 33 (nI i)) (gi M 39 0) c 0) (mdM M n0 1 0) else f_X8_readBlock_L21 32 (fnd (fun i => gi M 33 (nI i)) (gi M 39 0) c 0) (mdM M n0 0 p0) := by
    unfold f_X8_readBlock
    rw [Gr_md, hr.r32_7, orf_e, ln_39, if_pos (by decide), md_k (by decide), hf, ob_e, sv_e, fails_y, ob_e]
  rw [hhead]
  refine ⟨fun e => ?_, fun i hi e hl => ?_, fun i hi e h1 h2 => ?_⟩
  · refine ⟨lenD M, ?_⟩
    rw [e, if_pos (by decide), h21]
    unfold f_X8_readBlock_L49
    rw [sv_e, h63 _ _ _ _ (by decide), l69_eq, show FU = 4095 + 1 from rfl, l84_d (by decide)]
    split
    · rfl
    · split <;> rfl
  · refine ⟨lenD M, ?_⟩
    have h2 : f_X8_readBlock_L63 32 (nI i) (lenD M) (mdM M n0 0 p0) = some (nI i, mdM (si (si M 32 10 (lenD M)) 32 20 0) 3 2 1) := by
      unfold f_X8_readBlock_L63
      rw [fails_y, ob_e, l69_eq, show FU = 4095 + 1 from rfl, l84_d (by decide)]
    rw [e, if_neg (nI_pos (by omega)), h21]
    unfold f_X8_readBlock_L49
    rw [sv_e, h2, md_k (by decide)]
    by_cases h1 : lenD M < 4
    · rw [if_pos h1]
    · rw [if_neg h1, if_pos (hl.resolve_left h1)]
  · rw [e, if_neg (nI_pos (by omega)), h21]
    unfold f_X8_readBlock_L49
    rw [sv_e, md_k (by decide), if_neg h1, if_neg h2, l69_eq]
