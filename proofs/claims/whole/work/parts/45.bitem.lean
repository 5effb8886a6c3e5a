/-! PURE PART: item, part, tells -/
/-- a category is in use, as the reference asks it -/
abbrev Use (M : JM) (v : Int32) : Prop := (0 < gi M 32 14 ∧ gi M 32 15 = v) ∨ gi M 32 25 = v
theorem Use.dec (M : JM) (v : Int32) : Use M v ∨ ¬ Use M v := Classical.em _
theorem mUse_t {M : JM} {v : Int32} (h : Use M v) : f_X8_isInUse 32 v M = some (true, M) := by
  unfold f_X8_isInUse f_X8_isInUse_L15 f_X8_isInUse_L23
  rcases h with ⟨h1, h2⟩ | h
  · rw [if_pos h1, if_pos h2]
  · rw [if_pos h]
    split
    · split <;> rfl
    · rfl
theorem mUse_f {M : JM} {v : Int32} (h : ¬ Use M v) : f_X8_isInUse 32 v M = some (false, M) := by
  unfold f_X8_isInUse f_X8_isInUse_L15 f_X8_isInUse_L23
  rw [if_neg (fun q => h (Or.inr q))]
  by_cases h1 : 0 < gi M 32 14
  · rw [if_pos h1, if_neg (fun q => h (Or.inl ⟨h1, q⟩))]
  · rw [if_neg h1]
theorem use_iff {M : JM} {i q : Nat} (hB : IBlq M q) (hO : IOwn M) (hi : i < 3) : Use M (nI i) ↔ gi M q 0 = nI i ∨ gi M 15 0 = nI i := by
  obtain ⟨hq, h1, h2, h3, h4, h5⟩ := hB
  have hn : 0 ≤ nI i := nI_pos' (by omega)
  have hO1 : gi M 15 0 = nI i ↔ gi M 32 25 = nI i := by
    rcases hO.1 with ⟨a, b⟩ | ⟨k, a1, a2, a, b⟩ <;> rw [a, b] <;> grind
  have hB1 : gi M q 0 = nI i ↔ (0 < gi M 32 14 ∧ gi M 32 15 = nI i) := by
    rw [← h3, ← h4]
    rcases h5 with ⟨a, b⟩ | ⟨k, a1, a2, a3, a4, a5, -⟩ <;> grind
  unfold Use
  rw [hO1, hB1]
theorem cUse_t {M : JM} {i q : Nat} (hr : RF (gr M)) (hB : IBlq M q) (hO : IOwn M) (hi : i < 3) (h : Use M (nI i)) : f_X7_isInUse 0 (nI i) M = some (true, M) := by
  unfold f_X7_isInUse f_X7_isInUse_L22
  rw [hB.2.1, orf_e, hr.r0_6, orf_e]
  rcases (use_iff hB hO hi).mp h with h | h
  · rw [if_pos h]
  · rw [if_pos h]
    split <;> rfl
theorem cUse_f {M : JM} {i q : Nat} (hr : RF (gr M)) (hB : IBlq M q) (hO : IOwn M) (hi : i < 3) (h : ¬ Use M (nI i)) : f_X7_isInUse 0 (nI i) M = some (false, M) := by
  unfold f_X7_isInUse f_X7_isInUse_L22
  rw [use_iff hB hO hi] at h
  rw [hB.2.1, orf_e, hr.r0_6, orf_e, if_neg (fun q => h (Or.inl q)), if_neg (fun q => h (Or.inr q))]
theorem lp_becomes (v1 v2 y : Int32) (hy : 14 * (22 * v1 + v2) = y) (h0 : 0 ≤ y) (h1 : y ≤ 910) : ∀ (n : Nat) (i : Int32) (M : JM), RF (gr M) → 0 ≤ i → i ≤ 14 → (14 : Int32).toInt - i.toInt < (n : Int) → f_X8_becomes_L28 n 32 v1 v2 i M = some ((), fil M 36 (y + i) (y + 14) 0) := by
  intro n
  induction n with
  | zero => intro i M hr g0 g1 hn; exact (up_no g1 hn).elim
  | succ n ih =>
    intro i M hr g0 g1 hn
    rw [f_X8_becomes_L28]
    by_cases c : i < 14
    · rw [if_pos c, hr.r32_4, orf_e, hy, ln_36, if_pos (by constructor <;> grind), sq_e, sv_e, ih _ _ (by rw [Gr_si]; exact hr) (by grind) (up_le c) (up_lt c hn)]
      rw [show y + (i + 1) = y + i + 1 by grind, fil_si M 36 (y + i) (y + 14) 0 (by grind) (by grind)]
    · rw [if_neg c, fil_0 M 36 (y + i) (y + 14) 0 (by grind)]
def upC (M : JM) (i : Nat) (p K N : Int32) : JM := fil (si (si M (62 + 4 * i) p K) (63 + 4 * i) p N) (64 + 4 * i) (p * 14) ((p + 1) * 14) 0
def upM (M : JM) (x K N : Int32) : JM := fil (si (si M 34 x K) 35 x N) 36 (14 * x) (14 * x + 14) 0
theorem Gr_upC (M : JM) (i : Nat) (p K N : Int32) : gr (upC M i p K N) = gr M := rfl
theorem Gr_upM (M : JM) (x K N : Int32) : gr (upM M x K N) = gr M := rfl
theorem Gn_upC (M : JM) (i : Nat) (p K N : Int32) : gn (upC M i p K N) = gn M := rfl
theorem Gn_upM (M : JM) (x K N : Int32) : gn (upM M x K N) = gn M := rfl
theorem gi_upC (M : JM) (i : Nat) (p K N : Int32) (k : Nat) (j : Int32) : gi (upC M i p K N) k j = if k = 64 + 4 * i ∧ p * 14 ≤ j ∧ j < (p + 1) * 14 then 0 else if k = 63 + 4 * i ∧ j = p then N else if k = 62 + 4 * i ∧ j = p then K else gi M k j := rfl
theorem gi_upM (M : JM) (x K N : Int32) (k : Nat) (j : Int32) : gi (upM M x K N) k j = if k = 36 ∧ 14 * x ≤ j ∧ j < 14 * x + 14 then 0 else if k = 35 ∧ j = x then N else if k = 34 ∧ j = x then K else gi M k j := rfl
theorem becomes_eq {M : JM} (hr : RF (gr M)) (c p K N : Int32) (h0 : 0 ≤ 22 * c + p) (h1 : 22 * c + p < 66) : f_X8_becomes 32 c p K N M = some ((), upM M (22 * c + p) K N) := by
  unfold f_X8_becomes
  rw [hr.r32_2, orf_e, ln_34, if_pos ⟨h0, h1⟩, sq_e, Gr_si, hr.r32_3, orf_e, ln_35, if_pos ⟨h0, h1⟩, sq_e, sv_e]
  rw [lp_becomes c p (14 * (22 * c + p)) rfl (by grind) (by grind) FU 0 _ (by rw [Gr_si, Gr_si]; exact hr) (by decide) (by decide) (up_fu (by decide) (by decide))]
  rw [show 14 * (22 * c + p) + 0 = 14 * (22 * c + p) by grind]
  rfl
theorem putItem_eq {M : JM} {i : Nat} (hi : i < 3) (hc : ICat M i) (p k n : Int32) (h0 : 0 ≤ p) (h1 : p ≤ 21) : f_X1_putItem (61 + 4 * i) p k n M = some ((), upC M i p (if k = -1 then -9 else k) (if k = 0 ∨ k = 2 then n else 0)) := by
  have l1 : 0 ≤ p ∧ p < 22 := ⟨h0, by grind⟩
  have tail : ∀ K N : Int32, f_X1_putItem_L36 (61 + 4 * i) p N p (63 + 4 * i) (si M (62 + 4 * i) p K) = some ((), upC M i p K N) := by
    intro K N
    unfold f_X1_putItem_L36
    rw [ln_sizes hi, if_pos l1, sq_e, Gr_si, Gr_si, hc.1.2.2.2, orf_e, fill_part _ _ _ _ _ (by grind) (by grind) (by rw [ln_parts hi]; grind) (by rw [ln_parts hi]; decide), ob_e]
    rfl
  have mid : ∀ K : Int32, f_X1_putItem_L16 (61 + 4 * i) p k n K p (62 + 4 * i) M = some ((), upC M i p K (if k = 0 ∨ k = 2 then n else 0)) := by
    intro K
    unfold f_X1_putItem_L16 f_X1_putItem_L31
    rw [ln_kinds hi, if_pos l1, sq_e, Gr_si, hc.1.2.2.1, orf_e, tail, tail]
    by_cases k0 : k = 0
    · rw [if_pos k0, if_pos (Or.inl k0)]
    · rw [if_neg k0]
      by_cases k2 : k = 2
      · rw [if_pos k2, if_pos (Or.inr k2)]
      · rw [if_neg k2, if_neg (by rintro (h | h) <;> contradiction)]
  unfold f_X1_putItem
  rw [hc.1.2.1, orf_e, mid, mid]
  by_cases k1 : k = -1
  · rw [if_pos k1, if_pos k1]
  · rw [if_neg k1, if_neg k1]
theorem ix_ne {i i' : Nat} {p p' : Int32} (hi : i < 3) (hi' : i' < 3) (hne : i' ≠ i) (h0 : 0 ≤ p) (h1 : p ≤ 21) (h2 : 0 ≤ p') (h3 : p' ≤ 21) : ¬ 22 * nI i' + p' = 22 * nI i + p := by
  rcases nI3 hi with ⟨e, h⟩ | ⟨e, h⟩ | ⟨e, h⟩ <;> rcases nI3 hi' with ⟨e', h'⟩ | ⟨e', h'⟩ | ⟨e', h'⟩ <;> first | (exfalso; omega) | (rw [h, h']; grind)
theorem ICat_item {M : JM} {i i' : Nat} {p K N : Int32} (hi : i < 3) (hi' : i' < 3) (hc : ICat M i') (h0 : 1 ≤ p) (h1 : p ≤ 21) (hk : kOk K N) : ICat (upM (upC M i p K N) (22 * nI i + p) K N) i' := by
  obtain ⟨c1, c2, c3, c4, c5, c6⟩ := hc
  have hx := ix_kind (p := p) hi (by grind) h1
  have a61 : ∀ j, gi (upM (upC M i p K N) (22 * nI i + p) K N) (61 + 4 * i') j = gi M (61 + 4 * i') j := by
    intro j
    rw [gi_upM, gi_upC, if_neg (by omega), if_neg (by omega), if_neg (by omega), if_neg (by omega), if_neg (by omega), if_neg (by omega)]
  have a62 : ∀ j, gi (upM (upC M i p K N) (22 * nI i + p) K N) (62 + 4 * i') j = if i' = i ∧ j = p then K else gi M (62 + 4 * i') j := by
    intro j
    rw [gi_upM, gi_upC, if_neg (by omega), if_neg (by omega), if_neg (by omega), if_neg (by omega), if_neg (by omega)]
    simp only [show (62 + 4 * i' = 62 + 4 * i) = (i' = i) by apply propext; omega]
  have a63 : ∀ j, gi (upM (upC M i p K N) (22 * nI i + p) K N) (63 + 4 * i') j = if i' = i ∧ j = p then N else gi M (63 + 4 * i') j := by
    intro j
    rw [gi_upM, gi_upC, if_neg (by omega), if_neg (by omega), if_neg (by omega), if_neg (by omega)]
    rw [if_neg (c := 63 + 4 * i' = 62 + 4 * i ∧ j = p) (by omega)]
    simp only [show (63 + 4 * i' = 63 + 4 * i) = (i' = i) by apply propext; omega]
  have a64 : ∀ j, gi (upM (upC M i p K N) (22 * nI i + p) K N) (64 + 4 * i') j = if i' = i ∧ p * 14 ≤ j ∧ j < (p + 1) * 14 then 0 else gi M (64 + 4 * i') j := by
    intro j
    rw [gi_upM, gi_upC, if_neg (by omega), if_neg (by omega), if_neg (by omega)]
    rw [if_neg (c := 64 + 4 * i' = 63 + 4 * i ∧ j = p) (by omega), if_neg (c := 64 + 4 * i' = 62 + 4 * i ∧ j = p) (by omega)]
    simp only [show (64 + 4 * i' = 64 + 4 * i) = (i' = i) by apply propext; omega]
  have a33 : ∀ k j, k = 33 ∨ k = 37 ∨ k = 38 → gi (upM (upC M i p K N) (22 * nI i + p) K N) k j = gi M k j := by
    intro k j hk
    rw [gi_upM, gi_upC, if_neg (by omega), if_neg (by omega), if_neg (by omega), if_neg (by omega), if_neg (by omega), if_neg (by omega)]
  have a34 : ∀ j, gi (upM (upC M i p K N) (22 * nI i + p) K N) 34 j = if j = 22 * nI i + p then K else gi M 34 j := by
    intro j
    rw [gi_upM, gi_upC, if_neg (by omega), if_neg (by omega)]
    rw [if_neg (c := 34 = 64 + 4 * i ∧ _) (by omega), if_neg (c := 34 = 63 + 4 * i ∧ _) (by omega), if_neg (c := 34 = 62 + 4 * i ∧ _) (by omega)]
    simp only [true_and]
  have a35 : ∀ j, gi (upM (upC M i p K N) (22 * nI i + p) K N) 35 j = if j = 22 * nI i + p then N else gi M 35 j := by
    intro j
    rw [gi_upM, gi_upC, if_neg (by omega)]
    rw [if_neg (c := 35 = 34 ∧ _) (by omega), if_neg (c := 35 = 64 + 4 * i ∧ _) (by omega), if_neg (c := 35 = 63 + 4 * i ∧ _) (by omega), if_neg (c := 35 = 62 + 4 * i ∧ _) (by omega)]
    simp only [true_and]
  have a36 : ∀ j, gi (upM (upC M i p K N) (22 * nI i + p) K N) 36 j = if 14 * (22 * nI i + p) ≤ j ∧ j < 14 * (22 * nI i + p) + 14 then 0 else gi M 36 j := by
    intro j
    rw [gi_upM, gi_upC]
    rw [if_neg (c := 36 = 35 ∧ _) (by omega), if_neg (c := 36 = 34 ∧ _) (by omega), if_neg (c := 36 = 64 + 4 * i ∧ _) (by omega), if_neg (c := 36 = 63 + 4 * i ∧ _) (by omega), if_neg (c := 36 = 62 + 4 * i ∧ _) (by omega)]
    simp only [true_and]
  refine ⟨by rw [Gr_upM, Gr_upC]; exact c1, ?_, fun p' b1 b2 => ?_, ?_, fun p' t b1 b2 b3 b4 => ?_, ?_⟩
  · rw [a61, a33 33 _ (by omega)]; exact c2
  · rw [a62, a63, a34, a35]
    by_cases hii : i' = i
    · subst hii
      by_cases hpp : p' = p
      · subst hpp
        simp only [and_self, if_true, true_and]
        exact hk
      · have hne : ¬ 22 * nI i' + p' = 22 * nI i' + p := by grind
        simp only [hpp, hne, and_false, if_false]
        exact c3 p' b1 b2
    · have hne := ix_ne (p := p) (p' := p') hi hi' hii (by grind) h1 b1 b2
      simp only [hii, hne, false_and, if_false]
      exact c3 p' b1 b2
  · rw [a62, if_neg (by grind)]; exact c4
  · rw [a64, a36]
    have hr := ix_part (t := t) hi' b1 b2 b3 b4
    by_cases hii : i' = i
    · subst hii
      by_cases hpp : p' = p
      · subst hpp
        rw [if_pos ⟨rfl, by grind, by grind⟩, if_pos ⟨by grind, by grind⟩]
        exact ⟨rfl, by decide, by decide⟩
      · rw [if_neg (by grind), if_neg ?_]
        · exact c5 p' t b1 b2 b3 b4
        · rcases nI3 hi with ⟨-, h⟩ | ⟨-, h⟩ | ⟨-, h⟩ <;> rw [h] <;> grind
    · rw [if_neg (fun q => hii q.1), if_neg ?_]
      · exact c5 p' t b1 b2 b3 b4
      · rcases nI3 hi with ⟨e, h⟩ | ⟨e, h⟩ | ⟨e, h⟩ <;> rcases nI3 hi' with ⟨e', h'⟩ | ⟨e', h'⟩ | ⟨e', h'⟩ <;> first | (exfalso; omega) | (rw [h, h']; grind)
  · rw [a61, a61, a33 37 _ (by omega), a33 38 _ (by omega)]; exact c6

theorem keep_item {M : JM} {i : Nat} {p x K N : Int32} {k : Nat} {j : Int32} (h1 : k ≠ 62 + 4 * i) (h2 : k ≠ 63 + 4 * i) (h3 : k ≠ 64 + 4 * i) (h4 : k ≠ 34) (h5 : k ≠ 35) (h6 : k ≠ 36) : gi (upM (upC M i p K N) x K N) k j = gi M k j := by
  rw [gi_upM, gi_upC, if_neg (by omega), if_neg (by omega), if_neg (by omega), if_neg (by omega), if_neg (by omega), if_neg (by omega)]
theorem Inv_item {M : JM} {i : Nat} {p K N : Int32} (hI : Inv M) (hi : i < 3) (h0 : 1 ≤ p) (h1 : p ≤ 21) (hk : kOk K N) (hu : ¬ Use M (nI i)) : Inv (upM (upC M i p K N) (22 * nI i + p) K N) := by
  obtain ⟨hr, hT, hP, hB, hO, hK, hM⟩ := hI
  have hB0 := hB
  obtain ⟨q, hBq⟩ := hB
  refine ⟨hr, ?_, ?_, ?_, ?_, ?_, ?_⟩
  · obtain ⟨c, c1, c2, c3, c4, c5⟩ := hT
    exact ⟨c, c1, by rw [keep_item] <;> first | omega | exact c2, by rw [keep_item] <;> first | omega | exact c3, c4, fun i' hi' => ICat_item hi (by omega) (c5 i' hi') h0 h1 hk⟩
  · exact hP.congr (fun k j hd => by unfold depTape at hd; exact keep_item (by omega) (by omega) (by omega) (by omega) (by omega) (by omega))
  · refine hB0.congr rfl (fun k j hd => ?_) (keep_item (by omega) (by omega) (by omega) (by omega) (by omega) (by omega)) (fun i' k j hi' hx hk => ?_)
    · unfold depBlk at hd
      exact keep_item (by omega) (by omega) (by omega) (by omega) (by omega) (by omega)
    · obtain ⟨q', hq', e1, e2⟩ := hx
      have hii : i' ≠ i := by
        intro e
        subst e
        have hqq : q' = q := by
          have := hBq.2.1
          rw [e1] at this
          exact Option.some.inj this
        subst hqq
        exact hu ((use_iff hBq hO hi).mpr (Or.inl e2))
      exact keep_item (by omega) (by omega) (by omega) (by omega) (by omega) (by omega)
  · exact hO.congr (fun k j hd => by unfold depOwn at hd; exact keep_item (by omega) (by omega) (by omega) (by omega) (by omega) (by omega)) (keep_item (by omega) (by omega) (by omega) (by omega) (by omega) (by omega))
  · exact hK.congr rfl (fun k j hd => by unfold depTrk at hd; exact keep_item (by omega) (by omega) (by omega) (by omega) (by omega) (by omega))
  · unfold IMis
    rw [keep_item (k := 0) (by omega) (by omega) (by omega) (by omega) (by omega) (by omega), keep_item (k := 32) (by omega) (by omega) (by omega) (by omega) (by omega) (by omega), keep_item (k := 0) (by omega) (by omega) (by omega) (by omega) (by omega) (by omega), keep_item (k := 32) (by omega) (by omega) (by omega) (by omega) (by omega) (by omega)]
    exact hM
