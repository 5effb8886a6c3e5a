/-! PURE PART: bytes that come to the tape, as a list -/
def lb (L : List Int32) (z j : Int32) : Int32 := L.getD (j - z).toInt.toNat 0
def aC (M : JM) (L : List Int32) : JM := pC M (lb L (gi M 2 1)) (gi M 2 1 + nI L.length)
def aM (M : JM) (L : List Int32) : JM := pM M (lb L (gi M 32 8)) (gi M 32 8 + nI L.length)
theorem Gr_aC (M : JM) (L : List Int32) : gr (aC M L) = gr M := rfl
theorem Gr_aM (M : JM) (L : List Int32) : gr (aM M L) = gr M := rfl
theorem Gn_aC (M : JM) (L : List Int32) : gn (aC M L) = gn M := rfl
theorem Gn_aM (M : JM) (L : List Int32) : gn (aM M L) = gn M := rfl
theorem pC_congr {M : JM} {β β' : Int32 → Int32} {h : Int32} (hb : ∀ j, gi M 2 1 ≤ j → j < h → β j = β' j) : pC M β h = pC M β' h := by
  refine JM_ext (fun k j => ?_) (by rw [Gr_pC, Gr_pC]) (by rw [Gn_pC, Gn_pC])
  rw [gi_pC, gi_pC]
  by_cases a : k = 2 ∧ j = 1
  · rw [if_pos a, if_pos a]
  · rw [if_neg a, if_neg a]
    by_cases b : k = 3 ∧ gi M 2 1 ≤ j ∧ j < h
    · rw [if_pos b, if_pos b, hb j b.2.1 b.2.2]
    · rw [if_neg b, if_neg b]
theorem pM_congr {M : JM} {β β' : Int32 → Int32} {h : Int32} (hb : ∀ j, gi M 32 8 ≤ j → j < h → β j = β' j) : pM M β h = pM M β' h := by
  refine JM_ext (fun k j => ?_) (by rw [Gr_pM, Gr_pM]) (by rw [Gn_pM, Gn_pM])
  rw [gi_pM, gi_pM]
  by_cases a : k = 32 ∧ j = 8
  · rw [if_pos a, if_pos a]
  · rw [if_neg a, if_neg a]
    by_cases b : k = 39 ∧ gi M 32 8 ≤ j ∧ j < h
    · rw [if_pos b, if_pos b, hb j b.2.1 b.2.2]
    · rw [if_neg b, if_neg b]
theorem add_0 (x : Int32) : x + nI 0 = x := by rw [show nI 0 = 0 from rfl]; grind
theorem aC_0 (M : JM) : aC M [] = M := by
  unfold aC
  rw [show ([] : List Int32).length = 0 from rfl, add_0, pC_0]
theorem aM_0 (M : JM) : aM M [] = M := by
  unfold aM
  rw [show ([] : List Int32).length = 0 from rfl, add_0, pM_0]
/-- an index into the list -/
theorem ix_sub {z j : Int32} {n : Nat} (h0 : 0 ≤ z) (h1 : z ≤ 300) (h2 : z ≤ j) (h3 : j < z + nI n) (hn : n ≤ 300) : (j - z).toInt = j.toInt - z.toInt ∧ j.toInt - z.toInt < n ∧ z.toInt ≤ j.toInt := by
  have e0 : (0 : Int32).toInt = 0 := rfl
  have e3 : (300 : Int32).toInt = 300 := rfl
  have en : (nI n).toInt = n := nI_toInt (by omega)
  rw [ti_le, e0] at h0
  rw [ti_le, e3] at h1
  rw [ti_le] at h2
  rw [ti_lt, ti_add (by rw [en]; omega) (by rw [en]; omega), en] at h3
  exact ⟨ti_sub (by omega) (by omega), by omega, h2⟩
theorem lb_app {L : List Int32} {v z j : Int32} (h0 : 0 ≤ z) (h1 : z ≤ 300) (h2 : z ≤ j) (h3 : j < z + nI L.length) (hn : L.length ≤ 300) : lb (L ++ [v]) z j = lb L z j := by
  obtain ⟨e, a, b⟩ := ix_sub h0 h1 h2 h3 hn
  unfold lb
  rw [e]
  have hlt : (j.toInt - z.toInt).toNat < L.length := by omega
  simp only [List.getD_eq_getElem?_getD]
  rw [List.getElem?_append_left hlt]
theorem lb_last {L : List Int32} {v z : Int32} (h0 : 0 ≤ z) (h1 : z ≤ 300) (hn : L.length ≤ 300) : lb (L ++ [v]) z (z + nI L.length) = v := by
  have e0 : (0 : Int32).toInt = 0 := rfl
  have e3 : (300 : Int32).toInt = 300 := rfl
  have en : (nI L.length).toInt = L.length := nI_toInt (by omega)
  rw [ti_le, e0] at h0
  rw [ti_le, e3] at h1
  have e : (z + nI L.length).toInt = z.toInt + L.length := by rw [ti_add (by rw [en]; omega) (by rw [en]; omega), en]
  unfold lb
  rw [ti_sub (by rw [e]; omega) (by rw [e]; omega), e, show (z.toInt + (L.length : Int) - z.toInt).toNat = L.length by omega]
  simp
theorem sz_aC (M : JM) (L : List Int32) : gi (aC M L) 2 1 = gi M 2 1 + nI L.length := sz_pC _ _ _
theorem sz_aM (M : JM) (L : List Int32) : gi (aM M L) 32 8 = gi M 32 8 + nI L.length := sz_pM _ _ _
theorem keep_aC {M : JM} {L : List Int32} {k : Nat} {j : Int32} (h : k ≠ 3) (h2 : ¬ (k = 2 ∧ j = 1)) : gi (aC M L) k j = gi M k j := by
  unfold aC
  rw [gi_pC, if_neg h2, if_neg (fun q => h q.1)]
theorem keep_aM {M : JM} {L : List Int32} {k : Nat} {j : Int32} (h : k ≠ 39) (h2 : ¬ (k = 32 ∧ j = 8)) : gi (aM M L) k j = gi M k j := by
  unfold aM
  rw [gi_pM, if_neg h2, if_neg (fun q => h q.1)]
/-- there is room for so many bytes -/
def Rm (z : Int32) (n : Nat) : Prop := 0 ≤ z ∧ z.toInt + n ≤ 300
theorem Rm.le {z : Int32} {n m : Nat} (h : Rm z n) (hm : m ≤ n) : Rm z m := ⟨h.1, by have := h.2; omega⟩
theorem Rm.facts {z : Int32} {n : Nat} (h : Rm z n) : z ≤ 300 ∧ n ≤ 300 ∧ z ≤ z + nI n ∧ z + nI n ≤ 300 ∧ (z + nI n).toInt = z.toInt + n := by
  obtain ⟨h0, h1⟩ := h
  have e0 : (0 : Int32).toInt = 0 := rfl
  have e3 : (300 : Int32).toInt = 300 := rfl
  rw [ti_le, e0] at h0
  have en : (nI n).toInt = n := nI_toInt (by omega)
  have e : (z + nI n).toInt = z.toInt + n := by rw [ti_add (by rw [en]; omega) (by rw [en]; omega), en]
  refine ⟨by rw [ti_le, e3]; omega, by omega, by rw [ti_le, e]; omega, by rw [ti_le, e, e3]; omega, e⟩
theorem aC_put {M : JM} (hr : RF (gr M)) {L : List Int32} (v : Int32) (h : Rm (gi M 2 1) (L.length + 1)) : f_X4_put 2 v (aC M L) = some ((), aC M (L ++ [v])) := by
  obtain ⟨a1, a2, a3, a4, a5⟩ := (h.le (Nat.le_succ L.length)).facts
  obtain ⟨b1, b2, b3, b4, b5⟩ := h.facts
  have hlt : gi M 2 1 + nI L.length < 300 := by
    rw [ti_lt, a5]
    have e3 : (300 : Int32).toInt = 300 := rfl
    have := h.2
    rw [e3]
    push_cast at this
    omega
  have e1 : pC M (lb L (gi M 2 1)) (gi M 2 1 + nI L.length) = pC M (lb (L ++ [v]) (gi M 2 1)) (gi M 2 1 + nI L.length) := pC_congr fun j c d => (lb_app h.1 a1 c d (by omega)).symm
  unfold aC
  rw [e1, cPut_eq hr (lb (L ++ [v]) (gi M 2 1)) (gi M 2 1 + nI L.length) v (lb_last h.1 a1 (by omega)) a3 hlt h.1]
  rw [show (L ++ [v]).length = L.length + 1 by simp, nI_succ, show gi M 2 1 + (nI L.length + 1) = gi M 2 1 + nI L.length + 1 by grind]
theorem aM_put {M : JM} (hr : RF (gr M)) {L : List Int32} (v : Int32) (h : Rm (gi M 32 8) (L.length + 1)) : f_X8_put 32 v (aM M L) = some ((), aM M (L ++ [v &&& 255])) := by
  obtain ⟨a1, a2, a3, a4, a5⟩ := (h.le (Nat.le_succ L.length)).facts
  have hlt : gi M 32 8 + nI L.length < 300 := by
    rw [ti_lt, a5]
    have e3 : (300 : Int32).toInt = 300 := rfl
    have := h.2
    rw [e3]
    push_cast at this
    omega
  have h0 : 0 ≤ gi M 32 8 + nI L.length := by have := h.1; grind
  have hr1 : RF (gr (pM M (lb (L ++ [v &&& 255]) (gi M 32 8)) (gi M 32 8 + nI L.length))) := hr
  have e1 : pM M (lb L (gi M 32 8)) (gi M 32 8 + nI L.length) = pM M (lb (L ++ [v &&& 255]) (gi M 32 8)) (gi M 32 8 + nI L.length) := pM_congr fun j c d => (lb_app h.1 a1 c d (by omega)).symm
  have e2 := lb_last (L := L) (v := v &&& 255) h.1 a1 (by omega)
  unfold aM
  rw [e1]
  unfold f_X8_put
  rw [hr1.r32_7, orf_e, sz_pM, ln_39, if_pos ⟨h0, hlt⟩, sq_e, gi_si, if_neg (fun q => absurd q.1 (by decide)), sz_pM, sq_e]
  rw [← e2]
  rw [e2, ← e2]
  have e3 := pM_1 M (lb (L ++ [v &&& 255]) (gi M 32 8)) (gi M 32 8 + nI L.length) a3 hlt
  rw [e2] at e3 ⊢
  rw [e3]
  rw [show (L ++ [v &&& 255]).length = L.length + 1 by simp, nI_succ, show gi M 32 8 + (nI L.length + 1) = gi M 32 8 + nI L.length + 1 by grind]
/-- the same bytes to both tapes -/
theorem aCM_tape {M : JM} (hT : ITape M) {L : List Int32} (h : Rm (gi M 2 1) L.length) (hL : ∀ v ∈ L, 0 ≤ v ∧ v ≤ 255) : ITape (aM (aC M L) L) := by
  obtain ⟨a1, a2, a3, a4, a5⟩ := h.facts
  have e8 : gi (aC M L) 32 8 = gi M 2 1 := by rw [keep_aC (by decide) (fun q => absurd q.1 (by decide)), hT.1]
  unfold aM
  rw [e8]
  unfold aC
  refine pCM_tape hT a3 a4 (fun j c d => ⟨rfl, ?_⟩)
  obtain ⟨e, x, y⟩ := ix_sub h.1 a1 c d a2
  unfold lb
  have hlt : (j - gi M 2 1).toInt.toNat < L.length := by rw [e]; omega
  rw [List.getD_eq_getElem?_getD, List.getElem?_eq_getElem hlt]
  exact hL _ (List.getElem_mem hlt)
theorem keep_aCM {M : JM} {L L' : List Int32} {k : Nat} {j : Int32} (hd : ¬ depTape k j) : gi (aM (aC M L) L') k j = gi M k j := by
  unfold depTape at hd
  rw [keep_aM (by grind) (by grind), keep_aC (by grind) (by grind)]
/-- a run of bytes out of a row -/
def tak (f : Int32 → Int32) : Nat → Int32 → List Int32
  | 0, _ => []
  | k + 1, i => f i :: tak f k (i + 1)
theorem tak_len (f : Int32 → Int32) : ∀ (k : Nat) (i : Int32), (tak f k i).length = k := by
  intro k
  induction k with
  | zero => intro i; rfl
  | succ k ih => intro i; simp [tak, ih]
theorem tak_congr {f g : Int32 → Int32} : ∀ (k : Nat) (i j : Int32), (∀ t : Nat, t < k → f (i + nI t) = g (j + nI t)) → tak f k i = tak g k j := by
  intro k
  induction k with
  | zero => intro i j _; rfl
  | succ k ih =>
    intro i j h
    have h0 := h 0 (by omega)
    rw [add_0, add_0] at h0
    rw [tak, tak, h0, ih (i + 1) (j + 1) (fun t ht => ?_)]
    have := h (t + 1) (by omega)
    rw [nI_succ] at this
    rw [show i + 1 + nI t = i + (nI t + 1) by grind, show j + 1 + nI t = j + (nI t + 1) by grind]
    exact this
theorem tak_mem {f : Int32 → Int32} {v : Int32} : ∀ (k : Nat) (i : Int32), v ∈ tak f k i → ∃ t : Nat, t < k ∧ v = f (i + nI t) := by
  intro k
  induction k with
  | zero => intro i h; cases h
  | succ k ih =>
    intro i h
    rw [tak] at h
    rcases List.mem_cons.mp h with h | h
    · exact ⟨0, by omega, by rw [add_0]; exact h⟩
    · obtain ⟨t, h1, h2⟩ := ih _ h
      exact ⟨t + 1, by omega, by rw [nI_succ, h2, show i + 1 + nI t = i + (nI t + 1) by grind]⟩
