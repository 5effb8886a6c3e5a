/-! PURE PART: laws of the memory -/
def fil (M : JM) (k : Nat) (lo hi v : Int32) : JM := (fun k' j => if k' = k ∧ lo ≤ j ∧ j < hi then v else M.1 k' j, M.2)
theorem gi_fil (M : JM) (k : Nat) (lo hi v : Int32) (k' : Nat) (j : Int32) : gi (fil M k lo hi v) k' j = if k' = k ∧ lo ≤ j ∧ j < hi then v else gi M k' j := rfl
theorem Gr_fil (M : JM) (k : Nat) (lo hi v : Int32) : gr (fil M k lo hi v) = gr M := rfl
theorem Gn_fil (M : JM) (k : Nat) (lo hi v : Int32) : gn (fil M k lo hi v) = gn M := rfl
theorem Gr_si (M : JM) (k : Nat) (j v : Int32) : gr (si M k j v) = gr M := rfl
theorem Gn_si (M : JM) (k : Nat) (j v : Int32) : gn (si M k j v) = gn M := rfl
theorem Gr_cpm (M : JM) (a : Nat) (b : Int32) (c : Nat) (d e : Int32) : gr (cpm M a b c d e) = gr M := rfl
theorem Gn_cpm (M : JM) (a : Nat) (b : Int32) (c : Nat) (d e : Int32) : gn (cpm M a b c d e) = gn M := rfl
theorem Gn_sr (M : JM) (k : Nat) (j : Int32) (o : Option Nat) : gn (sr M k j o) = gn M := rfl
theorem Gi_sr (M : JM) (k : Nat) (j : Int32) (o : Option Nat) : gi (sr M k j o) = gi M := rfl
theorem JM_ext {M M' : JM} (h1 : ∀ k j, gi M k j = gi M' k j) (h2 : gr M = gr M') (h3 : gn M = gn M') : M = M' := by
  obtain ⟨a, b, c⟩ := M
  obtain ⟨a', b', c'⟩ := M'
  have e1 : a = a' := funext fun k => funext fun j => h1 k j
  have e2 : b = b' := h2
  have e3 : c = c' := h3
  rw [e1, e2, e3]
theorem fil_si (M : JM) (a : Nat) (i len v : Int32) (h0 : 0 ≤ i) (h1 : i < len) : fil (si M a i v) a (i + 1) len v = fil M a i len v := by
  refine JM_ext (fun k j => ?_) (by rw [Gr_fil, Gr_si, Gr_fil]) (by rw [Gn_fil, Gn_si, Gn_fil])
  rw [gi_fil, gi_fil, gi_si]
  by_cases hk : k = a
  · subst hk
    simp only [true_and]
    split <;> split <;> grind
  · simp only [hk, false_and, if_false]
theorem fil_0 (M : JM) (a : Nat) (i len v : Int32) (h : ¬ i < len) : fil M a i len v = M := by
  refine JM_ext (fun k j => ?_) (by rw [Gr_fil]) (by rw [Gn_fil])
  rw [gi_fil, if_neg (by grind)]
def depTape (k : Nat) (j : Int32) : Prop := (k = 2 ∧ j = 1) ∨ (k = 32 ∧ j = 8) ∨ k = 3 ∨ k = 39
def ITape (M : JM) : Prop := gi M 2 1 = gi M 32 8 ∧ 0 ≤ gi M 2 1 ∧ gi M 2 1 ≤ 300 ∧ ∀ j, 0 ≤ j → j < gi M 2 1 → gi M 3 j = gi M 39 j ∧ 0 ≤ gi M 3 j ∧ gi M 3 j ≤ 255
theorem ITape.congr {M M' : JM} (h : ITape M) (hf : ∀ k j, depTape k j → gi M' k j = gi M k j) : ITape M' := by
  unfold ITape at *
  unfold depTape at hf
  grind
