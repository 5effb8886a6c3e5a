/-! PURE PART: where the references point; lengths; counting -/
def RF (g : Nat → Int32 → Option Nat) : Prop := g 0 0 = some 1 ∧ g 0 2 = some 2 ∧ g 0 3 = some 4 ∧ g 0 6 = some 15 ∧ g 0 7 = some 18 ∧ g 2 0 = some 3 ∧ g 4 0 = some 3 ∧ g 5 2 = some 6 ∧ g 5 4 = some 7 ∧ g 5 5 = some 8 ∧ g 5 6 = some 9 ∧ g 10 2 = some 11 ∧ g 10 4 = some 12 ∧ g 10 5 = some 13 ∧ g 10 6 = some 14 ∧ g 15 1 = some 16 ∧ g 15 2 = some 17 ∧ g 18 0 = some 19 ∧ g 32 1 = some 33 ∧ g 32 2 = some 34 ∧ g 32 3 = some 35 ∧ g 32 4 = some 36 ∧ g 32 5 = some 37 ∧ g 32 6 = some 38 ∧ g 32 7 = some 39 ∧ g 32 16 = some 40 ∧ g 32 17 = some 41 ∧ g 32 18 = some 42 ∧ g 32 19 = some 43 ∧ g 32 21 = some 44 ∧ g 32 22 = some 45 ∧ g 32 23 = some 46 ∧ g 32 24 = some 47 ∧ g 32 26 = some 48 ∧ g 32 27 = some 49 ∧ g 32 29 = some 50 ∧ g 32 30 = some 51 ∧ g 32 31 = some 52 ∧ g 32 32 = some 53 ∧ g 32 33 = some 54 ∧ g 32 34 = some 55 ∧ g 32 35 = some 56 ∧ g 32 36 = some 57 ∧ g 32 37 = some 58 ∧ g 32 38 = some 59 ∧ g 32 45 = some 60
theorem RF.r0_0 {g : Nat → Int32 → Option Nat} (h : RF g) : g 0 0 = some 1 := h.1
theorem RF.r0_2 {g : Nat → Int32 → Option Nat} (h : RF g) : g 0 2 = some 2 := h.2.1
theorem RF.r0_3 {g : Nat → Int32 → Option Nat} (h : RF g) : g 0 3 = some 4 := h.2.2.1
theorem RF.r0_6 {g : Nat → Int32 → Option Nat} (h : RF g) : g 0 6 = some 15 := h.2.2.2.1
theorem RF.r0_7 {g : Nat → Int32 → Option Nat} (h : RF g) : g 0 7 = some 18 := h.2.2.2.2.1
theorem RF.r2_0 {g : Nat → Int32 → Option Nat} (h : RF g) : g 2 0 = some 3 := h.2.2.2.2.2.1
theorem RF.r4_0 {g : Nat → Int32 → Option Nat} (h : RF g) : g 4 0 = some 3 := h.2.2.2.2.2.2.1
theorem RF.r5_2 {g : Nat → Int32 → Option Nat} (h : RF g) : g 5 2 = some 6 := h.2.2.2.2.2.2.2.1
theorem RF.r5_4 {g : Nat → Int32 → Option Nat} (h : RF g) : g 5 4 = some 7 := h.2.2.2.2.2.2.2.2.1
theorem RF.r5_5 {g : Nat → Int32 → Option Nat} (h : RF g) : g 5 5 = some 8 := h.2.2.2.2.2.2.2.2.2.1
theorem RF.r5_6 {g : Nat → Int32 → Option Nat} (h : RF g) : g 5 6 = some 9 := h.2.2.2.2.2.2.2.2.2.2.1
theorem RF.r10_2 {g : Nat → Int32 → Option Nat} (h : RF g) : g 10 2 = some 11 := h.2.2.2.2.2.2.2.2.2.2.2.1
theorem RF.r10_4 {g : Nat → Int32 → Option Nat} (h : RF g) : g 10 4 = some 12 := h.2.2.2.2.2.2.2.2.2.2.2.2.1
theorem RF.r10_5 {g : Nat → Int32 → Option Nat} (h : RF g) : g 10 5 = some 13 := h.2.2.2.2.2.2.2.2.2.2.2.2.2.1
theorem RF.r10_6 {g : Nat → Int32 → Option Nat} (h : RF g) : g 10 6 = some 14 := h.2.2.2.2.2.2.2.2.2.2.2.2.2.2.1
theorem RF.r15_1 {g : Nat → Int32 → Option Nat} (h : RF g) : g 15 1 = some 16 := h.2.2.2.2.2.2.2.2.2.2.2.2.2.2.2.1
theorem RF.r15_2 {g : Nat → Int32 → Option Nat} (h : RF g) : g 15 2 = some 17 := h.2.2.2.2.2.2.2.2.2.2.2.2.2.2.2.2.1
theorem RF.r18_0 {g : Nat → Int32 → Option Nat} (h : RF g) : g 18 0 = some 19 := h.2.2.2.2.2.2.2.2.2.2.2.2.2.2.2.2.2.1
theorem RF.r32_1 {g : Nat → Int32 → Option Nat} (h : RF g) : g 32 1 = some 33 := h.2.2.2.2.2.2.2.2.2.2.2.2.2.2.2.2.2.2.1
theorem RF.r32_2 {g : Nat → Int32 → Option Nat} (h : RF g) : g 32 2 = some 34 := h.2.2.2.2.2.2.2.2.2.2.2.2.2.2.2.2.2.2.2.1
theorem RF.r32_3 {g : Nat → Int32 → Option Nat} (h : RF g) : g 32 3 = some 35 := h.2.2.2.2.2.2.2.2.2.2.2.2.2.2.2.2.2.2.2.2.1
theorem RF.r32_4 {g : Nat → Int32 → Option Nat} (h : RF g) : g 32 4 = some 36 := h.2.2.2.2.2.2.2.2.2.2.2.2.2.2.2.2.2.2.2.2.2.1
theorem RF.r32_5 {g : Nat → Int32 → Option Nat} (h : RF g) : g 32 5 = some 37 := h.2.2.2.2.2.2.2.2.2.2.2.2.2.2.2.2.2.2.2.2.2.2.1
theorem RF.r32_6 {g : Nat → Int32 → Option Nat} (h : RF g) : g 32 6 = some 38 := h.2.2.2.2.2.2.2.2.2.2.2.2.2.2.2.2.2.2.2.2.2.2.2.1
theorem RF.r32_7 {g : Nat → Int32 → Option Nat} (h : RF g) : g 32 7 = some 39 := h.2.2.2.2.2.2.2.2.2.2.2.2.2.2.2.2.2.2.2.2.2.2.2.2.1
theorem RF.r32_16 {g : Nat → Int32 → Option Nat} (h : RF g) : g 32 16 = some 40 := h.2.2.2.2.2.2.2.2.2.2.2.2.2.2.2.2.2.2.2.2.2.2.2.2.2.1
theorem RF.r32_17 {g : Nat → Int32 → Option Nat} (h : RF g) : g 32 17 = some 41 := h.2.2.2.2.2.2.2.2.2.2.2.2.2.2.2.2.2.2.2.2.2.2.2.2.2.2.1
theorem RF.r32_18 {g : Nat → Int32 → Option Nat} (h : RF g) : g 32 18 = some 42 := h.2.2.2.2.2.2.2.2.2.2.2.2.2.2.2.2.2.2.2.2.2.2.2.2.2.2.2.1
theorem RF.r32_19 {g : Nat → Int32 → Option Nat} (h : RF g) : g 32 19 = some 43 := h.2.2.2.2.2.2.2.2.2.2.2.2.2.2.2.2.2.2.2.2.2.2.2.2.2.2.2.2.1
theorem RF.r32_21 {g : Nat → Int32 → Option Nat} (h : RF g) : g 32 21 = some 44 := h.2.2.2.2.2.2.2.2.2.2.2.2.2.2.2.2.2.2.2.2.2.2.2.2.2.2.2.2.2.1
theorem RF.r32_22 {g : Nat → Int32 → Option Nat} (h : RF g) : g 32 22 = some 45 := h.2.2.2.2.2.2.2.2.2.2.2.2.2.2.2.2.2.2.2.2.2.2.2.2.2.2.2.2.2.2.1
theorem RF.r32_23 {g : Nat → Int32 → Option Nat} (h : RF g) : g 32 23 = some 46 := h.2.2.2.2.2.2.2.2.2.2.2.2.2.2.2.2.2.2.2.2.2.2.2.2.2.2.2.2.2.2.2.1
theorem RF.r32_24 {g : Nat → Int32 → Option Nat} (h : RF g) : g 32 24 = some 47 := h.2.2.2.2.2.2.2.2.2.2.2.2.2.2.2.2.2.2.2.2.2.2.2.2.2.2.2.2.2.2.2.2.1
theorem RF.r32_26 {g : Nat → Int32 → Option Nat} (h : RF g) : g 32 26 = some 48 := h.2.2.2.2.2.2.2.2.2.2.2.2.2.2.2.2.2.2.2.2.2.2.2.2.2.2.2.2.2.2.2.2.2.1
theorem RF.r32_27 {g : Nat → Int32 → Option Nat} (h : RF g) : g 32 27 = some 49 := h.2.2.2.2.2.2.2.2.2.2.2.2.2.2.2.2.2.2.2.2.2.2.2.2.2.2.2.2.2.2.2.2.2.2.1
theorem RF.r32_29 {g : Nat → Int32 → Option Nat} (h : RF g) : g 32 29 = some 50 := h.2.2.2.2.2.2.2.2.2.2.2.2.2.2.2.2.2.2.2.2.2.2.2.2.2.2.2.2.2.2.2.2.2.2.2.1
theorem RF.r32_30 {g : Nat → Int32 → Option Nat} (h : RF g) : g 32 30 = some 51 := h.2.2.2.2.2.2.2.2.2.2.2.2.2.2.2.2.2.2.2.2.2.2.2.2.2.2.2.2.2.2.2.2.2.2.2.2.1
theorem RF.r32_31 {g : Nat → Int32 → Option Nat} (h : RF g) : g 32 31 = some 52 := h.2.2.2.2.2.2.2.2.2.2.2.2.2.2.2.2.2.2.2.2.2.2.2.2.2.2.2.2.2.2.2.2.2.2.2.2.2.1
theorem RF.r32_32 {g : Nat → Int32 → Option Nat} (h : RF g) : g 32 32 = some 53 := h.2.2.2.2.2.2.2.2.2.2.2.2.2.2.2.2.2.2.2.2.2.2.2.2.2.2.2.2.2.2.2.2.2.2.2.2.2.2.1
theorem RF.r32_33 {g : Nat → Int32 → Option Nat} (h : RF g) : g 32 33 = some 54 := h.2.2.2.2.2.2.2.2.2.2.2.2.2.2.2.2.2.2.2.2.2.2.2.2.2.2.2.2.2.2.2.2.2.2.2.2.2.2.2.1
theorem RF.r32_34 {g : Nat → Int32 → Option Nat} (h : RF g) : g 32 34 = some 55 := h.2.2.2.2.2.2.2.2.2.2.2.2.2.2.2.2.2.2.2.2.2.2.2.2.2.2.2.2.2.2.2.2.2.2.2.2.2.2.2.2.1
theorem RF.r32_35 {g : Nat → Int32 → Option Nat} (h : RF g) : g 32 35 = some 56 := h.2.2.2.2.2.2.2.2.2.2.2.2.2.2.2.2.2.2.2.2.2.2.2.2.2.2.2.2.2.2.2.2.2.2.2.2.2.2.2.2.2.1
theorem RF.r32_36 {g : Nat → Int32 → Option Nat} (h : RF g) : g 32 36 = some 57 := h.2.2.2.2.2.2.2.2.2.2.2.2.2.2.2.2.2.2.2.2.2.2.2.2.2.2.2.2.2.2.2.2.2.2.2.2.2.2.2.2.2.2.1
theorem RF.r32_37 {g : Nat → Int32 → Option Nat} (h : RF g) : g 32 37 = some 58 := h.2.2.2.2.2.2.2.2.2.2.2.2.2.2.2.2.2.2.2.2.2.2.2.2.2.2.2.2.2.2.2.2.2.2.2.2.2.2.2.2.2.2.2.1
theorem RF.r32_38 {g : Nat → Int32 → Option Nat} (h : RF g) : g 32 38 = some 59 := h.2.2.2.2.2.2.2.2.2.2.2.2.2.2.2.2.2.2.2.2.2.2.2.2.2.2.2.2.2.2.2.2.2.2.2.2.2.2.2.2.2.2.2.2.1
theorem RF.r32_45 {g : Nat → Int32 → Option Nat} (h : RF g) : g 32 45 = some 60 := h.2.2.2.2.2.2.2.2.2.2.2.2.2.2.2.2.2.2.2.2.2.2.2.2.2.2.2.2.2.2.2.2.2.2.2.2.2.2.2.2.2.2.2.2.2
theorem ln_1 : ln 1 = 3 := rfl
theorem ln_3 : ln 3 = 300 := rfl
theorem ln_6 : ln 6 = 300 := rfl
theorem ln_7 : ln 7 = 8 := rfl
theorem ln_8 : ln 8 = 168 := rfl
theorem ln_9 : ln 9 = 168 := rfl
theorem ln_11 : ln 11 = 300 := rfl
theorem ln_12 : ln 12 = 8 := rfl
theorem ln_13 : ln 13 = 168 := rfl
theorem ln_14 : ln 14 = 168 := rfl
theorem ln_16 : ln 16 = 1218 := rfl
theorem ln_17 : ln 17 = 22 := rfl
theorem ln_19 : ln 19 = 12 := rfl
theorem ln_33 : ln 33 = 3 := rfl
theorem ln_34 : ln 34 = 66 := rfl
theorem ln_35 : ln 35 = 66 := rfl
theorem ln_36 : ln 36 = 924 := rfl
theorem ln_37 : ln 37 = 3 := rfl
theorem ln_38 : ln 38 = 3 := rfl
theorem ln_39 : ln 39 = 300 := rfl
theorem ln_40 : ln 40 = 300 := rfl
theorem ln_41 : ln 41 = 9 := rfl
theorem ln_42 : ln 42 = 176 := rfl
theorem ln_43 : ln 43 = 176 := rfl
theorem ln_44 : ln 44 = 9 := rfl
theorem ln_45 : ln 45 = 176 := rfl
theorem ln_46 : ln 46 = 176 := rfl
theorem ln_47 : ln 47 = 22 := rfl
theorem ln_48 : ln 48 = 22 := rfl
theorem ln_49 : ln 49 = 1320 := rfl
theorem ln_50 : ln 50 = 12 := rfl
theorem ln_51 : ln 51 = 12 := rfl
theorem ln_52 : ln 52 = 12 := rfl
theorem ln_53 : ln 53 = 12 := rfl
theorem ln_54 : ln 54 = 12 := rfl
theorem ln_55 : ln 55 = 12 := rfl
theorem ln_56 : ln 56 = 12 := rfl
theorem ln_57 : ln 57 = 12 := rfl
theorem ln_58 : ln 58 = 12 := rfl
theorem ln_59 : ln 59 = 12 := rfl
theorem ln_60 : ln 60 = 22 := rfl
theorem ln_62 : ln 62 = 22 := rfl
theorem ln_63 : ln 63 = 22 := rfl
theorem ln_64 : ln 64 = 308 := rfl
theorem ln_66 : ln 66 = 22 := rfl
theorem ln_67 : ln 67 = 22 := rfl
theorem ln_68 : ln 68 = 308 := rfl
theorem ln_70 : ln 70 = 22 := rfl
theorem ln_71 : ln 71 = 22 := rfl
theorem ln_72 : ln 72 = 308 := rfl
theorem ln_kinds {i : Nat} (h : i < 3) : ln (62 + 4 * i) = 22 := by
  rcases (show i = 0 ∨ i = 1 ∨ i = 2 by omega) with rfl | rfl | rfl <;> rfl
theorem ln_sizes {i : Nat} (h : i < 3) : ln (63 + 4 * i) = 22 := by
  rcases (show i = 0 ∨ i = 1 ∨ i = 2 by omega) with rfl | rfl | rfl <;> rfl
theorem ln_parts {i : Nat} (h : i < 3) : ln (64 + 4 * i) = 308 := by
  rcases (show i = 0 ∨ i = 1 ∨ i = 2 by omega) with rfl | rfl | rfl <;> rfl
theorem i32r (x : Int32) : -2147483648 ≤ x.toInt ∧ x.toInt < 2147483648 := ⟨Int32.le_toInt x, Int32.toInt_lt x⟩
theorem ti_lt {x y : Int32} : x < y ↔ x.toInt < y.toInt := Int32.lt_iff_toInt_lt
theorem ti_le {x y : Int32} : x ≤ y ↔ x.toInt ≤ y.toInt := Int32.le_iff_toInt_le
theorem ti_eq {x y : Int32} : x = y ↔ x.toInt = y.toInt := Int32.toInt_inj.symm
theorem ti_add {x y : Int32} (h1 : -2147483648 ≤ x.toInt + y.toInt) (h2 : x.toInt + y.toInt < 2147483648) : (x + y).toInt = x.toInt + y.toInt := by
  rw [Int32.toInt_add, Int.bmod_def]
  omega
theorem ti_sub {x y : Int32} (h1 : -2147483648 ≤ x.toInt - y.toInt) (h2 : x.toInt - y.toInt < 2147483648) : (x - y).toInt = x.toInt - y.toInt := by
  rw [Int32.toInt_sub, Int.bmod_def]
  omega
theorem ti_mul {x y : Int32} (h1 : -2147483648 ≤ x.toInt * y.toInt) (h2 : x.toInt * y.toInt < 2147483648) : (x * y).toInt = x.toInt * y.toInt := by
  rw [Int32.toInt_mul, Int.bmod_def]
  generalize x.toInt * y.toInt = z at *
  omega
theorem up_1 {i h : Int32} (c : i < h) : (i + 1).toInt = i.toInt + 1 := by
  have h1 := i32r i
  have h2 := i32r h
  rw [ti_lt] at c
  have e : (1 : Int32).toInt = 1 := rfl
  rw [ti_add (by rw [e]; omega) (by rw [e]; omega), e]
theorem up_lt {i h : Int32} {n : Nat} (c : i < h) (hn : h.toInt - i.toInt < ((n + 1 : Nat) : Int)) : h.toInt - (i + 1).toInt < (n : Int) := by
  rw [up_1 c]; omega
theorem up_no {i h : Int32} (h1 : i ≤ h) (hn : h.toInt - i.toInt < ((0 : Nat) : Int)) : False := by
  rw [ti_le] at h1; omega
theorem up_le {i h : Int32} (c : i < h) : i + 1 ≤ h := by
  rw [ti_le, up_1 c]; rw [ti_lt] at c; omega
theorem up_fu {i h : Int32} (h0 : 0 ≤ i) (h1 : h ≤ 4000) : h.toInt - i.toInt < (FU : Int) := by
  rw [ti_le] at h0 h1
  have e : (4000 : Int32).toInt = 4000 := rfl
  have e0 : (0 : Int32).toInt = 0 := rfl
  show _ < ((4096 : Nat) : Int)
  omega
theorem sq_e {σ : Type} (M : JM) (K : JM → Option σ) : sq M K = K M := rfl
theorem sv_e {σ : Type} (v : Int32) (K : Int32 → Option σ) : sv v K = K v := rfl
theorem svL_e {σ : Type} (v : Int64) (K : Int64 → Option σ) : svL v K = K v := rfl
theorem ob_e {ρ σ : Type} (r : ρ) (M : JM) (K : ρ → JM → Option σ) : ob (some (r, M)) K = K r M := rfl
theorem orf_e {σ : Type} (k : Nat) (K : Nat → Option σ) : orf (some k) K = K k := rfl
theorem oca_s {σ : Type} (k : Nat) (N : Option σ) (K : Nat → Option σ) : oca (some k) N K = K k := rfl
theorem oca_n {σ : Type} (N : Option σ) (K : Nat → Option σ) : oca none N K = N := rfl
/-- filling rows -/
theorem lp_fill (a : Nat) (v len : Int32) (hl : len ≤ ln a) : ∀ (n : Nat) (i : Int32) (M : JM), 0 ≤ i → i ≤ len → len.toInt - i.toInt < (n : Int) → f_J7_fill_53178_L5 n a v i len M = some ((), fil M a i len v) := by
  intro n
  induction n with
  | zero => intro i M h0 h1 hn; exact (up_no h1 hn).elim
  | succ n ih =>
    intro i M h0 h1 hn
    rw [f_J7_fill_53178_L5]
    by_cases c : i < len
    · rw [if_pos c, if_pos ⟨h0, by grind⟩]
      simp only [sq_e, sv_e]
      rw [ih _ _ (by grind) (up_le c) (up_lt c hn), fil_si M a i len v h0 c]
    · rw [if_neg c, fil_0 M a i len v c]
theorem fill_all (a : Nat) (v : Int32) (M : JM) (h0 : 0 ≤ ln a) (h1 : ln a ≤ 4000) : f_J7_fill_53178 a v M = some ((), fil M a 0 (ln a) v) := by
  unfold f_J7_fill_53178 sv
  exact lp_fill a v (ln a) (by grind) FU 0 M (by decide) h0 (up_fu (by decide) h1)
theorem lp_fill2 (a : Nat) (v len : Int32) (hl : len ≤ ln a) : ∀ (n : Nat) (i : Int32) (M : JM), 0 ≤ i → i ≤ len → len.toInt - i.toInt < (n : Int) → f_J7_fill_fda19_L10 n a len v i M = some ((), fil M a i len v) := by
  intro n
  induction n with
  | zero => intro i M h0 h1 hn; exact (up_no h1 hn).elim
  | succ n ih =>
    intro i M h0 h1 hn
    rw [f_J7_fill_fda19_L10]
    by_cases c : i < len
    · rw [if_pos c, if_pos ⟨h0, by grind⟩]
      simp only [sq_e, sv_e]
      rw [ih _ _ (by grind) (up_le c) (up_lt c hn), fil_si M a i len v h0 c]
    · rw [if_neg c, fil_0 M a i len v c]
theorem fill_part (a : Nat) (lo hi v : Int32) (M : JM) (h0 : 0 ≤ lo) (h1 : lo ≤ hi) (h2 : hi ≤ ln a) (h3 : ln a ≤ 4000) : f_J7_fill_fda19 a lo hi v M = some ((), fil M a lo hi v) := by
  unfold f_J7_fill_fda19 f_J7_rangeCheck_23922
  rw [if_neg (by grind), if_neg (by grind), if_neg (by grind)]
  unfold ob sv
  exact lp_fill2 a v hi h2 FU lo M h0 h1 (up_fu h0 (by grind))
