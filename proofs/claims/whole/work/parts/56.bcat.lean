/-! PURE PART: category -/
def fnd (f : Nat → Int32) (v : Int32) : Nat → Nat → Int32
  | 0, _ => -9
  | k + 1, i => if f i = v then nI i else fnd f v k (i + 1)
theorem fnd_congr {f g : Nat → Int32} {v : Int32} : ∀ k i, (∀ j, i ≤ j → j < i + k → f j = g j) → fnd f v k i = fnd g v k i := by
  intro k
  induction k with
  | zero => intro i _; rfl
  | succ k ih =>
    intro i h
    rw [fnd, fnd, h i (by omega) (by omega), ih (i + 1) (fun j a b => h j (by omega) (by omega))]
theorem fnd_cases {f : Nat → Int32} {v : Int32} : ∀ k i, fnd f v k i = -9 ∨ ∃ j, i ≤ j ∧ j < i + k ∧ fnd f v k i = nI j ∧ f j = v := by
  intro k
  induction k with
  | zero => intro i; exact Or.inl rfl
  | succ k ih =>
    intro i
    rw [fnd]
    by_cases h : f i = v
    · rw [if_pos h]
      exact Or.inr ⟨i, by omega, by omega, rfl, h⟩
    · rw [if_neg h]
      rcases ih (i + 1) with h1 | ⟨j, h1, h2, h3⟩
      · exact Or.inl h1
      · exact Or.inr ⟨j, by omega, by omega, h3⟩
theorem lp_index {M : JM} (hr : RF (gr M)) {c : Nat} (hc3 : c ≤ 3) (hc : gi M 0 1 = nI c) (h : ∀ i, i < c → ICat M i) (v : Int32) : ∀ (n i : Nat), i ≤ c → c - i < n → f_X7_indexOfNumber_L2 n 0 v (nI i) M = some (fnd (fun i => gi M (61 + 4 * i) 0) v (c - i) i, M) := by
  intro n
  induction n with
  | zero => intro i _ h; omega
  | succ n ih =>
    intro i h1 h2
    rw [f_X7_indexOfNumber_L2, hc]
    by_cases hi : i = c
    · subst hi
      rw [if_neg Int32.lt_irrefl, Nat.sub_self, fnd]
    · rw [if_pos (nI_lt (by omega) (by omega)), hr.r0_0, orf_e, ln_1, if_pos (show 0 ≤ nI i ∧ nI i < 3 from ⟨nI_pos' (by omega), nI_lt (b := 3) (by omega) (by decide)⟩), (h i (by omega)).1.1, orf_e, show c - i = c - (i + 1) + 1 by omega, fnd]
      by_cases hv : gi M (61 + 4 * i) 0 = v
      · rw [if_pos hv, if_pos hv]
      · rw [if_neg hv, if_neg hv, sv_e, nI_p1, ih (i + 1) (by omega) (by omega)]
theorem lp_find {M : JM} (hr : RF (gr M)) {c : Nat} (hc3 : c ≤ 3) (hc : gi M 32 0 = nI c) (v : Int32) : ∀ (n i : Nat), i ≤ c → c - i < n → f_X8_find_L2 n 32 v (nI i) M = some (fnd (fun i => gi M 33 (nI i)) v (c - i) i, M) := by
  intro n
  induction n with
  | zero => intro i _ h; omega
  | succ n ih =>
    intro i h1 h2
    rw [f_X8_find_L2, hc]
    by_cases hi : i = c
    · subst hi
      rw [if_neg Int32.lt_irrefl, Nat.sub_self, fnd]
    · rw [if_pos (nI_lt (by omega) (by omega)), hr.r32_1, orf_e, ln_33, if_pos (show 0 ≤ nI i ∧ nI i < 3 from ⟨nI_pos' (by omega), nI_lt (b := 3) (by omega) (by decide)⟩), show c - i = c - (i + 1) + 1 by omega, fnd]
      by_cases hv : gi M 33 (nI i) = v
      · rw [if_pos hv, if_pos hv]
      · rw [if_neg hv, if_neg hv, sv_e, nI_p1, ih (i + 1) (by omega) (by omega)]
def fil3 (M : JM) (c p : Int32) : JM := fil (fil (fil M 34 (22 * c + p) (22 * c + 22) (-9)) 35 (22 * c + p) (22 * c + 22) 0) 36 (14 * (22 * c + p)) (14 * (22 * c + 22)) 0
theorem gi_fil3 (M : JM) (c p : Int32) (k : Nat) (j : Int32) : gi (fil3 M c p) k j = if k = 36 ∧ 14 * (22 * c + p) ≤ j ∧ j < 14 * (22 * c + 22) then 0 else if k = 35 ∧ 22 * c + p ≤ j ∧ j < 22 * c + 22 then 0 else if k = 34 ∧ 22 * c + p ≤ j ∧ j < 22 * c + 22 then -9 else gi M k j := rfl
theorem Gr_fil3 (M : JM) (c p : Int32) : gr (fil3 M c p) = gr M := rfl
theorem Gn_fil3 (M : JM) (c p : Int32) : gn (fil3 M c p) = gn M := rfl
theorem fil3_1 (M : JM) {c : Nat} (hc : c < 3) (p : Int32) (h0 : 0 ≤ p) (h1 : p ≤ 21) : fil3 (upM M (22 * nI c + p) (-9) 0) (nI c) (p + 1) = fil3 M (nI c) p := by
  refine JM_ext (fun k j => ?_) (by rw [Gr_fil3, Gr_upM, Gr_fil3]) (by rw [Gn_fil3, Gn_upM, Gn_fil3])
  rw [gi_fil3, gi_fil3, gi_upM]
  have hx : ∃ x : Int32, 22 * nI c = x ∧ 0 ≤ x ∧ x ≤ 44 := by
    refine ⟨_, rfl, ?_⟩
    rcases nI3 hc with ⟨-, h⟩ | ⟨-, h⟩ | ⟨-, h⟩ <;> rw [h] <;> decide
  obtain ⟨x, hx, x0, x1⟩ := hx
  rw [hx]
  by_cases a : k = 36
  · subst a
    simp only [true_and, show (36 = 35) = False by simp, show (36 = 34) = False by simp, false_and, if_false]
    by_cases b : 14 * (x + p) ≤ j ∧ j < 14 * (x + 22)
    · rw [if_pos b]
      by_cases d : 14 * (x + (p + 1)) ≤ j ∧ j < 14 * (x + 22)
      · rw [if_pos d]
      · rw [if_neg d, if_pos (by grind)]
    · rw [if_neg b, if_neg (by grind), if_neg (by grind)]
  · by_cases b : k = 35
    · subst b
      simp only [true_and, show (35 = 36) = False by simp, show (35 = 34) = False by simp, false_and, if_false]
      by_cases e : x + p ≤ j ∧ j < x + 22
      · rw [if_pos e]
        by_cases d : x + (p + 1) ≤ j ∧ j < x + 22
        · rw [if_pos d]
        · rw [if_neg d, if_pos (by grind)]
      · rw [if_neg e, if_neg (by grind), if_neg (by grind)]
    · by_cases f : k = 34
      · subst f
        simp only [true_and, show (34 = 36) = False by simp, show (34 = 35) = False by simp, false_and, if_false]
        by_cases e : x + p ≤ j ∧ j < x + 22
        · rw [if_pos e]
          by_cases d : x + (p + 1) ≤ j ∧ j < x + 22
          · rw [if_pos d]
          · rw [if_neg d, if_pos (by grind)]
        · rw [if_neg e, if_neg (by grind), if_neg (by grind)]
      · simp only [a, b, f, false_and, if_false]
theorem lp_catM {c : Nat} (hc : c < 3) : ∀ (n : Nat) (p : Int32) (M : JM), RF (gr M) → gi M 32 0 = nI c → 0 ≤ p → p ≤ 22 → (22 : Int32).toInt - p.toInt < (n : Int) → f_X8_category_L66 n 32 p M = f_X8_category_L90 32 (fil3 M (nI c) p) := by
  intro n
  induction n with
  | zero => intro p M hr e h0 h1 hn; exact (up_no h1 hn).elim
  | succ n ih =>
    intro p M hr e h0 h1 hn
    rw [f_X8_category_L66]
    by_cases d : p < 22
    · have hx := ix_kind (p := p) hc h0 (by grind)
      rw [if_neg (by grind), e, becomes_eq hr _ _ _ _ hx.1 hx.2, ob_e, sv_e]
      rw [ih (p + 1) _ (by rw [Gr_upM]; exact hr) (by rw [gi_upM, if_neg (fun q => absurd q.1 (by decide)), if_neg (fun q => absurd q.1 (by decide)), if_neg (fun q => absurd q.1 (by decide))]; exact e) (by grind) (up_le d) (up_lt d hn), fil3_1 M hc p h0 (by grind)]
    · have hp : p = 22 := by grind
      subst hp
      rw [if_pos (by decide)]
      congr 1
      refine JM_ext (fun k j => ?_) (by rw [Gr_fil3]) (by rw [Gn_fil3])
      rw [gi_fil3, if_neg (by grind), if_neg (by grind), if_neg (by grind)]

theorem shp_new {c : Nat} (h : c < 3) : shp (61 + 4 * c) = (0, 1) ∧ shp (62 + 4 * c) = (1, 22) ∧ shp (63 + 4 * c) = (1, 22) ∧ shp (64 + 4 * c) = (1, 308) := by
  rcases (show c = 0 ∨ c = 1 ∨ c = 2 by omega) with rfl | rfl | rfl <;> exact ⟨rfl, rfl, rfl, rfl⟩
/-- the class's memory with a category more -/
def catC (M : JM) (c : Nat) (v : Int32) : JM := si (sr (fil (sr (al (sr (al (sr (al (si (al M) (61 + 4 * c) 0 v)) (61 + 4 * c) 1 (some (62 + 4 * c)))) (61 + 4 * c) 2 (some (63 + 4 * c)))) (61 + 4 * c) 3 (some (64 + 4 * c))) (62 + 4 * c) 0 22 (-9)) 1 (nI c) (some (61 + 4 * c))) 0 1 (nI (c + 1))
def catM (M : JM) (c : Nat) (v : Int32) : JM := si (fil3 (si (si (si M 33 (nI c) v) 37 (nI c) (-9)) 38 (nI c) (-9)) (nI c) 0) 32 0 (nI (c + 1))
theorem cCategory_new {M : JM} (hr : RF (gr M)) {c : Nat} (hc3 : c < 3) (hc : gi M 0 1 = nI c) (hn : gn M = 61 + 4 * c) (v : Int32) (h1 : 1 ≤ v ∧ v ≤ 255) (hi : f_X7_indexOfNumber 0 v M = some (-9, M)) : f_X7_category 0 v M = some (nI c, catC M c v) := by
  obtain ⟨s1, s2, s3, s4⟩ := shp_new hc3
  unfold f_X7_category f_X1_init
  rw [if_neg (by grind), if_neg (by grind), hi, ob_e, if_pos rfl, hc, if_pos (show nI c < 3 from nI_lt (b := 3) hc3 (by decide)), hr.r0_0, orf_e, hn, s1, if_pos rfl, sq_e, sq_e]
  rw [Gn_si, gn_al, hn, show 61 + 4 * c + 1 = 62 + 4 * c by omega, s2, if_pos rfl, sq_e, sq_e]
  rw [Gn_sr, gn_al, Gn_si, gn_al, hn, show 61 + 4 * c + 1 + 1 = 63 + 4 * c by omega, s3, if_pos rfl, sq_e, sq_e]
  rw [Gn_sr, gn_al, Gn_sr, gn_al, Gn_si, gn_al, hn, show 61 + 4 * c + 1 + 1 + 1 = 64 + 4 * c by omega, s4, if_pos rfl, sq_e, sq_e]
  have e1 : gr (sr (al (sr (al (sr (al (si (al M) (61 + 4 * c) 0 v)) (61 + 4 * c) 1 (some (62 + 4 * c)))) (61 + 4 * c) 2 (some (63 + 4 * c)))) (61 + 4 * c) 3 (some (64 + 4 * c))) (61 + 4 * c) 1 = some (62 + 4 * c) := by
    rw [gr_sr, if_neg (fun q => absurd q.2 (by decide)), gr_al, if_neg (by rw [Gn_sr, gn_al, Gn_sr, gn_al, Gn_si, gn_al, hn]; omega), gr_sr, if_neg (fun q => absurd q.2 (by decide)), gr_al, if_neg (by rw [Gn_sr, gn_al, Gn_si, gn_al, hn]; omega), gr_sr, if_pos ⟨rfl, rfl⟩]
  have e2 : ∀ w, gi (sr (fil (sr (al (sr (al (sr (al (si (al M) (61 + 4 * c) 0 v)) (61 + 4 * c) 1 (some (62 + 4 * c)))) (61 + 4 * c) 2 (some (63 + 4 * c)))) (61 + 4 * c) 3 (some (64 + 4 * c))) (62 + 4 * c) 0 22 (-9)) 1 (nI c) w) 0 1 = nI c := by
    intro w
    rw [gi_sr, gi_fil, if_neg (by omega), gi_sr, gi_al, if_neg (by rw [Gn_sr, gn_al, Gn_sr, gn_al, Gn_si, gn_al, hn]; omega), gi_sr, gi_al, if_neg (by rw [Gn_sr, gn_al, Gn_si, gn_al, hn]; omega), gi_sr, gi_al, if_neg (by rw [Gn_si, gn_al, hn]; omega), gi_si, if_neg (by omega), gi_al, if_neg (by rw [hn]; omega), hc]
  rw [e1, orf_e, fill_all _ _ _ (by rw [ln_kinds hc3]; decide) (by rw [ln_kinds hc3]; decide), ob_e, ob_e, ln_kinds hc3, ln_1, if_pos (show 0 ≤ nI c ∧ nI c < 3 from ⟨nI_pos' (by omega), nI_lt (b := 3) hc3 (by decide)⟩), sq_e, e2, nI_p1, sq_e]
  rw [gi_si, if_pos ⟨rfl, rfl⟩, nI_pred]
  rfl
theorem mCategory_new {M : JM} (hr : RF (gr M)) {c : Nat} (hc3 : c < 3) (hc : gi M 32 0 = nI c) (v : Int32) (h1 : 1 ≤ v ∧ v ≤ 255) (hi : f_X8_find 32 v M = some (-9, M)) : f_X8_category 32 v M = some (nI c, catM M c v) := by
  have hl : 0 ≤ nI c ∧ nI c < 3 := ⟨nI_pos' (by omega), nI_lt (b := 3) hc3 (by decide)⟩
  have hr1 : RF (gr (si (si (si M 33 (nI c) v) 37 (nI c) (-9)) 38 (nI c) (-9))) := hr
  have ec : gi (si (si (si M 33 (nI c) v) 37 (nI c) (-9)) 38 (nI c) (-9)) 32 0 = nI c := by
    rw [gi_si, if_neg (fun q => absurd q.1 (by decide)), gi_si, if_neg (fun q => absurd q.1 (by decide)), gi_si, if_neg (fun q => absurd q.1 (by decide)), hc]
  have ea : gi (si M 33 (nI c) v) 32 0 = nI c := by rw [gi_si, if_neg (fun q => absurd q.1 (by decide)), hc]
  have eb : gi (si (si M 33 (nI c) v) 37 (nI c) (-9)) 32 0 = nI c := by rw [gi_si, if_neg (fun q => absurd q.1 (by decide)), ea]
  unfold f_X8_category
  rw [in_eq, ob_e, decide_eq_true h1, if_pos rfl, hi, ob_e, if_pos (by decide), hc, if_neg (by intro q; rw [q] at hl; exact absurd hl.2 (by decide)), hr.r32_1, orf_e, ln_33, if_pos hl, sq_e, Gr_si, hr.r32_5, orf_e]
  rw [ea, ln_37, if_pos hl, sq_e, Gr_si, Gr_si, hr.r32_6, orf_e]
  rw [eb, ln_38, if_pos hl, sq_e, sv_e]
  rw [lp_catM hc3 FU 0 _ hr1 ec (by decide) (by decide) (by decide)]
  unfold f_X8_category_L90
  rw [gi_fil3, if_neg (fun q => absurd q.1 (by decide)), if_neg (fun q => absurd q.1 (by decide)), if_neg (fun q => absurd q.1 (by decide)), ec, nI_p1, sq_e, gi_si, if_pos ⟨rfl, rfl⟩, nI_pred]
  rfl
