/-! PURE PART: read, the reference: both ends -/
abbrev kx (j : Int32) : Prop := j = 9 ∨ j = 10 ∨ j = 11 ∨ j = 12 ∨ j = 13 ∨ j = 20 ∨ j = 43 ∨ j = 44
abbrev ky (j : Int32) : Prop := j = 8 ∨ j = 14 ∨ j = 15 ∨ j = 42
theorem md_0 (M : JM) : si M 32 11 0 = mdM M (gi M 32 9) 0 (gi M 32 12) := by
  refine JM_ext (fun k j => ?_) rfl rfl
  rw [gi_si, gi_md]
  by_cases hk : k = 32
  · subst hk
    simp only [true_and]
    grind
  · simp only [hk, false_and, if_false]
theorem mread_go {D : JM} (hw : gi D 32 8 ≠ 0) {E : JM} {v n f u : Int32} (e : f_X8_readBlock 32 (mdM D (gi D 32 9) 0 (gi D 32 12)) = some (v, mdM E n f u)) :
    (f ≠ 0 → f_X8_read 32 D = some (-100 - u, si (mdM E n f u) 32 13 f)) ∧ (f = 0 → f_X8_read 32 D = f_X8_read_L68 FU 32 0 (si (si (si (si (mdM E n 0 u) 32 13 0) 32 14 (gi E 32 20)) 32 15 v) 32 42 (gi E 32 42 + 1))) := by
  have h11 : gi (si (mdM E n f u) 32 13 f) 32 11 = f := by rw [gi_si, if_neg (by decide), md11]
  have h12 : gi (si (mdM E n f u) 32 13 f) 32 12 = u := by rw [gi_si, if_neg (by decide), md12]
  unfold f_X8_read
  rw [if_neg hw, sq_e, md_0, e, ob_e, sv_e, md11, sq_e, h11, h12]
  constructor
  · intro hf
    rw [if_neg hf]
  · intro hf
    subst hf
    have h20 : gi (si (mdM E n 0 u) 32 13 0) 32 20 = gi E 32 20 := by rw [gi_si, if_neg (by decide), md_k (by decide)]
    have h42 : ∀ a b : Int32, gi (si (si (si (mdM E n 0 u) 32 13 0) 32 14 a) 32 15 b) 32 42 = gi E 32 42 := fun a b => by
      rw [gi_si, if_neg (by decide), gi_si, if_neg (by decide), gi_si, if_neg (by decide), md_k (by decide)]
    rw [if_pos rfl, h20, sq_e, sq_e, h42, sq_e, sv_e]
/-- the reference's memory, as its tape is read -/
def mbM (D : JM) (v : Int32) : JM := si (si D 32 10 v) 32 20 0
theorem mb_k {D : JM} {v : Int32} {k : Nat} {j : Int32} (h : ¬ (k = 32 ∧ (j = 10 ∨ j = 20))) : gi (mbM D v) k j = gi D k j := by
  unfold mbM
  rw [gi_si, if_neg (fun x => h ⟨x.1, Or.inr x.2⟩), gi_si, if_neg (fun x => h ⟨x.1, Or.inl x.2⟩)]
theorem mb_10 (D : JM) (v : Int32) : gi (mbM D v) 32 10 = v := by
  unfold mbM
  rw [gi_si, if_neg (by decide), gi_si, if_pos ⟨rfl, rfl⟩]
theorem mb_20 (D : JM) (v : Int32) : gi (mbM D v) 32 20 = 0 := by
  unfold mbM
  rw [gi_si, if_pos ⟨rfl, rfl⟩]
/-- the reference's rows say what the class's say: what a read needs -/
def Rdy (M D : JM) (c w : Nat) : Prop := RF (gr D) ∧ gi D 32 0 = nI c ∧ (∀ i, i < c → ICat D i) ∧ gi D 32 8 = nI w ∧ (∀ k j, 61 ≤ k → gi D k j = gi M k j) ∧ (∀ i : Nat, i < c → gi D 33 (nI i) = gi M (61 + 4 * i) 0) ∧ (∀ j : Nat, j < w → gi D 39 (nI j) = gi M 3 (nI j) ∧ 0 ≤ gi M 3 (nI j) ∧ gi M 3 (nI j) ≤ 255) ∧ gi M 2 1 = nI w ∧ 0 < w ∧ w ≤ 300 ∧ c ≤ 3
theorem Rdy.idx {M D : JM} {c w : Nat} (h : Rdy M D c w) : fnd (fun i => gi D 33 (nI i)) (gi D 39 0) c 0 = idxM M c := by
  obtain ⟨h1, h2, h3, h4, h5, h6, h7, h8, h9, h10, h11⟩ := h
  have := (h7 0 h9).1
  unfold idxM
  rw [show gi D 39 0 = gi M 3 0 from this]
  exact fnd_congr c 0 (fun j _ hj => h6 j (by omega))
theorem Rdy.len {M D : JM} {c w : Nat} (h : Rdy M D c w) : lenD D = lenM M := by
  obtain ⟨h1, h2, h3, h4, h5, h6, h7, h8, h9, h10, h11⟩ := h
  unfold lenD lenM
  rw [h4, h8]
  by_cases c3 : nI w < 3
  · rw [if_pos c3, if_pos c3]
  · rw [if_neg c3, if_neg c3]
    have w3 : 3 ≤ w := by
      rcases Nat.lt_or_ge w 3 with a | a
      · exact absurd (nI_lt (b := 3) a (by decide)) c3
      · exact a
    obtain ⟨a1, a2, a3⟩ := h7 1 (by omega)
    obtain ⟨b1, b2, b3⟩ := h7 2 (by omega)
    rw [show gi D 39 1 = gi M 3 (nI 1) from a1, show gi D 39 2 = gi M 3 (nI 2) from b1, show gi M 3 1 = gi M 3 (nI 1) from rfl, show gi M 3 2 = gi M 3 (nI 2) from rfl]
    obtain ⟨x, ex, hx⟩ := nI_ex (h := 255) a2 a3 (by decide)
    obtain ⟨y, ey, hy⟩ := nI_ex (h := 255) b2 b3 (by decide)
    rw [ex, ey, len_or (by omega) (by omega)]
theorem Rdy.rdd {M D : JM} {c w : Nat} (h : Rdy M D c w) {z : Nat} (hz : z ≤ w) : RdD (mbM D (nI z)) (Tz M z) z := by
  obtain ⟨h1, h2, h3, h4, h5, h6, h7, h8, h9, h10, h11⟩ := h
  refine ⟨h1, mb_10 _ _, by omega, fun j hj => ?_⟩
  obtain ⟨a, b, d⟩ := h7 j (by omega)
  rw [mb_k (by omega), Tz_at hj (by omega)]
  exact ⟨a, b, d⟩
theorem mread_bad {M D : JM} {c w : Nat} (h : Rdy M D c w) {f u : Int32} (hf : f ≠ 0) (hB : RdBad M c f u) : ∃ D1, f_X8_read 32 D = some (-100 - u, D1) ∧ gr D1 = gr D ∧ gn D1 = gn D ∧ (∀ k j, ¬ (44 ≤ k ∧ k ≤ 47) → k ≠ 60 → ¬ (k = 32 ∧ kx j) → gi D1 k j = gi D k j) ∧ gi D1 32 13 = f := by
  have hidx := h.idx
  have hlen := h.len
  have h0 := h
  obtain ⟨h1, h2, h3, h4, h5, h6, h7, h8, h9, h10, h11⟩ := h
  obtain ⟨p1, p2, p3⟩ := mrb_eq h1 h11 h2 (gi D 32 9) (gi D 32 12)
  rw [hidx] at p1
  rw [hidx, hlen, h4] at p2 p3
  have fin : ∀ (E : JM) (v n : Int32), gr E = gr D → gn E = gn D → (∀ k j, ¬ (44 ≤ k ∧ k ≤ 47) → k ≠ 60 → ¬ (k = 32 ∧ kx j) → gi E k j = gi D k j) → f_X8_readBlock 32 (mdM D (gi D 32 9) 0 (gi D 32 12)) = some (v, mdM E n f u) → ∃ D1, f_X8_read 32 D = some (-100 - u, D1) ∧ gr D1 = gr D ∧ gn D1 = gn D ∧ (∀ k j, ¬ (44 ≤ k ∧ k ≤ 47) → k ≠ 60 → ¬ (k = 32 ∧ kx j) → gi D1 k j = gi D k j) ∧ gi D1 32 13 = f := by
    intro E v n e1 e2 e3 e
    refine ⟨_, (mread_go (by rw [h4]; exact nI_ne0 h9 (by omega)) e).1 hf, e1, e2, fun k j a b d => ?_, ?_⟩
    · rw [gi_si, if_neg (fun x => d ⟨x.1, by rw [x.2]; unfold kx; decide⟩), md_k (fun x => d ⟨x.1, by unfold kx; rcases x.2 with y | y | y <;> rw [y] <;> decide⟩), e3 k j a b d]
    · rw [gi_si, if_pos ⟨rfl, rfl⟩]
  have hmb : ∀ v k j, ¬ (44 ≤ k ∧ k ≤ 47) → k ≠ 60 → ¬ (k = 32 ∧ kx j) → gi (mbM D v) k j = gi D k j := fun v k j a b d => mb_k (fun x => d ⟨x.1, by unfold kx; rcases x.2 with y | y <;> rw [y] <;> decide⟩)
  rcases hB with ⟨a, rfl, rfl⟩ | ⟨i, a, b, d, rfl, rfl⟩ | ⟨i, z, a, b, d, z4, hz3, zw, hB⟩
  · obtain ⟨v, e⟩ := p1 a
    exact fin (mbM D v) _ _ rfl rfl (hmb v) e
  · obtain ⟨v, e⟩ := p2 i a b (by rw [← h8]; exact d)
    exact fin (mbM D v) _ _ rfl rfl (hmb v) e
  · have zw' : z ≤ w := by rw [h8] at zw; exact (nI_leI (by omega) (by omega)).mp zw
    have e := p3 i a b (by rw [d]; exact Int32.not_lt.mpr (nI_le (a := 4) z4 (by omega))) (by rw [d]; exact Int32.not_lt.mpr (nI_le zw' (by omega)))
    rw [d] at e
    have hcat : ICat (mbM D (nI z)) i := (h3 i a).congr rfl (fun k j hd => mb_k (by unfold depCat at hd; omega))
    have hB' := (BkBad_of (B := mbM D (nI z)) (M := M) (fun k j hk => by rw [mb_k (by omega)]; exact h5 k j hk) (Tz M z) z f u).mpr hB
    obtain ⟨D', n', e1, e2⟩ := mblk_bad (h0.rdd zw') (gi D 32 12) (by omega) hcat (mb_20 _ _) hB'
    refine fin D' _ n' e2.1 e2.2.1 (fun k j x y t => ?_) (e.trans e1)
    rw [e2.2.2 k j x y (fun s => t ⟨s.1, by unfold kx; rcases s.2 with y | y | y <;> rw [y] <;> decide⟩)]
    exact hmb _ k j x y t
theorem mread_ok {M D : JM} {c w : Nat} (h : Rdy M D c w) {i z cc : Nat} {S N : Nat → Nat} {PP : Nat → Nat → Nat} (hO : RdOk M c i z cc S N PP) : ∃ D1, f_X8_read 32 D = some (nI cc, D1) ∧ gr D1 = gr D ∧ gn D1 = gn D ∧ (∀ k j, ¬ (39 ≤ k ∧ k ≤ 47) → k ≠ 60 → ¬ (k = 32 ∧ (kx j ∨ ky j)) → gi D1 k j = gi D k j) ∧ (gi D1 32 13 = 0 ∧ gi D1 32 14 = nI cc ∧ gi D1 32 15 = nI i ∧ gi D1 32 42 = gi D 32 42 + 1 ∧ gi D1 32 8 = nI (w - z)) ∧ (∀ r, r < cc → gi D1 41 (nI r) = nI (S r) ∧ ∀ t, t < 21 → gi D1 42 (nI (22 * r + t + 1)) = nI (PP r t) ∧ gi D1 43 (nI (22 * r + t + 1)) = nI (PP r (t + 1) - PP r t)) ∧ gi D1 41 (nI cc) = nI z ∧ (∀ j, gi D1 40 j = if 0 ≤ j ∧ j < nI z then gi D 39 j else gi D 40 j) ∧ ∀ j, 0 ≤ j → j < nI (w - z) → gi D1 39 j = gi D 39 (j + nI z) := by
  have hidx := h.idx
  have hlen := h.len
  have h0 := h
  obtain ⟨h1, h2, h3, h4, h5, h6, h7, h8, h9, h10, h11⟩ := h
  obtain ⟨-, -, p3⟩ := mrb_eq h1 h11 h2 (gi D 32 9) (gi D 32 12)
  rw [hidx, hlen, h4] at p3
  obtain ⟨a, b, d, z4, z3, zw, cc1, cc8, hB, hS⟩ := hO
  have zw' : z ≤ w := by rw [h8] at zw; exact (nI_leI (by omega) (by omega)).mp zw
  have e := p3 i a b (by rw [d]; exact Int32.not_lt.mpr (nI_le (a := 4) z4 (by omega))) (by rw [d]; exact Int32.not_lt.mpr (nI_le zw' (by omega)))
  rw [d] at e
  have hcat : ICat (mbM D (nI z)) i := (h3 i a).congr rfl (fun k j hd => mb_k (by unfold depCat at hd; omega))
  have hB' := (BkT_of (B := mbM D (nI z)) (M := M) (fun k j hk => by rw [mb_k (by omega)]; exact h5 k j hk) (Tz M z) z cc S N PP).mpr hB
  obtain ⟨E, e1, ⟨e2, e3, e4, e5⟩⟩ := mblk_ok (h0.rdd zw') (gi D 32 12) (by omega) hcat (mb_20 _ _) cc8 hB' hS
  have hgo := (mread_go (by rw [h4]; exact nI_ne0 h9 (by omega)) (e.trans e1)).2 rfl
  have hkE : ∀ k j, ¬ (44 ≤ k ∧ k ≤ 47) → k ≠ 60 → ¬ (k = 32 ∧ kx j) → gi E k j = gi D k j := fun k j x y t => by
    rw [e2.2.2 k j x y (fun s => t ⟨s.1, by unfold kx; rcases s.2 with y | y | y <;> rw [y] <;> decide⟩)]
    exact mb_k (fun x => t ⟨x.1, by unfold kx; rcases x.2 with y | y <;> rw [y] <;> decide⟩)
  have hE10 : gi E 32 10 = nI z := by rw [e2.2.2 32 10 (by omega) (by decide) (by decide), mb_10]
  rw [e3, hkE 32 42 (by omega) (by decide) (by decide)] at hgo
  generalize hX : si (si (si (si (mdM E (nI z) 0 (gi D 32 12)) 32 13 0) 32 14 (nI cc)) 32 15 (nI i)) 32 42 (gi D 32 42 + 1) = X at hgo
  have hgX : gr X = gr D := by rw [← hX]; exact e2.1
  have hnX : gn X = gn D := by rw [← hX]; exact e2.2.1
  have kX : ∀ k j, k ≠ 32 → gi X k j = gi E k j := fun k j a => by
    rw [← hX, gi_si, if_neg (fun x => a x.1), gi_si, if_neg (fun x => a x.1), gi_si, if_neg (fun x => a x.1), gi_si, if_neg (fun x => a x.1), md_k (fun x => a x.1)]
  have kX2 : ∀ j, ¬ kx j → ¬ (j = 14 ∨ j = 15 ∨ j = 42) → gi X 32 j = gi E 32 j := fun j a b => by
    unfold kx at a
    rw [← hX, gi_si, if_neg (by grind), gi_si, if_neg (by grind), gi_si, if_neg (by grind), gi_si, if_neg (by grind), md_k (by grind)]
  have x8 : gi X 32 8 = nI w := by rw [kX2 8 (by decide) (by decide), hkE _ _ (by omega) (by decide) (by decide), h4]
  have x10 : gi X 32 10 = nI z := by
    rw [← hX, gi_si, if_neg (by decide), gi_si, if_neg (by decide), gi_si, if_neg (by decide), gi_si, if_neg (by decide), md10, hE10]
  have x14 : gi X 32 14 = nI cc := by
    rw [← hX, gi_si, if_neg (by decide), gi_si, if_neg (by decide), gi_si, if_pos ⟨rfl, rfl⟩]
  have x13 : gi X 32 13 = 0 := by
    rw [← hX, gi_si, if_neg (by decide), gi_si, if_neg (by decide), gi_si, if_neg (by decide), gi_si, if_pos ⟨rfl, rfl⟩]
  have x15 : gi X 32 15 = nI i := by
    rw [← hX, gi_si, if_neg (by decide), gi_si, if_pos ⟨rfl, rfl⟩]
  have x42 : gi X 32 42 = gi D 32 42 + 1 := by
    rw [← hX, gi_si, if_pos ⟨rfl, rfl⟩]
  obtain ⟨X1, f0, f1, f2, f3, f4, f5, f6, f7, f8⟩ := rows_eq (X := X) (by rw [hgX]; exact h1) x8 x10 x14 (by omega) zw' h10
  have x32 : ∀ j, j ≠ 8 → gi X1 32 j = gi X 32 j := fun j a => f3 32 j (by omega) (fun y => a y.2)
  refine ⟨X1, hgo.trans f0, by rw [f1, hgX], by rw [f2, hnX], fun k j a b d => ?_, ⟨by rw [x32 _ (by decide), x13], by rw [x32 _ (by decide), x14], by rw [x32 _ (by decide), x15], by rw [x32 _ (by decide), x42], f4⟩, fun r hr => ⟨?_, fun t ht => ?_⟩, ?_, fun j => ?_, fun j x y => ?_⟩
  · rw [f3 k j (by omega) (fun y => d ⟨y.1, Or.inr (Or.inl y.2)⟩)]
    by_cases hk : k = 32
    · subst hk
      rw [kX2 j (fun y => d ⟨rfl, Or.inl y⟩) (fun y => d ⟨rfl, Or.inr (Or.inr y)⟩)]
      exact hkE 32 j (by omega) b (fun y => d ⟨rfl, Or.inl y.2⟩)
    · rw [kX k j hk]
      exact hkE k j (by omega) b (fun y => hk y.1)
  · rw [f5 r (by omega), kX _ _ (by decide)]
    exact (e4 r hr).1
  · obtain ⟨y1, y2⟩ := f6 (22 * r + t + 1) (by omega)
    rw [y1, y2, kX _ _ (by decide), kX _ _ (by decide)]
    exact (e4 r hr).2 t ht
  · rw [f5 cc (by omega), kX _ _ (by decide), e5 (by omega), hS]
  · rw [f7 j, kX 39 _ (by decide), kX 40 _ (by decide), hkE 39 _ (by omega) (by decide) (by omega), hkE 40 _ (by omega) (by decide) (by omega)]
  · rw [f8 j x y, kX _ _ (by decide), hkE 39 _ (by omega) (by decide) (by omega)]
