/-! PURE PART: set: class and reference answer alike -/
/-- only what a reader keeps for itself has changed -/
theorem Inv_rd {M M' : JM} (hI : Inv M) (hg : ∀ k j, ¬ (k = 4 ∧ j = 1) → gr M' k j = gr M k j) (hn : gn M' = gn M) (hf : ∀ k j, k ≠ 4 → k ≠ 47 → ¬ (k = 32 ∧ kz j) → gi M' k j = gi M k j) : Inv M' := by
  obtain ⟨hr, ⟨c, hc3, t1, t2, tn, ht⟩, hP, ⟨q, hB⟩, hO, hK, hM⟩ := hI
  have hq := hB.1
  refine ⟨hr.ofr (fun k j a _ => hg k j a) (fun j _ _ => hg 0 j (by omega)), ⟨c, hc3, by rw [hf _ _ (by omega) (by omega) (by omega)]; exact t1, by rw [hf _ _ (by omega) (by omega) (by decide)]; exact t2, by rw [hn]; exact tn, ITab.keep hc3 ht (fun k j hk => hg k j (by omega)) (fun k j hk => hf k j (by omega) (by omega) (by omega))⟩, ?_, ⟨q, ?_⟩, ?_, ?_, ?_⟩
  · refine hP.congr (fun k j hd => ?_)
    unfold depTape at hd
    rcases hd with ⟨rfl, rfl⟩ | ⟨rfl, rfl⟩ | rfl | rfl
    · exact hf _ _ (by omega) (by omega) (by omega)
    · exact hf _ _ (by omega) (by omega) (by decide)
    · exact hf _ _ (by omega) (by omega) (by omega)
    · exact hf _ _ (by omega) (by omega) (by omega)
  · exact hB.keep (hg 0 4 (by omega)) (hg 0 5 (by omega)) (fun k j hk => hf k j (by omega) (by omega) (by omega)) ⟨hf _ _ (by omega) (by omega) (by decide), hf _ _ (by omega) (by omega) (by decide)⟩ (hf _ _ (by omega) (by omega) (by omega))
  · refine hO.congr (fun k j hd => ?_) (hf _ _ (by omega) (by omega) (by omega))
    unfold depOwn at hd
    rcases hd with ⟨rfl, rfl⟩ | rfl | rfl | ⟨rfl, rfl⟩ | rfl | rfl
    · exact hf _ _ (by omega) (by omega) (by omega)
    · exact hf _ _ (by omega) (by omega) (by omega)
    · exact hf _ _ (by omega) (by omega) (by omega)
    · exact hf _ _ (by omega) (by omega) (by decide)
    · exact hf _ _ (by omega) (by omega) (by omega)
    · exact hf _ _ (by omega) (by omega) (by omega)
  · refine hK.congr2 (funext fun j => hg 19 j (by omega)) (fun k j hd => ?_)
    unfold depTrk at hd
    rcases hd with rfl | hd | ⟨rfl, hd⟩ | hd
    · exact hf _ _ (by omega) (by omega) (by omega)
    · exact hf _ _ (by omega) (by omega) (by omega)
    · refine hf _ _ (by omega) (by omega) ?_
      rcases hd with rfl | rfl | rfl | rfl <;> decide
    · exact hf _ _ (by omega) (by omega) (by omega)
  · unfold IMis
    rw [hf 0 8 (by omega) (by omega) (by omega), hf 32 13 (by omega) (by omega) (by decide), hf 0 9 (by omega) (by omega) (by omega), hf 32 42 (by omega) (by omega) (by decide)]
    exact hM
/-- a record of one's own, with an item put, the tape empty -/
theorem Inv_set {M M' : JM} (hI : Inv M) {p w : Nat} (hp : 1 ≤ p ∧ p ≤ 21) (hw : gi M 2 1 = nI w) (h58 : w ≤ 58) (hg : ∀ k j, ¬ (k = 4 ∧ j = 1) → gr M' k j = gr M k j) (hn : gn M' = gn M) (hf : ∀ k j, k ≠ 4 → k ≠ 47 → k ≠ 16 → k ≠ 17 → k ≠ 48 → k ≠ 49 → ¬ (k = 2 ∧ j = 1) → ¬ (k = 32 ∧ (kz j ∨ j = 8)) → gi M' k j = gi M k j) (h2 : gi M' 2 1 = 0) (h8 : gi M' 32 8 = 0) (h17 : ∀ j, gi M' 17 j = if j = nI p then nI w else gi M 17 j) (h48 : ∀ j, gi M' 48 j = if j = nI p then nI w else gi M 48 j) (h16 : ∀ j, gi M' 16 j = if nI ((p - 1) * 58) ≤ j ∧ j < nI ((p - 1) * 58 + w) then gi M 3 (j - nI ((p - 1) * 58)) else gi M 16 j) (h49 : ∀ j, gi M' 49 j = if nI (60 * p) ≤ j ∧ j < nI (60 * p + w) then gi M 39 (j - nI (60 * p)) else gi M 49 j) : Inv M' := by
  obtain ⟨hr, ⟨c, hc3, t1, t2, tn, ht⟩, hP, ⟨q, hB⟩, hO, hK, hM⟩ := hI
  have hq := hB.1
  have kf : ∀ k j, k ≠ 4 → k ≠ 47 → k ≠ 16 → k ≠ 17 → k ≠ 48 → k ≠ 49 → k ≠ 2 → k ≠ 32 → gi M' k j = gi M k j := fun k j a b d e f g h i => hf k j a b d e f g (fun x => h x.1) (fun x => i x.1)
  have k32 : ∀ j, ¬ (kz j ∨ j = 8) → gi M' 32 j = gi M 32 j := fun j a => hf 32 j (by decide) (by decide) (by decide) (by decide) (by decide) (by decide) (by omega) (fun x => a x.2)
  refine ⟨hr.ofr (fun k j a _ => hg k j a) (fun j _ _ => hg 0 j (by omega)), ⟨c, hc3, by rw [kf 0 _ (by decide) (by decide) (by decide) (by decide) (by decide) (by decide) (by decide) (by decide)]; exact t1, by rw [k32 _ (by decide)]; exact t2, by rw [hn]; exact tn, ITab.keep hc3 ht (fun k j hk => hg k j (by omega)) (fun k j hk => kf k j (by omega) (by omega) (by omega) (by omega) (by omega) (by omega) (by omega) (by omega))⟩, ?_, ⟨q, ?_⟩, ⟨?_, fun b b1 b2 => ?_⟩, ?_, ?_⟩
  · refine ⟨by rw [h2, h8], by rw [h2]; decide, by rw [h2]; decide, fun j a b => ?_⟩
    rw [h2] at b
    exact absurd b (Int32.not_lt.mpr a)
  · exact hB.keep (hg 0 4 (by omega)) (hg 0 5 (by omega)) (fun k j hk => kf k j (by omega) (by omega) (by omega) (by omega) (by omega) (by omega) (by omega) (by omega)) ⟨k32 _ (by decide), k32 _ (by decide)⟩ (kf 0 _ (by decide) (by decide) (by decide) (by decide) (by decide) (by decide) (by decide) (by decide))
  · rw [kf 15 0 (by decide) (by decide) (by decide) (by decide) (by decide) (by decide) (by decide) (by decide), k32 25 (by decide), kf 0 1 (by decide) (by decide) (by decide) (by decide) (by decide) (by decide) (by decide) (by decide)]
    exact hO.1
  · obtain ⟨o1, o2, o3, o4⟩ := hO.2 b b1 b2
    obtain ⟨n, en, hn21⟩ := nI_ex (x := b) (h := 21) (by grind) b2 (by decide)
    have hn1 : 1 ≤ n := by rw [en] at b1; exact (nI_leI (a := 1) (by decide) (by omega)).mp b1
    have e58 : ∀ m : Nat, 1 ≤ m → (nI m - 1) * 58 = nI ((m - 1) * 58) := fun m hm => by rw [show m = m - 1 + 1 by omega, nI_pred, show (58 : Int32) = nI 58 from rfl, pk_mul, show m - 1 + 1 - 1 = m - 1 by omega]
    have e60 : 60 * nI n = nI (60 * n) := by rw [show (60 : Int32) = nI 60 from rfl, pk_mul]
    by_cases hnp : n = p
    · subst hnp
      rw [en, h17, if_pos rfl, h48, if_pos rfl]
      refine ⟨rfl, nI_pos' (by omega), nI_le (b := 58) h58 (by decide), fun k a b => ?_⟩
      obtain ⟨m, em, hm⟩ := nI_ex (x := k) (h := w) a (Int32.le_of_lt b) (by omega)
      have hlt : m < w := by rw [em] at b; exact (nI_ltI (by omega) (by omega)).mp b
      obtain ⟨y1, y2, y3⟩ := hP.2.2.2 (nI m) (nI_pos' (by omega)) (by rw [hw]; exact nI_lt hlt (by omega))
      rw [em, e58 n hn1, e60, nI_add, nI_add, h16, if_pos ⟨nI_le (by omega) (by omega), nI_lt (by omega) (by omega)⟩, h49, if_pos ⟨nI_le (by omega) (by omega), nI_lt (by omega) (by omega)⟩, pk_sub (by omega), pk_sub (by omega), show (n - 1) * 58 + m - (n - 1) * 58 = m by omega, show 60 * n + m - 60 * n = m by omega, ← y1]
      exact ⟨rfl, y2, y3⟩
    · have hne : ¬ nI n = nI p := fun x => hnp (nI_inj (by omega) (by omega) x)
      rw [en, h17, if_neg hne, h48, if_neg hne]
      rw [en] at o1 o2 o3 o4
      refine ⟨o1, o2, o3, fun k a b => ?_⟩
      obtain ⟨m, em, hm⟩ := nI_ex (x := k) (h := 58) a (Int32.le_trans (Int32.le_of_lt b) o3) (by decide)
      have h4 := o4 k a b
      have hm58 : m < 58 := by
        have : nI m < nI 58 := by rw [← em]; exact Int32.lt_of_lt_of_le b o3
        exact (nI_ltI (by omega) (by omega)).mp this
      rw [em, e58 n hn1, e60, nI_add, nI_add] at h4 ⊢
      rw [h16, if_neg (fun x => by
        have x1 := (nI_leI (by omega) (by omega)).mp x.1
        have x2 := (nI_ltI (by omega) (by omega)).mp x.2
        omega), h49, if_neg (fun x => by
        have x1 := (nI_leI (by omega) (by omega)).mp x.1
        have x2 := (nI_ltI (by omega) (by omega)).mp x.2
        omega)]
      exact h4
  · refine hK.congr2 (funext fun j => hg 19 j (by omega)) (fun k j hd => ?_)
    unfold depTrk at hd
    rcases hd with rfl | hd | ⟨rfl, hd⟩ | hd
    · exact kf _ _ (by omega) (by omega) (by omega) (by omega) (by omega) (by omega) (by omega) (by omega)
    · exact kf _ _ (by omega) (by omega) (by omega) (by omega) (by omega) (by omega) (by omega) (by omega)
    · refine k32 _ ?_
      rcases hd with rfl | rfl | rfl | rfl <;> decide
    · exact kf _ _ (by omega) (by omega) (by omega) (by omega) (by omega) (by omega) (by omega) (by omega)
  · unfold IMis
    rw [kf 0 8 (by decide) (by decide) (by decide) (by decide) (by decide) (by decide) (by decide) (by decide), k32 13 (by decide), kf 0 9 (by decide) (by decide) (by decide) (by decide) (by decide) (by decide) (by decide) (by decide), k32 42 (by decide)]
    exact hM
theorem eq_set {M : JM} (hI : Inv M) (v : Int32) : Eqi M (f_X7_set 0 v) (f_X8_set 32 v) := by
  have hI0 := hI
  obtain ⟨hr, ⟨c, hc3, t1, t2, tn, ht⟩, hP, hB, hO, hK, hM⟩ := hI
  by_cases hv : 1 ≤ v ∧ v ≤ 21
  · rcases hO.1 with ⟨b1, b2⟩ | ⟨i, hi, o1, o2, o3⟩
    · refine Eqi.same hI0 (r := -2) ?_ ?_
      · unfold f_X7_set
        rw [cPlace_eq, ob_e, decide_eq_true hv, if_pos rfl, hr.r0_6, orf_e, b1, cCat_no (fun x => absurd x.1 (by decide)), ob_e, oca_n]
      · unfold f_X8_set
        rw [mPlace_eq, ob_e, decide_eq_true hv, if_pos rfl, b2, if_pos (by decide)]
    · obtain ⟨p, ep, hp21⟩ := nI_ex (x := v) (h := 21) (by grind) hv.2 (by decide)
      have hp : 1 ≤ p ∧ p ≤ 21 := ⟨by rw [ep] at hv; exact (nI_leI (a := 1) (by decide) (by omega)).mp hv.1, hp21⟩
      obtain ⟨w, ew, w3⟩ := nI_ex (h := 300) hP.2.1 hP.2.2.1 (by decide)
      have hbytes : ∀ j : Nat, j < w → gi M 3 (nI j) = gi M 39 (nI j) ∧ 0 ≤ gi M 3 (nI j) ∧ gi M 3 (nI j) ≤ 255 := fun j hj => hP.2.2.2 (nI j) (nI_pos' (by omega)) (by rw [ew]; exact nI_lt hj (by omega))
      have hic : i < c := by rw [t1] at o1; exact (nI_ltI (by omega) (by omega)).mp o1
      have hc := ht i hic
      subst ep
      obtain ⟨c1, c2, c3⟩ := cset_eq hr hi hc o1 o2 ew w3 hp
      have hm : ∀ D : JM, (∀ k j, ¬ (k = 4 ∧ j = 1) → gr D k j = gr M k j) → (∀ k j, k ≠ 4 → k ≠ 16 → k ≠ 17 → ¬ (k = 2 ∧ j = 1) → gi D k j = gi M k j) → (gi M (62 + 4 * i) (nI p) = -9 → f_X8_set 32 (nI p) D = some (-1, D)) ∧ (gi M (62 + 4 * i) (nI p) ≠ -9 → ∃ E, gr E = gr D ∧ gn E = gn D ∧ (∀ k j, k ≠ 47 → ¬ (k = 32 ∧ kz j) → gi E k j = gi D k j) ∧ f_X8_set 32 (nI p) D = if cItem M i (gi M 3) (nI w) (nI p) 0 = .inl (nI w) then some (nI w, stM E p w) else some (-1, E)) := by
        intro D hg hf
        have hrD : RF (gr D) := hr.ofr (fun k j a _ => hg k j a) (fun j _ _ => hg 0 j (by omega))
        have hcD : ICat D i := ITab.keep hc3 ht (fun k j hk => hg k j (by omega)) (fun k j hk => hf k j (by omega) (by omega) (by omega) (by omega)) i hic
        have k39 : ∀ j, gi D 39 j = gi M 39 j := fun j => hf 39 j (by decide) (by decide) (by decide) (by omega)
        have := mset_eq hrD hi hcD (by rw [hf 32 25 (by decide) (by decide) (by decide) (by omega)]; exact o3) (w := w) (by rw [hf 32 8 (by decide) (by decide) (by decide) (by omega), ← hP.1]; exact ew) w3 (fun j hj => by rw [k39, ← (hbytes j hj).1]; exact (hbytes j hj).2) (T := gi M 3) (fun j hj => by rw [k39, (hbytes j hj).1]) hp
        rw [hf (62 + 4 * i) _ (by omega) (by omega) (by omega) (by omega), cItem_of (M := M) (B := D) (fun k j hk => hf k j (by omega) (by omega) (by omega) (by omega))] at this
        exact this
      have hbase : ∀ n f u, (∀ k j, ¬ (k = 4 ∧ j = 1) → gr (rdM (sr (si M 4 3 (nI w)) 4 1 (some (61 + 4 * i))) n f u) k j = gr M k j) ∧ (∀ k j, k ≠ 4 → gi (rdM (sr (si M 4 3 (nI w)) 4 1 (some (61 + 4 * i))) n f u) k j = gi M k j) := by
        intro n f u
        refine ⟨fun k j a => ?_, fun k j a => ?_⟩
        · rw [Gr_rd, gr_sr, if_neg a]; rfl
        · rw [rd_k a, gi_sr, gi_si, if_neg (fun x => a x.1)]
      by_cases h9 : gi M (62 + 4 * i) (nI p) = -9
      · obtain ⟨n, f, u, e⟩ := c1 h9
        obtain ⟨g1, g2⟩ := hbase n f u
        obtain ⟨m1, -⟩ := hm _ g1 (fun k j a _ _ _ => g2 k j a)
        exact ⟨_, _, _, e, m1 h9, Inv_rd hI0 g1 rfl (fun k j a _ _ => g2 k j a)⟩
      · by_cases he : cItem M i (gi M 3) (nI w) (nI p) 0 = .inl (nI w)
        · obtain ⟨n, f, u, e⟩ := c3 h9 he
          have hp0 : 0 ≤ nI p ∧ nI p ≤ 21 := ⟨nI_pos' (by omega), nI_le (b := 21) hp.2 (by decide)⟩
          have h58 := cItem_le hc w3 hp0 h9 (x := 0) (y := w) (by omega) (by omega) he
          obtain ⟨g1, g2⟩ := hbase n f u
          generalize hA : rdM (sr (si M 4 3 (nI w)) 4 1 (some (61 + 4 * i))) n f u = A at *
          have hst : stC M i p w n f u = si (si (cpm A 3 0 16 (nI ((p - 1) * 58)) (nI w)) 17 (nI p) (nI w)) 2 1 0 := by
            unfold stC; rw [hA]
          rw [hst] at e
          have hnA : gn A = gn M := by rw [← hA]; rfl
          have s1 : ∀ k j, ¬ (k = 4 ∧ j = 1) → gr (si (si (cpm A 3 0 16 (nI ((p - 1) * 58)) (nI w)) 17 (nI p) (nI w)) 2 1 0) k j = gr M k j := fun k j a => g1 k j a
          have s2 : ∀ k j, k ≠ 4 → k ≠ 16 → k ≠ 17 → ¬ (k = 2 ∧ j = 1) → gi (si (si (cpm A 3 0 16 (nI ((p - 1) * 58)) (nI w)) 17 (nI p) (nI w)) 2 1 0) k j = gi M k j := fun k j a b d f => by
            rw [gi_si, if_neg f, gi_si, if_neg (fun x => d x.1), gi_cpm, if_neg (fun x => b x.1), g2 k j a]
          have s21 : gi (si (si (cpm A 3 0 16 (nI ((p - 1) * 58)) (nI w)) 17 (nI p) (nI w)) 2 1 0) 2 1 = 0 := by rw [gi_si, if_pos ⟨rfl, rfl⟩]
          have s17 : ∀ j, gi (si (si (cpm A 3 0 16 (nI ((p - 1) * 58)) (nI w)) 17 (nI p) (nI w)) 2 1 0) 17 j = if j = nI p then nI w else gi M 17 j := fun j => by
            rw [gi_si, if_neg (by omega)]
            by_cases x : j = nI p
            · rw [gi_si, if_pos ⟨rfl, x⟩, if_pos x]
            · rw [gi_si, if_neg (fun y => x y.2), if_neg x, gi_cpm, if_neg (by omega), g2 17 j (by decide)]
          have s16 : ∀ j, gi (si (si (cpm A 3 0 16 (nI ((p - 1) * 58)) (nI w)) 17 (nI p) (nI w)) 2 1 0) 16 j = if nI ((p - 1) * 58) ≤ j ∧ j < nI ((p - 1) * 58 + w) then gi M 3 (j - nI ((p - 1) * 58)) else gi M 16 j := fun j => by
            rw [gi_si, if_neg (by omega), gi_si, if_neg (by omega), gi_cpm, g2 16 j (by decide), g2 3 _ (by decide), nI_add]
            by_cases x : nI ((p - 1) * 58) ≤ j ∧ j < nI ((p - 1) * 58 + w)
            · rw [if_pos ⟨rfl, x⟩, if_pos x]
              congr 1
              simp
            · rw [if_neg (fun y => x y.2), if_neg x]
          have hn1 : gn (si (si (cpm A 3 0 16 (nI ((p - 1) * 58)) (nI w)) 17 (nI p) (nI w)) 2 1 0) = gn M := hnA
          generalize si (si (cpm A 3 0 16 (nI ((p - 1) * 58)) (nI w)) 17 (nI p) (nI w)) 2 1 0 = M1 at *
          obtain ⟨-, m2⟩ := hm M1 s1 s2
          obtain ⟨E, e1, e2, e3, e4⟩ := m2 h9
          rw [if_pos he] at e4
          refine ⟨_, M1, _, e, e4, Inv_set hI0 hp ew (by omega) (fun k j a => ?_) ?_ (fun k j a b d e f g h i => ?_) ?_ ?_ (fun j => ?_) (fun j => ?_) (fun j => ?_) (fun j => ?_)⟩
          · show gr E k j = gr M k j
            rw [e1, s1 k j a]
          · show gn E = gn M
            rw [e2, hn1]
          · unfold stM
            rw [gi_si, if_neg (fun x => i ⟨x.1, Or.inr x.2⟩), gi_si, if_neg (fun x => f x.1), gi_ow, if_neg (fun x => g x.1), e3 k j b (fun x => i ⟨x.1, Or.inl x.2⟩), s2 k j a d e h]
          · unfold stM
            rw [gi_si, if_neg (by omega), gi_si, if_neg (by omega), gi_ow, if_neg (by omega), e3 2 1 (by decide) (by omega), s21]
          · unfold stM
            rw [gi_si, if_pos ⟨rfl, rfl⟩]
          · unfold stM
            rw [gi_si, if_neg (by omega), gi_si, if_neg (by omega), gi_ow, if_neg (by omega), e3 17 j (by decide) (by omega), s17]
          · unfold stM
            rw [gi_si, if_neg (by omega)]
            by_cases x : j = nI p
            · rw [gi_si, if_pos ⟨rfl, x⟩, if_pos x]
            · rw [gi_si, if_neg (fun y => x y.2), if_neg x, gi_ow, if_neg (by omega), e3 48 j (by decide) (by omega), s2 48 j (by decide) (by decide) (by decide) (by omega)]
          · unfold stM
            rw [gi_si, if_neg (by omega), gi_si, if_neg (by omega), gi_ow, if_neg (by omega), e3 16 j (by decide) (by omega), s16]
          · unfold stM
            rw [gi_si, if_neg (by omega), gi_si, if_neg (by omega), gi_ow, e3 39 _ (by decide) (by omega), s2 39 _ (by decide) (by decide) (by decide) (by omega), e3 49 j (by decide) (by omega), s2 49 j (by decide) (by decide) (by decide) (by omega)]
            by_cases x : nI (60 * p) ≤ j ∧ j < nI (60 * p + w)
            · rw [if_pos ⟨rfl, x⟩, if_pos x]
            · rw [if_neg (fun y => x y.2), if_neg x]
        · obtain ⟨n, f, u, e⟩ := c2 h9 he
          obtain ⟨g1, g2⟩ := hbase n f u
          obtain ⟨-, m2⟩ := hm _ g1 (fun k j a _ _ _ => g2 k j a)
          obtain ⟨E, e1, e2, e3, e4⟩ := m2 h9
          rw [if_neg he] at e4
          exact ⟨_, _, E, e, e4, Inv_rd hI0 (fun k j a => by rw [e1]; exact g1 k j a) (by rw [e2]; rfl) (fun k j a b d => by rw [e3 k j b d]; exact g2 k j a)⟩
  · refine Eqi.same hI0 (r := -1) ?_ ?_
    · unfold f_X7_set
      rw [cPlace_eq, ob_e, decide_eq_false hv, if_neg (by decide)]
    · unfold f_X8_set
      rw [mPlace_eq, ob_e, decide_eq_false hv, if_neg (by decide)]
