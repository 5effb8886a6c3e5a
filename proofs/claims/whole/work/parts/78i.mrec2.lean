/-! PURE PART: the reference's record: its items -/
theorem dix {r m : Nat} (h8 : r < 8) (hm : m < 21) : 22 * nI r + nI (m + 1) = nI (22 * r + m + 1) ∧ 0 ≤ nI (22 * r + m + 1) ∧ nI (22 * r + m + 1) < 176 := by
  refine ⟨?_, nI_pos' (by omega), nI_lt (b := 176) (by omega) (by decide)⟩
  rw [show (22 : Int32) = nI 22 from rfl, pk_mul, nI_add, show 22 * r + (m + 1) = 22 * r + m + 1 by omega]
theorem l215_eq {E : JM} (hr : RF (gr E)) (K : Nat → Int32 → Int32 → JM → Option (Unit × JM)) {v1 v4 n f p : Int32} {t : Nat} (ht : t < 176) : f_X8_readRecord_L215 K 32 v1 v4 (nI t) (mdM E n f p) = K 32 v1 (v4 + 1) (mdM (si E 46 (nI t) (n - gi E 45 (nI t))) n f p) := by
  have l : 0 ≤ nI t ∧ nI t < 176 := ⟨nI_pos' (by omega), nI_lt (b := 176) ht (by decide)⟩
  unfold f_X8_readRecord_L215
  rw [Gr_md, hr.r32_23, orf_e, hr.r32_22, orf_e, ln_45, if_pos l, ln_46, if_pos l, md9, md_k (by omega), sq_e, md_si (by omega), sv_e]
theorem l240_eq {E : JM} (hr : RF (gr E)) {r : Nat} (h8 : r < 8) (h20 : gi E 32 20 = nI r) (n f p : Int32) : f_X8_readRecord_L240 32 (mdM E n f p) = some ((), mdM (si (si E 32 20 (nI (r + 1))) 44 (nI (r + 1)) n) n f p) := by
  unfold f_X8_readRecord_L240
  rw [md_k (by decide), h20, nI_p1, sq_e, md_si (by decide), Gr_md, Gr_si, hr.r32_21, orf_e, md_k (by decide), gi_si, if_pos (show 32 = 32 ∧ (20 : Int32) = 20 from ⟨rfl, rfl⟩), ln_44, if_pos (show 0 ≤ nI (r + 1) ∧ nI (r + 1) < 9 from ⟨nI_pos' (by omega), nI_lt (b := 9) (by omega) (by decide)⟩), md9, sq_e, md_si (by omega)]
theorem l168_eq {E : JM} (hr : RF (gr E)) {r m : Nat} (h8 : r < 8) (hm : m < 21) (h20 : gi E 32 20 = nI r) (N : Nat) (v1 n f p : Int32) : f_X8_readRecord_L168 (N + 1) 32 v1 (nI (m + 1)) (mdM E n f p) = if gi E 60 (nI (m + 1)) = 0 then (f_X8_readRecord_L215 (f_X8_readRecord_L168 N) 32 v1 (nI (m + 1)) (nI (22 * r + m + 1)) (mdM (si E 45 (nI (22 * r + m + 1)) n) n f p)) else (ob (f_X8_readItem 32 v1 (nI (m + 1)) (mdM (si E 45 (nI (22 * r + m + 1)) n) n f p)) fun _ M25 => f_X8_readRecord_L215 (f_X8_readRecord_L168 N) 32 v1 (nI (m + 1)) (nI (22 * r + m + 1)) M25) := by
  obtain ⟨d1, d2, d3⟩ := dix h8 hm
  have e60 : gi (mdM (si E 45 (nI (22 * r + m + 1)) n) n f p) 60 (nI (m + 1)) = gi E 60 (nI (m + 1)) := by rw [md_k (by omega), gi_si, if_neg (by omega)]
  rw [f_X8_readRecord_L168, if_neg (show ¬ 21 < nI (m + 1) from Int32.not_lt.mpr (nI_le (b := 21) (by omega) (by decide))), md_k (by decide), h20, d1, sv_e, Gr_md, hr.r32_22, orf_e, ln_45, if_pos ⟨d2, d3⟩, md9, sq_e, md_si (by omega), Gr_md, Gr_si, hr.r32_45, orf_e, ln_60, if_pos (show 0 ≤ nI (m + 1) ∧ nI (m + 1) < 22 from ⟨nI_pos' (by omega), nI_lt (b := 22) (by omega) (by decide)⟩), e60]
theorem lp_mrec_d {M : JM} (hr : RF (gr M)) {i : Nat} (hi : i < 3) (hc : ICat M i) {r : Nat} (h8 : r < 8) {n9 g u : Int32} (hg : g ≠ 0) : ∀ (n m : Nat) (E : JM), m ≤ 21 → 21 - m < n → MR M E → gi E 32 20 = nI r → ∃ E', f_X8_readRecord_L168 n 32 (nI i) (nI (m + 1)) (mdM E n9 g u) = some ((), mdM E' n9 g u) ∧ MR M E' := by
  intro n
  induction n with
  | zero => intro m E _ h; omega
  | succ n ih =>
    intro m E hm hn hE h20
    have hrE : RF (gr E) := by rw [hE.1]; exact hr
    by_cases e : m = 21
    · subst e
      rw [f_X8_readRecord_L168, if_pos (by decide), l240_eq hrE h8 h20]
      exact ⟨_, rfl, (hE.si (Or.inr (Or.inr ⟨rfl, Or.inl rfl⟩))).si (Or.inl (by omega))⟩
    · rw [l168_eq hrE h8 (by omega) h20]
      have hE1 : MR M (si E 45 (nI (22 * r + m + 1)) n9) := hE.si (by omega)
      by_cases c : gi E 60 (nI (m + 1)) = 0
      · rw [if_pos c, l215_eq (by exact hrE) _ (by omega), nI_p1]
        exact ih (m + 1) _ (by omega) (by omega) (hE1.si (by omega)) (by rw [gi_si, if_neg (by omega), gi_si, if_neg (by omega)]; exact h20)
      · obtain ⟨D, e1, hD⟩ := mitem_d (M := si E 45 (nI (22 * r + m + 1)) n9) hrE hi (hE1.cat hc) (p := nI (m + 1)) ⟨nI_pos' (by omega), nI_le (b := 21) (by omega) (by decide)⟩ (n9 := n9) (u := u) hg
        rw [if_neg c, e1, ob_e, l215_eq (by rw [hD.1]; exact hrE) _ (by omega), nI_p1]
        exact ih (m + 1) _ (by omega) (by omega) ((hE1.trans hD.mr).si (by omega)) (by rw [gi_si, if_neg (by omega), hD.2.2 32 20 (by omega) (by decide), gi_si, if_neg (by omega)]; exact h20)
theorem lp_mrec_ok {M : JM} {T : Int32 → Int32} {z : Nat} (h : RdD M T z) (p0 : Int32) {i : Nat} (hi : i < 3) (hc : ICat M i) {r : Nat} (h8 : r < 8) {B : Int32 → Bool} {P : Nat → Nat} (hP : P 0 ≤ z) (hT : Trc M i T z B P 21) (hk : ∀ t, t < 21 → B (nI t) = true → gi M (62 + 4 * i) (nI (t + 1)) ≠ -9) : ∀ (n m : Nat) (E : JM), m ≤ 21 → 21 - m < n → MR M E → gi E 32 20 = nI r → (∀ t, t < 21 → gi E 60 (nI (t + 1)) = bI (B (nI t))) →
    ∃ E', f_X8_readRecord_L168 n 32 (nI i) (nI (m + 1)) (mdM E (nI (P m)) 0 p0) = some ((), mdM E' (nI (P 21)) 0 p0) ∧ MR M E' ∧ gi E' 32 20 = nI (r + 1) ∧ gi E' 44 (nI (r + 1)) = nI (P 21) ∧ (∀ t, t ≤ r → gi E' 44 (nI t) = gi E 44 (nI t)) ∧ (∀ t, m ≤ t → t < 21 → gi E' 45 (nI (22 * r + t + 1)) = nI (P t) ∧ gi E' 46 (nI (22 * r + t + 1)) = nI (P (t + 1) - P t)) ∧ ∀ t, t < 176 → (t < 22 * r + m + 1 ∨ 22 * r + 22 ≤ t) → gi E' 45 (nI t) = gi E 45 (nI t) ∧ gi E' 46 (nI t) = gi E 46 (nI t) := by
  have hPz := hT.le hP
  have hz := h.2.2.1
  intro n
  induction n with
  | zero => intro m E _ h; omega
  | succ n ih =>
    intro m E hm hn hE h20 h60
    have hrE : RF (gr E) := by rw [hE.1]; exact h.1
    by_cases e : m = 21
    · subst e
      rw [f_X8_readRecord_L168, if_pos (by decide), l240_eq hrE h8 h20]
      refine ⟨_, rfl, (hE.si (Or.inr (Or.inr ⟨rfl, Or.inl rfl⟩))).si (Or.inl (by omega)), ?_, ?_, fun t ht => ?_, fun t a b => by omega, fun t a b => ⟨?_, ?_⟩⟩
      · rw [gi_si, if_neg (by omega), gi_si, if_pos ⟨rfl, rfl⟩]
      · rw [gi_si, if_pos ⟨rfl, rfl⟩]
      · rw [gi_si, if_neg (fun x => by have := nI_inj (by omega) (by omega) x.2; omega), gi_si, if_neg (by omega)]
      · rw [gi_si, if_neg (by omega), gi_si, if_neg (by omega)]
      · rw [gi_si, if_neg (by omega), gi_si, if_neg (by omega)]
    · have hE1 : MR M (si E 45 (nI (22 * r + m + 1)) (nI (P m))) := hE.si (by omega)
      have h1 : gi (si E 45 (nI (22 * r + m + 1)) (nI (P m))) 45 (nI (22 * r + m + 1)) = nI (P m) := by rw [gi_si, if_pos ⟨rfl, rfl⟩]
      have hstep := hT.step (t := m) (by omega)
      have cont : ∀ D : JM, MB (si E 45 (nI (22 * r + m + 1)) (nI (P m))) D → f_X8_readRecord_L168 (n + 1) 32 (nI i) (nI (m + 1)) (mdM E (nI (P m)) 0 p0) = f_X8_readRecord_L215 (f_X8_readRecord_L168 n) 32 (nI i) (nI (m + 1)) (nI (22 * r + m + 1)) (mdM D (nI (P (m + 1))) 0 p0) → ∃ E', f_X8_readRecord_L168 (n + 1) 32 (nI i) (nI (m + 1)) (mdM E (nI (P m)) 0 p0) = some ((), mdM E' (nI (P 21)) 0 p0) ∧ MR M E' ∧ gi E' 32 20 = nI (r + 1) ∧ gi E' 44 (nI (r + 1)) = nI (P 21) ∧ (∀ t, t ≤ r → gi E' 44 (nI t) = gi E 44 (nI t)) ∧ (∀ t, m ≤ t → t < 21 → gi E' 45 (nI (22 * r + t + 1)) = nI (P t) ∧ gi E' 46 (nI (22 * r + t + 1)) = nI (P (t + 1) - P t)) ∧ ∀ t, t < 176 → (t < 22 * r + m + 1 ∨ 22 * r + 22 ≤ t) → gi E' 45 (nI t) = gi E 45 (nI t) ∧ gi E' 46 (nI t) = gi E 46 (nI t) := by
        intro D hD he
        have hk1 : ∀ k j, k ≠ 47 → k ≠ 32 → gi D k j = gi (si E 45 (nI (22 * r + m + 1)) (nI (P m))) k j := fun k j a b => hD.2.2 k j a (fun x => b x.1)
        rw [l215_eq (by rw [hD.1]; exact hrE) _ (by omega), hk1 45 _ (by decide) (by decide), h1, pk_sub hstep.1, nI_p1] at he
        obtain ⟨E', f1, f2, f3, f4, f5, f6, f7⟩ := ih (m + 1) (si D 46 (nI (22 * r + m + 1)) (nI (P (m + 1) - P m))) (by omega) (by omega) ((hE1.trans hD.mr).si (by omega)) (by rw [gi_si, if_neg (by omega), hD.2.2 32 20 (by omega) (by decide), gi_si, if_neg (by omega)]; exact h20) (fun t ht => by rw [gi_si, if_neg (by omega), hk1 60 _ (by decide) (by decide), gi_si, if_neg (by omega)]; exact h60 t ht)
        refine ⟨E', he.trans f1, f2, f3, f4, fun t ht => ?_, fun t a b => ?_, fun t a b => ?_⟩
        · rw [f5 t ht, gi_si, if_neg (by omega), hk1 44 _ (by decide) (by decide), gi_si, if_neg (by omega)]
        · by_cases htm : t = m
          · subst htm
            obtain ⟨y1, y2⟩ := f7 (22 * r + t + 1) (by omega) (by omega)
            rw [y1, y2, gi_si, if_neg (by omega), hk1 45 _ (by decide) (by decide), h1, gi_si, if_pos ⟨rfl, rfl⟩]
            exact ⟨rfl, rfl⟩
          · exact f6 t (by omega) b
        · obtain ⟨y1, y2⟩ := f7 t a (by omega)
          have hne : ¬ nI t = nI (22 * r + m + 1) := fun x => by have := nI_inj (by omega) (by omega) x; omega
          rw [y1, y2, gi_si, if_neg (by omega), hk1 45 _ (by decide) (by decide), gi_si, if_neg (fun x => hne x.2), gi_si, if_neg (fun x => hne x.2), hk1 46 _ (by decide) (by decide), gi_si, if_neg (by omega)]
          exact ⟨rfl, rfl⟩
      cases hb : B (nI m) with
      | false =>
        refine cont _ (MB.refl _) ?_
        rw [l168_eq hrE h8 (by omega) h20, h60 m (by omega), hb, if_pos (show bI false = 0 from rfl), (hT m (by omega)).2 hb]
      | true =>
        obtain ⟨g1, g2, g3⟩ := (hT m (by omega)).1 hb
        have hit := mitem_eq (hE1.rdd h) p0 hi (hE1.cat hc) (p := nI (m + 1)) ⟨nI_pos' (by omega), nI_le (b := 21) (by omega) (by decide)⟩ (by rw [hE1.2.2 _ _ (by omega) (by omega) (by omega)]; exact hk m (by omega) hb) (x := P m) (hPz m (by omega))
        rw [hE1.item, g1] at hit
        obtain ⟨D, e1, hD⟩ := hit
        refine cont D hD ?_
        rw [l168_eq hrE h8 (by omega) h20, h60 m (by omega), hb, if_neg (show ¬ bI true = 0 by decide), e1, ob_e]
theorem lp_mrec_bad {M : JM} {T : Int32 → Int32} {z : Nat} (h : RdD M T z) (p0 : Int32) {i : Nat} (hi : i < 3) (hc : ICat M i) {r : Nat} (h8 : r < 8) {B : Int32 → Bool} {P : Nat → Nat} (hP : P 0 ≤ z) {mb : Nat} (hmb : mb < 21) (hT : Trc M i T z B P mb) (hBm : B (nI mb) = true) {f u : Int32} (hF : f ≠ 0) (hbad : cItem M i T (nI z) (nI (mb + 1)) (nI (P mb)) = .inr (f, u)) (hk : ∀ t, t < 21 → B (nI t) = true → gi M (62 + 4 * i) (nI (t + 1)) ≠ -9) : ∀ (n m : Nat) (E : JM), m ≤ mb → 22 - m < n → MR M E → gi E 32 20 = nI r → (∀ t, t < 21 → gi E 60 (nI (t + 1)) = bI (B (nI t))) →
    ∃ E' n', f_X8_readRecord_L168 n 32 (nI i) (nI (m + 1)) (mdM E (nI (P m)) 0 p0) = some ((), mdM E' n' f u) ∧ MR M E' := by
  have hPz := hT.le hP
  have hz := h.2.2.1
  intro n
  induction n with
  | zero => intro m E _ h; omega
  | succ n ih =>
    intro m E hm hn hE h20 h60
    have hrE : RF (gr E) := by rw [hE.1]; exact h.1
    have hE1 : MR M (si E 45 (nI (22 * r + m + 1)) (nI (P m))) := hE.si (by omega)
    have h1 : gi (si E 45 (nI (22 * r + m + 1)) (nI (P m))) 45 (nI (22 * r + m + 1)) = nI (P m) := by rw [gi_si, if_pos ⟨rfl, rfl⟩]
    have kk : ∀ (D : JM) (v : Int32), MB (si E 45 (nI (22 * r + m + 1)) (nI (P m))) D → MR M (si D 46 (nI (22 * r + m + 1)) v) ∧ gi (si D 46 (nI (22 * r + m + 1)) v) 32 20 = nI r ∧ ∀ t, t < 21 → gi (si D 46 (nI (22 * r + m + 1)) v) 60 (nI (t + 1)) = bI (B (nI t)) := fun D v hD =>
      ⟨(hE1.trans hD.mr).si (by omega), by rw [gi_si, if_neg (by omega), hD.2.2 32 20 (by omega) (by decide), gi_si, if_neg (by omega)]; exact h20, fun t ht => by rw [gi_si, if_neg (by omega), hD.2.2 60 _ (by decide) (by omega), gi_si, if_neg (by omega)]; exact h60 t ht⟩
    have hit : B (nI m) = true → mY (si E 45 (nI (22 * r + m + 1)) (nI (P m))) p0 (cItem M i T (nI z) (nI (m + 1)) (nI (P m))) (f_X8_readItem 32 (nI i) (nI (m + 1)) (mdM (si E 45 (nI (22 * r + m + 1)) (nI (P m))) (nI (P m)) 0 p0)) := by
      intro hb
      have hit := mitem_eq (hE1.rdd h) p0 hi (hE1.cat hc) (p := nI (m + 1)) ⟨nI_pos' (by omega), nI_le (b := 21) (by omega) (by decide)⟩ (by rw [hE1.2.2 _ _ (by omega) (by omega) (by omega)]; exact hk m (by omega) hb) (x := P m) (hPz m (by omega))
      rw [hE1.item] at hit
      exact hit
    by_cases hmm : m = mb
    · subst hmm
      have hit := hit hBm
      rw [hbad] at hit
      obtain ⟨-, D, n', e1, hD⟩ := hit
      rw [l168_eq hrE h8 (by omega) h20, h60 m (by omega), hBm, if_neg (show ¬ bI true = 0 by decide), e1, ob_e, l215_eq (by rw [hD.1]; exact hrE) _ (by omega), nI_p1]
      obtain ⟨k1, k2, -⟩ := kk D (n' - gi D 45 (nI (22 * r + m + 1))) hD
      obtain ⟨E', e2, hE2⟩ := lp_mrec_d h.1 hi hc h8 (n9 := n') (u := u) hF n (m + 1) _ (by omega) (by omega) k1 k2
      exact ⟨E', n', e2, hE2⟩
    · have hstep := hT.step (t := m) (by omega)
      cases hb : B (nI m) with
      | false =>
        rw [l168_eq hrE h8 (by omega) h20, h60 m (by omega), hb, if_pos (show bI false = 0 from rfl), l215_eq (by exact hrE) _ (by omega), nI_p1, h1, ← (hT m (by omega)).2 hb]
        obtain ⟨k1, k2, k3⟩ := kk _ (nI (P (m + 1)) - nI (P m)) (MB.refl _)
        rw [(hT m (by omega)).2 hb] at k1 k2 k3 ⊢
        have := ih (m + 1) _ (by omega) (by omega) k1 k2 k3
        rw [(hT m (by omega)).2 hb] at this
        exact this
      | true =>
        obtain ⟨g1, g2, g3⟩ := (hT m (by omega)).1 hb
        have hit := hit hb
        rw [g1] at hit
        obtain ⟨D, e1, hD⟩ := hit
        rw [l168_eq hrE h8 (by omega) h20, h60 m (by omega), hb, if_neg (show ¬ bI true = 0 by decide), e1, ob_e, l215_eq (by rw [hD.1]; exact hrE) _ (by omega), nI_p1]
        obtain ⟨k1, k2, k3⟩ := kk D (nI (P (m + 1)) - gi D 45 (nI (22 * r + m + 1))) hD
        exact ih (m + 1) _ (by omega) (by omega) k1 k2 k3
