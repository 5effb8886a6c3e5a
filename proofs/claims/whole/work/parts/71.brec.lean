/-! PURE PART: a record, and how the class reads it -/
abbrev kMis (M : JM) (i : Nat) : Int32 → Bool := fun t => decide (gi M (62 + 4 * i) (t + 1) = -9)
/-- where the items of a record stand: item t, if its bit is set, from P t on -/
def Trc (M : JM) (i : Nat) (T : Int32 → Int32) (z : Nat) (B : Int32 → Bool) (P : Nat → Nat) (m0 : Nat) : Prop := ∀ t, t < m0 → (B (nI t) = true → cItem M i T (nI z) (nI (t + 1)) (nI (P t)) = .inl (nI (P (t + 1))) ∧ P t < P (t + 1) ∧ P (t + 1) ≤ z) ∧ (B (nI t) = false → P (t + 1) = P t)
def RcHd (M : JM) (i : Nat) (T : Int32 → Int32) (z x nb : Nat) : Prop := 1 ≤ nb ∧ nb ≤ 3 ∧ x + nb ≤ z ∧ sBits T (nI z) 3 (nI x) = .inl (nI (x + nb)) ∧ sMiss (bs T (nI x) (nI nb)) (kMis M i) (nI x) 21 0 = none
def RcOk (M : JM) (i : Nat) (T : Int32 → Int32) (z x nb : Nat) (P : Nat → Nat) : Prop := RcHd M i T z x nb ∧ P 0 = x + nb ∧ Trc M i T z (bs T (nI x) (nI nb)) P 21
def RcBad (M : JM) (i : Nat) (T : Int32 → Int32) (z x : Nat) (f u : Int32) : Prop := f ≠ 0 ∧ (sBits T (nI z) 3 (nI x) = .inr (f, u) ∨
  (∃ nb : Nat, 1 ≤ nb ∧ nb ≤ 3 ∧ x + nb ≤ z ∧ sBits T (nI z) 3 (nI x) = .inl (nI (x + nb)) ∧ sMiss (bs T (nI x) (nI nb)) (kMis M i) (nI x) 21 0 = some u ∧ f = 5) ∨
  (∃ (nb : Nat) (P : Nat → Nat) (m : Nat), RcHd M i T z x nb ∧ P 0 = x + nb ∧ m < 21 ∧ Trc M i T z (bs T (nI x) (nI nb)) P m ∧ bs T (nI x) (nI nb) (nI m) = true ∧ cItem M i T (nI z) (nI (m + 1)) (nI (P m)) = .inr (f, u)))
theorem Trc.step {M : JM} {i : Nat} {T : Int32 → Int32} {z : Nat} {B : Int32 → Bool} {P : Nat → Nat} {m0 : Nat} (h : Trc M i T z B P m0) {t : Nat} (ht : t < m0) : P t ≤ P (t + 1) ∧ (P t ≤ z → P (t + 1) ≤ z) := by
  obtain ⟨h1, h2⟩ := h t ht
  cases hb : B (nI t) with
  | true => have := h1 hb; omega
  | false => have := h2 hb; omega
theorem Trc.le {M : JM} {i : Nat} {T : Int32 → Int32} {z : Nat} {B : Int32 → Bool} {P : Nat → Nat} {m0 : Nat} (h : Trc M i T z B P m0) (h0 : P 0 ≤ z) : ∀ t, t ≤ m0 → P t ≤ z := by
  intro t
  induction t with
  | zero => intro _; exact h0
  | succ t ih => intro ht; exact (h.step (t := t) (by omega)).2 (ih (by omega))
theorem Trc.flat {M : JM} {i : Nat} {T : Int32 → Int32} {z : Nat} {B : Int32 → Bool} {P : Nat → Nat} {m0 m : Nat} (h : Trc M i T z B P m0) (hf : ∀ t, m ≤ t → t < m0 → B (nI t) = false) : ∀ d, m + d ≤ m0 → P (m + d) = P m := by
  intro d
  induction d with
  | zero => intro _; rfl
  | succ d ih =>
    intro hd
    have := (h (m + d) (by omega)).2 (hf (m + d) (by omega) (by omega))
    rw [show m + (d + 1) = m + d + 1 by omega, this, ih (by omega)]
theorem rd_si {M : JM} {n f p : Int32} {k : Nat} {j v : Int32} (h : k ≠ 4) : si (rdM M n f p) k j v = rdM (si M k j v) n f p := by
  refine JM_ext (fun k' j' => ?_) rfl rfl
  rw [gi_si, gi_rd, gi_rd, gi_si]
  by_cases hk : k' = 4
  · subst hk
    have h' : ¬ 4 = k := fun q => h q.symm
    simp only [h', false_and, if_false, true_and]
  · simp only [hk, false_and, if_false]
/-- only the spare block has changed -/
def CFq (q : Nat) (M C : JM) : Prop := gr C = gr M ∧ gn C = gn M ∧ ∀ k j, ¬ (q ≤ k ∧ k ≤ q + 4) → gi C k j = gi M k j
theorem CFq.refl (q : Nat) (M : JM) : CFq q M M := ⟨rfl, rfl, fun _ _ _ => rfl⟩
theorem CFq.trans {q : Nat} {M C D : JM} (h : CFq q M C) (h2 : CFq q C D) : CFq q M D := ⟨h2.1.trans h.1, h2.2.1.trans h.2.1, fun k j hk => (h2.2.2 k j hk).trans (h.2.2 k j hk)⟩
theorem CFq.si {q : Nat} {M C : JM} (h : CFq q M C) {k : Nat} {j v : Int32} (hk : q ≤ k ∧ k ≤ q + 4) : CFq q M (si C k j v) := ⟨h.1, h.2.1, fun k' j' hk' => by rw [gi_si, if_neg (fun x => hk' (by rw [x.1]; exact hk))]; exact h.2.2 k' j' hk'⟩
theorem CFq.rdc {q : Nat} {M C : JM} (h : CFq q M C) (hq : q = 5 ∨ q = 10) {T : Int32 → Int32} {z : Nat} (hR : RdC M T z) : RdC C T z := by
  obtain ⟨a, b, c, d⟩ := hR
  exact ⟨by rw [h.1]; exact a, by rw [h.2.2 4 3 (by omega)]; exact b, c, fun j hj => by rw [h.2.2 3 _ (by omega)]; exact d j hj⟩
theorem CFq.cat {q : Nat} {M C : JM} (h : CFq q M C) (hq : q = 5 ∨ q = 10) {i : Nat} (hc : ICat M i) : ICat C i := hc.congr h.1 (fun k j hd => h.2.2 k j (by unfold depCat at hd; omega))
theorem CFq.item {q : Nat} {M C : JM} (h : CFq q M C) (hq : q = 5 ∨ q = 10) (i : Nat) (T : Int32 → Int32) (e p a : Int32) : cItem C i T e p a = cItem M i T e p a := cItem.congr (fun j => h.2.2 _ j (by omega)) (fun j => h.2.2 _ j (by omega)) (fun j => h.2.2 _ j (by omega)) T e p a
theorem slot_n (r m : Nat) : nI r * 21 + nI (m + 1) - 1 = nI (21 * r + m) := by
  rw [show (21 : Int32) = nI 21 from rfl, pk_mul, nI_add, show r * 21 + (m + 1) = 21 * r + m + 1 by omega, nI_pred]
theorem putIt_eq {C : JM} (hr : RF (gr C)) {q : Nat} (hq : q = 5 ∨ q = 10) {r m : Nat} (h8 : r < 8) (hm : m < 21) (b s n f p : Int32) : f_X0_putItem q (nI r) (nI (m + 1)) b s (rdM C n f p) = some ((), rdM (si (si C (q + 3) (nI (21 * r + m)) b) (q + 4) (nI (21 * r + m)) s) n f p) := by
  have l : 0 ≤ nI (21 * r + m) ∧ nI (21 * r + m) < 168 := ⟨nI_pos' (by omega), nI_lt (b := 168) (by omega) (by decide)⟩
  unfold f_X0_putItem f_X0_slot
  rw [Gr_rd, (hr.rq hq).2.2.1, orf_e, ob_e, slot_n, (ln_q hq).2.2.1, if_pos l, sq_e, rd_si (by omega), Gr_rd, Gr_si, (hr.rq hq).2.2.2, orf_e, ob_e, (ln_q hq).2.2.2, if_pos l, sq_e, rd_si (by omega)]
theorem rec_f {M : JM} {T : Int32 → Int32} {z : Nat} (h : RdC M T z) (p0 : Int32) {q : Nat} (hq : q = 5 ∨ q = 10) {x nb : Nat} (hx : x + nb ≤ z) {r : Nat} {C : JM} (hC : CFq q M C) (n m : Nat) (y : Int32) (hm : m < 7 * nb) (hb : bs T (nI x) (nI nb) (nI m) = false) (hnb : nb ≤ 3) : f_X3_passRecord_L27 (n + 1) 4 q (nI x) (nI (7 * nb)) (nI r) (nI m) (rdM C y 0 p0) = f_X3_passRecord_L27 n 4 q (nI x) (nI (7 * nb)) (nI r) (nI (m + 1)) (rdM C y 0 p0) := by
  have hC' := hC.rdc hq h
  rw [bs_in hm (by omega)] at hb
  rw [f_X3_passRecord_L27, if_pos (nI_lt hm (by omega)), rd4, if_pos rfl, Gr_rd, hC'.1.r4_0, orf_e, one_eq hC' _ _ _ (by omega) (by omega), ob_e, if_neg (by rw [hb]; decide)]
  unfold f_X3_passRecord_L86
  rw [sv_e, nI_p1]
theorem rec_t {M : JM} {T : Int32 → Int32} {z : Nat} (h : RdC M T z) (p0 : Int32) {q : Nat} (hq : q = 5 ∨ q = 10) {x nb : Nat} (hx : x + nb ≤ z) {r : Nat} {C : JM} (hC : CFq q M C) (n m : Nat) (y : Int32) (hm : m < 7 * nb) (hb : bs T (nI x) (nI nb) (nI m) = true) (hnb : nb ≤ 3) : f_X3_passRecord_L27 (n + 1) 4 q (nI x) (nI (7 * nb)) (nI r) (nI m) (rdM C y 0 p0) = (ob (f_X3_passItem 4 (nI (m + 1)) (rdM C y 0 p0)) fun _ M19 => ob (f_X0_putItem q (nI r) (nI (m + 1)) y ((gi M19 4 2) - y) M19) fun _ M21 => f_X3_passRecord_L27 n 4 q (nI x) (nI (7 * nb)) (nI r) (nI (m + 1)) M21) := by
  have hC' := hC.rdc hq h
  rw [bs_in hm (by omega)] at hb
  rw [f_X3_passRecord_L27, if_pos (nI_lt hm (by omega)), rd4, if_pos rfl, Gr_rd, hC'.1.r4_0, orf_e, one_eq hC' _ _ _ (by omega) (by omega), ob_e, if_pos hb, rd2, sv_e, nI_p1]
  unfold f_X3_passRecord_L86
  congr 1
  funext _ N
  congr 1
  funext _ N'
  rw [sv_e, nI_p1]
theorem lp_crec {M : JM} {T : Int32 → Int32} {z : Nat} (h : RdC M T z) (p0 : Int32) {i : Nat} (hi : i < 3) (hc : ICat M i) (h41 : gr M 4 1 = some (61 + 4 * i)) {q : Nat} (hq : q = 5 ∨ q = 10) {x nb : Nat} (hnb : nb ≤ 3) (hx : x + nb ≤ z) {r : Nat} (h8 : r < 8) {P : Nat → Nat} (hP : P 0 ≤ z) (hT : Trc M i T z (bs T (nI x) (nI nb)) P 21) (hk : ∀ t, t < 21 → bs T (nI x) (nI nb) (nI t) = true → gi M (62 + 4 * i) (nI (t + 1)) ≠ -9) : ∀ (n m : Nat) (C : JM), m ≤ 21 → 21 - m < n → CFq q M C → (∀ t, m ≤ t → t < 21 → gi C (q + 4) (nI (21 * r + t)) = 0) →
    ∃ C', f_X3_passRecord_L27 n 4 q (nI x) (nI (7 * nb)) (nI r) (nI m) (rdM C (nI (P m)) 0 p0) = some ((), rdM C' (nI (P 21)) 0 p0) ∧ gr C' = gr C ∧ gn C' = gn C ∧ (∀ k j, ¬ ((k = q + 3 ∨ k = q + 4) ∧ nI (21 * r + m) ≤ j ∧ j < nI (21 * r + 21)) → gi C' k j = gi C k j) ∧
    ∀ t, m ≤ t → t < 21 → gi C' (q + 4) (nI (21 * r + t)) = nI (P (t + 1) - P t) ∧ (bs T (nI x) (nI nb) (nI t) = true → gi C' (q + 3) (nI (21 * r + t)) = nI (P t)) := by
  have hPz := hT.le hP
  intro n
  induction n with
  | zero => intro m C _ h; omega
  | succ n ih =>
    intro m C hm hn hC h0
    by_cases hlt : m < 7 * nb
    · have hC' := hC.rdc hq h
      have z300 := h.2.2.1
      cases hb : bs T (nI x) (nI nb) (nI m) with
      | false =>
        rw [rec_f h p0 hq hx hC n m _ hlt hb hnb]
        obtain ⟨C', e, f1, f2, f3, f4⟩ := ih (m + 1) C (by omega) (by omega) hC (fun t a b => h0 t (by omega) b)
        have hs := (hT m (by omega)).2 hb
        rw [hs] at e
        refine ⟨C', e, f1, f2, fun k j hk => f3 k j (fun x => hk ⟨x.1, ?_, x.2.2⟩), fun t a b => ?_⟩
        · have := x.2.1
          exact Int32.le_trans (nI_le (by omega) (by omega)) this
        · by_cases htm : t = m
          · subst htm
            rw [f3 _ _ (fun x => absurd (nI_lt (a := 21 * r + t) (b := 21 * r + (t + 1)) (by omega) (by omega)) (Int32.not_lt.mpr x.2.1)), h0 t a b, hs, Nat.sub_self]
            exact ⟨rfl, fun x => by rw [hb] at x; cases x⟩
          · exact f4 t (by omega) b
      | true =>
        rw [rec_t h p0 hq hx hC n m _ hlt hb hnb]
        obtain ⟨g1, g2, g3⟩ := (hT m (by omega)).1 hb
        have hit := item_eq hC' p0 hi (hC.cat hq hc) (by rw [hC.1]; exact h41) (p := nI (m + 1)) ⟨nI_pos' (by omega), nI_le (b := 21) (by omega) (by decide)⟩ (by rw [hC.2.2 _ _ (by omega)]; exact hk m (by omega) hb) (x := P m) (hPz m (by omega))
        rw [hC.item hq, g1] at hit
        have hit : f_X3_passItem 4 (nI (m + 1)) (rdM C (nI (P m)) 0 p0) = some ((), rdM C (nI (P (m + 1))) 0 p0) := hit
        rw [hit, ob_e, rd2, pk_sub (by omega), putIt_eq hC'.1 hq h8 (by omega), ob_e]
        obtain ⟨C', e, f1, f2, f3, f4⟩ := ih (m + 1) (si (si C (q + 3) (nI (21 * r + m)) (nI (P m))) (q + 4) (nI (21 * r + m)) (nI (P (m + 1) - P m))) (by omega) (by omega) ((hC.si (by omega)).si (by omega)) (fun t a b => by
          rw [gi_si, if_neg (fun x => by have := nI_inj (by omega) (by omega) x.2; omega), gi_si, if_neg (by omega)]
          exact h0 t (by omega) b)
        refine ⟨C', e, f1, f2, fun k j hk => ?_, fun t a b => ?_⟩
        · rw [f3 k j (fun x => hk ⟨x.1, Int32.le_trans (nI_le (by omega) (by omega)) x.2.1, x.2.2⟩)]
          have hm2 : ∀ k', (k' = q + 3 ∨ k' = q + 4) → ¬ (k = k' ∧ j = nI (21 * r + m)) := fun k' e x => hk ⟨by rw [x.1]; exact e, by rw [x.2]; exact Int32.le_refl _, by rw [x.2]; exact nI_lt (by omega) (by omega)⟩
          rw [gi_si, if_neg (hm2 _ (Or.inr rfl)), gi_si, if_neg (hm2 _ (Or.inl rfl))]
        · by_cases htm : t = m
          · subst htm
            have hne : ∀ k, ¬ ((k = q + 3 ∨ k = q + 4) ∧ nI (21 * r + (t + 1)) ≤ nI (21 * r + t) ∧ nI (21 * r + t) < nI (21 * r + 21)) := fun k x => absurd (nI_lt (a := 21 * r + t) (b := 21 * r + (t + 1)) (by omega) (by omega)) (Int32.not_lt.mpr x.2.1)
            rw [f3 _ _ (hne _), f3 _ _ (hne _), gi_si, if_pos ⟨rfl, rfl⟩, gi_si, if_neg (by omega), gi_si, if_pos ⟨rfl, rfl⟩]
            exact ⟨rfl, fun _ => rfl⟩
          · exact f4 t (by omega) b
    · have hfl := hT.flat (m := m) (fun t a b => bs_out (by omega) (by omega)) 
      refine ⟨C, ?_, rfl, rfl, fun _ _ _ => rfl, fun t a b => ?_⟩
      · rw [f_X3_passRecord_L27, if_neg (Int32.not_lt.mpr (nI_le (by omega) (by omega))), show P 21 = P m by rw [show 21 = m + (21 - m) by omega]; exact hfl (21 - m) (by omega)]
      · have e1 := hfl (t - m) (by omega)
        have e2 := hfl (t - m + 1) (by omega)
        rw [show m + (t - m) = t by omega] at e1
        rw [show m + (t - m + 1) = t + 1 by omega] at e2
        rw [h0 t a b, e1, e2, Nat.sub_self]
        exact ⟨rfl, fun y => by rw [bs_out (by omega) (by omega)] at y; cases y⟩
theorem lp_crecb {M : JM} {T : Int32 → Int32} {z : Nat} (h : RdC M T z) (p0 : Int32) {i : Nat} (hi : i < 3) (hc : ICat M i) (h41 : gr M 4 1 = some (61 + 4 * i)) {q : Nat} (hq : q = 5 ∨ q = 10) {x nb : Nat} (hnb : nb ≤ 3) (hx : x + nb ≤ z) {r : Nat} (h8 : r < 8) {P : Nat → Nat} (hP : P 0 ≤ z) {mb : Nat} (hmb : mb < 21) (hT : Trc M i T z (bs T (nI x) (nI nb)) P mb) (hB : bs T (nI x) (nI nb) (nI mb) = true) {f u : Int32} (hF : f ≠ 0) (hbad : cItem M i T (nI z) (nI (mb + 1)) (nI (P mb)) = .inr (f, u)) (hk : ∀ t, t < 21 → bs T (nI x) (nI nb) (nI t) = true → gi M (62 + 4 * i) (nI (t + 1)) ≠ -9) : ∀ (n m : Nat) (C : JM), m ≤ mb → 22 - m < n → CFq q M C →
    ∃ C' n', f_X3_passRecord_L27 n 4 q (nI x) (nI (7 * nb)) (nI r) (nI m) (rdM C (nI (P m)) 0 p0) = some ((), rdM C' n' f u) ∧ CFq q M C' := by
  have hPz := hT.le hP
  intro n
  induction n with
  | zero => intro m C _ h; omega
  | succ n ih =>
    intro m C hm hn hC
    have hC' := hC.rdc hq h
    have z300 := h.2.2.1
    have hmb7 : mb < 7 * nb := by
      rcases Nat.lt_or_ge mb (7 * nb) with a | a
      · exact a
      · rw [bs_out a (by omega)] at hB; cases hB
    have hit : bs T (nI x) (nI nb) (nI m) = true → cOut C p0 (cItem M i T (nI z) (nI (m + 1)) (nI (P m))) (f_X3_passItem 4 (nI (m + 1)) (rdM C (nI (P m)) 0 p0)) := by
      intro hb
      have := item_eq hC' p0 hi (hC.cat hq hc) (by rw [hC.1]; exact h41) (p := nI (m + 1)) ⟨nI_pos' (by omega), nI_le (b := 21) (by omega) (by decide)⟩ (by rw [hC.2.2 _ _ (by omega)]; exact hk m (by omega) hb) (x := P m) (hPz m (by omega))
      rw [hC.item hq] at this
      exact this
    by_cases hmm : m = mb
    · subst hmm
      have hit := hit hB
      rw [hbad] at hit
      obtain ⟨-, n', e⟩ := hit
      rw [rec_t h p0 hq hx hC n m _ hmb7 hB hnb, e, ob_e, putIt_eq hC'.1 hq h8 (by omega), ob_e]
      cases n with
      | zero => omega
      | succ n =>
        refine ⟨_, n', ?_, (hC.si (k := q + 3) (j := nI (21 * r + m)) (v := nI (P m)) (by omega)).si (k := q + 4) (j := nI (21 * r + m)) (v := gi (rdM C n' f u) 4 2 - nI (P m)) (by omega)⟩
        rw [f_X3_passRecord_L27, rd4]
        by_cases c : nI (m + 1) < nI (7 * nb)
        · rw [if_pos c, if_neg hF]
        · rw [if_neg c]
    · cases hb : bs T (nI x) (nI nb) (nI m) with
      | false =>
        rw [rec_f h p0 hq hx hC n m _ (by omega) hb hnb]
        have hs := (hT m (by omega)).2 hb
        have := ih (m + 1) C (by omega) (by omega) hC
        rw [hs] at this
        exact this
      | true =>
        obtain ⟨g1, g2, g3⟩ := (hT m (by omega)).1 hb
        have hit := hit hb
        rw [g1] at hit
        have hit : f_X3_passItem 4 (nI (m + 1)) (rdM C (nI (P m)) 0 p0) = some ((), rdM C (nI (P (m + 1))) 0 p0) := hit
        rw [rec_t h p0 hq hx hC n m _ (by omega) hb hnb, hit, ob_e, rd2, pk_sub (by omega), putIt_eq hC'.1 hq h8 (by omega), ob_e]
        exact ih (m + 1) _ (by omega) (by omega) ((hC.si (by omega)).si (by omega))
