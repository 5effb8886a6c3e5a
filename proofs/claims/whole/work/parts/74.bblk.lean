/-! PURE PART: the records of a block, as the class reads them -/
def BlC (T : Int32 → Int32) (M C : JM) (q r : Nat) (S N : Nat → Nat) (PP : Nat → Nat → Nat) : Prop := CFq q M C ∧ gi C q 1 = nI r ∧ gi C q 0 = gi M q 0 ∧ (∀ r', r' < r → gi C (q + 2) (nI r') = nI (S r') ∧ ∀ t, t < 21 → gi C (q + 4) (nI (21 * r' + t)) = nI (PP r' (t + 1) - PP r' t) ∧ (bs T (nI (S r')) (nI (N r')) (nI t) = true → gi C (q + 3) (nI (21 * r' + t)) = nI (PP r' t))) ∧ ∀ r', r ≤ r' → r' < 8 → ∀ t, t < 21 → gi C (q + 4) (nI (21 * r' + t)) = 0
theorem more_t {C : JM} {T : Int32 → Int32} {z : Nat} (h : RdC C T z) {y : Nat} (hy : y < z) (p : Int32) : f_X3_hasMore 4 (rdM C (nI y) 0 p) = some (true, rdM C (nI y) 0 p) := by
  have := h.2.2.1
  unfold f_X3_hasMore
  rw [rd4, if_pos rfl, rd2, rd3, h.2.1, if_pos (nI_lt hy (by omega))]
theorem more_f {C : JM} {n f p : Int32} (hf : f ≠ 0) : f_X3_hasMore 4 (rdM C n f p) = some (false, rdM C n f p) := by
  unfold f_X3_hasMore
  rw [rd4, if_neg hf]
theorem more_e {C : JM} {T : Int32 → Int32} {z : Nat} (h : RdC C T z) (p : Int32) : f_X3_hasMore 4 (rdM C (nI z) 0 p) = some (false, rdM C (nI z) 0 p) := by
  unfold f_X3_hasMore
  rw [rd4, if_pos rfl, rd2, rd3, h.2.1, if_neg Int32.lt_irrefl]
theorem lp_cgo {M : JM} {T : Int32 → Int32} {z : Nat} (h : RdC M T z) (p0 : Int32) {i : Nat} (hi : i < 3) (hc : ICat M i) (h41 : gr M 4 1 = some (61 + 4 * i)) {q : Nat} (hq : q = 5 ∨ q = 10) (h05 : gr M 0 5 = some q) {c : Nat} (hc8 : c ≤ 8) {S N : Nat → Nat} {PP : Nat → Nat → Nat} (hB : BkT M i T z c S N PP) : ∀ (n r : Nat) (C : JM), r ≤ c → c - r < n → BlC T M C q r S N PP → ∃ C', BlC T M C' q c S N PP ∧ f_X7_passBlock_L134 n 0 (nI r) (rdM C (nI (S r)) 0 p0) = f_X7_passBlock_L134 (n - (c - r)) 0 (nI c) (rdM C' (nI (S c)) 0 p0) := by
  intro n
  induction n with
  | zero => intro r C _ h; omega
  | succ n ih =>
    intro r C hr hn hC
    by_cases hrc : r = c
    · subst hrc
      exact ⟨C, hC, by rw [Nat.sub_self]; rfl⟩
    · obtain ⟨b1, b2, b3⟩ := hB.2 r (by omega)
      obtain ⟨c1, c2, c3, c4, c5⟩ := hC
      obtain ⟨C1, e, d1, d2, d3, d4, d5, d6⟩ := crec_ok h p0 hi hc h41 hq b2 (r := r) (by omega) c1 c2 (fun t ht => c5 r (by omega) (by omega) t ht)
      have hC1 : BlC T M C1 q (r + 1) S N PP := by
        refine ⟨d1, d2, by rw [d3]; exact c3, fun r' hr' => ?_, fun r' a b t ht => ?_⟩
        · by_cases e : r' = r
          · subst e
            exact ⟨d4, d6⟩
          · obtain ⟨x1, x2⟩ := d5 r' (by omega) e
            obtain ⟨y1, y2⟩ := c4 r' (by omega)
            refine ⟨by rw [x1]; exact y1, fun t ht => ?_⟩
            rw [(x2 t ht).1, (x2 t ht).2]
            exact y2 t ht
        · rw [((d5 r' b (by omega)).2 t ht).2]
          exact c5 r' (by omega) b t ht
      obtain ⟨C', f1, f2⟩ := ih (r + 1) C1 (by omega) (by omega) hC1
      refine ⟨C', f1, ?_⟩
      have hC' := c1.rdc hq h
      rw [f_X7_passBlock_L134, if_pos (show nI r < 8 from nI_lt (b := 8) (by omega) (by decide)), Gr_rd, c1.1, h.1.r0_3, orf_e, more_t hC' b1, ob_e, if_pos rfl, Gr_rd, c1.1, h.1.r0_3, orf_e, h05, orf_e, e, ob_e, sv_e, nI_p1, ← b3, f2, show n + 1 - (c - r) = n - (c - (r + 1)) by omega]
/-- the ninth record: of it only the first byte is looked at -/
def nin (M : JM) (i : Nat) (T : Int32 → Int32) (y : Nat) : Int32 × Int32 := if T (nI y) = 0 then (4, nI y) else match sMiss (bs T (nI y) (nI 1)) (kMis M i) (nI y) 21 0 with
  | some u => (5, u)
  | none => (8, nI y)
theorem nin_f (M : JM) (i : Nat) (T : Int32 → Int32) (y : Nat) : (nin M i T y).1 ≠ 0 := by
  unfold nin
  split
  · show (4 : Int32) ≠ 0; decide
  · split
    · show (5 : Int32) ≠ 0; decide
    · show (8 : Int32) ≠ 0; decide
theorem refuse_eq {M : JM} {T : Int32 → Int32} {z : Nat} (h : RdC M T z) (p0 : Int32) {i : Nat} (hi : i < 3) (hc : ICat M i) (h41 : gr M 4 1 = some (61 + 4 * i)) {y : Nat} (hy : y < z) : f_X3_refuseRecord 4 (rdM M (nI y) 0 p0) = some ((), rdM M (nI y) (nin M i T y).1 (nin M i T y).2) := by
  have hz := h.2.2.1
  obtain ⟨l0, l1, l2⟩ := lp_look h p0 hi hc h41 (x := y) (nb := 1) (by decide) (by omega) (nI y) FU 0 (by omega) (by show _ < 4096; omega)
  unfold f_X3_refuseRecord f_X3_refuseRecord_L23
  rw [Gr_rd, h.1.r4_0, orf_e, rd2, ln_3, if_pos (show 0 ≤ nI y ∧ nI y < 300 from ⟨nI_pos' (by omega), nI_lt (b := 300) (by omega) (by decide)⟩), rd_k (by decide), h.2.2.2 y hy, sv_e]
  unfold nin
  by_cases c : T (nI y) = 0
  · rw [if_pos c, if_pos c, fail_y, ob_e, rd2]
    unfold f_X3_lookForPlaces
    rw [sv_e]
    show ob (f_X3_lookForPlaces_L2 FU 4 (nI y) (nI (7 * 1)) (nI 0) _) _ = _
    rw [l0 4 _ (by decide), ob_e, fail_n (by decide), ob_e]
  · rw [if_neg c, if_neg c]
    unfold f_X3_lookForPlaces
    rw [sv_e]
    rw [Nat.sub_zero] at l1 l2
    have l1 : sMiss (bs T (nI y) (nI 1)) (kMis M i) (nI y) 21 0 = none → f_X3_lookForPlaces_L2 FU 4 (nI y) 7 0 (rdM M (nI y) 0 p0) = some ((), rdM M (nI y) 0 p0) := l1
    have l2 : ∀ u, sMiss (bs T (nI y) (nI 1)) (kMis M i) (nI y) 21 0 = some u → f_X3_lookForPlaces_L2 FU 4 (nI y) 7 0 (rdM M (nI y) 0 p0) = some ((), rdM M (nI y) 5 u) := l2
    generalize sMiss (bs T (nI y) (nI 1)) (kMis M i) (nI y) 21 0 = Q at l1 l2
    cases Q with
    | none => rw [l1 rfl, ob_e, rd2, fail_y, ob_e]
    | some u => rw [l2 u rfl, ob_e, fail_n (by decide), ob_e]
def BkBad (M : JM) (i : Nat) (T : Int32 → Int32) (z : Nat) (f u : Int32) : Prop := (∃ c S N PP, c < 8 ∧ BkT M i T z c S N PP ∧ S c < z ∧ RcBad M i T z (S c) f u) ∨ (∃ S N PP, BkT M i T z 8 S N PP ∧ S 8 < z ∧ f = (nin M i T (S 8)).1 ∧ u = (nin M i T (S 8)).2)
theorem cblk_ok {M : JM} {T : Int32 → Int32} {z : Nat} (h : RdC M T z) (p0 : Int32) {i : Nat} (hi : i < 3) (hc : ICat M i) (h41 : gr M 4 1 = some (61 + 4 * i)) {q : Nat} (hq : q = 5 ∨ q = 10) (h05 : gr M 0 5 = some q) (h1 : gi M q 1 = 0) (h0 : ∀ r', r' < 8 → ∀ t, t < 21 → gi M (q + 4) (nI (21 * r' + t)) = 0) {c : Nat} (hc8 : c ≤ 8) {S N : Nat → Nat} {PP : Nat → Nat → Nat} (hB : BkT M i T z c S N PP) (hS : S c = z) : ∃ C', f_X7_passBlock_L134 FU 0 0 (rdM M 3 0 p0) = some ((), rdM C' (nI z) 0 p0) ∧ BlC T M C' q c S N PP := by
  have hM : BlC T M M q 0 S N PP := ⟨CFq.refl q M, h1, rfl, fun r' hr => by omega, fun r' _ a => h0 r' a⟩
  obtain ⟨C', f1, f2⟩ := lp_cgo h p0 hi hc h41 hq h05 hc8 hB FU 0 M (by omega) (by show _ < 4096; omega) hM
  rw [hB.1] at f2
  refine ⟨C', ?_, f1⟩
  show f_X7_passBlock_L134 FU 0 (nI 0) (rdM M (nI 3) 0 p0) = _
  have hC' := f1.1.rdc hq h
  have hend : f_X7_passBlock_L168 0 (rdM C' (nI z) 0 p0) = some ((), rdM C' (nI z) 0 p0) := by
    unfold f_X7_passBlock_L168
    rw [Gr_rd, f1.1.1, h.1.r0_3, orf_e, more_e hC', ob_e, if_neg (by decide)]
  rw [f2, hS, show FU - (c - 0) = 4095 - c + 1 by show 4096 - (c - 0) = _; omega, f_X7_passBlock_L134]
  by_cases c8 : nI c < 8
  · rw [if_pos c8, Gr_rd, f1.1.1, h.1.r0_3, orf_e, more_e hC', ob_e, if_neg (by decide), hend]
  · rw [if_neg c8, hend]
theorem cblk_bad {M : JM} {T : Int32 → Int32} {z : Nat} (h : RdC M T z) (p0 : Int32) {i : Nat} (hi : i < 3) (hc : ICat M i) (h41 : gr M 4 1 = some (61 + 4 * i)) {q : Nat} (hq : q = 5 ∨ q = 10) (h05 : gr M 0 5 = some q) (h1 : gi M q 1 = 0) (h0 : ∀ r', r' < 8 → ∀ t, t < 21 → gi M (q + 4) (nI (21 * r' + t)) = 0) {f u : Int32} (hB : BkBad M i T z f u) : f ≠ 0 ∧ ∃ C' n', f_X7_passBlock_L134 FU 0 0 (rdM M 3 0 p0) = some ((), rdM C' n' f u) ∧ CFq q M C' := by
  rcases hB with ⟨c, S, N, PP, hc8, hB, hS, hR⟩ | ⟨S, N, PP, hB, hS, rfl, rfl⟩
  · have hM : BlC T M M q 0 S N PP := ⟨CFq.refl q M, h1, rfl, fun r' hr => by omega, fun r' _ a => h0 r' a⟩
    obtain ⟨C', f1, f2⟩ := lp_cgo h p0 hi hc h41 hq h05 (by omega) hB FU 0 M (by omega) (by show _ < 4096; omega) hM
    rw [hB.1] at f2
    obtain ⟨C2, n2, e, hC2⟩ := crec_bad h p0 hi hc h41 hq (x := S c) (by omega) hR hc8 f1.1 f1.2.1
    refine ⟨hR.1, C2, n2, ?_, hC2⟩
    show f_X7_passBlock_L134 FU 0 (nI 0) (rdM M (nI 3) 0 p0) = _
    have hC' := f1.1.rdc hq h
    have hend : f_X7_passBlock_L168 0 (rdM C2 n2 f u) = some ((), rdM C2 n2 f u) := by
      unfold f_X7_passBlock_L168
      rw [Gr_rd, hC2.1, h.1.r0_3, orf_e, more_f hR.1, ob_e, if_neg (by decide)]
    rw [f2, show FU - (c - 0) = 4094 - c + 1 + 1 by show 4096 - (c - 0) = _; omega, f_X7_passBlock_L134, if_pos (show nI c < 8 from nI_lt (b := 8) hc8 (by decide)), Gr_rd, f1.1.1, h.1.r0_3, orf_e, more_t hC' hS, ob_e, if_pos rfl, Gr_rd, f1.1.1, h.1.r0_3, orf_e, h05, orf_e, e, ob_e, sv_e, f_X7_passBlock_L134]
    by_cases c8 : nI c + 1 < 8
    · rw [if_pos c8, Gr_rd, hC2.1, h.1.r0_3, orf_e, more_f hR.1, ob_e, if_neg (by decide), hend]
    · rw [if_neg c8, hend]
  · have hM : BlC T M M q 0 S N PP := ⟨CFq.refl q M, h1, rfl, fun r' hr => by omega, fun r' _ a => h0 r' a⟩
    obtain ⟨C', f1, f2⟩ := lp_cgo h p0 hi hc h41 hq h05 (by omega) hB FU 0 M (by omega) (by show _ < 4096; omega) hM
    rw [hB.1] at f2
    have hC' := f1.1.rdc hq h
    have hk : nin C' i T (S 8) = nin M i T (S 8) := by
      unfold nin
      rw [show kMis C' i = kMis M i from funext fun t => by
        show decide (gi C' (62 + 4 * i) (t + 1) = -9) = decide (gi M (62 + 4 * i) (t + 1) = -9)
        rw [f1.1.2.2 _ _ (by omega)]]
    refine ⟨nin_f M i T (S 8), C', nI (S 8), ?_, f1.1⟩
    show f_X7_passBlock_L134 FU 0 (nI 0) (rdM M (nI 3) 0 p0) = _
    rw [f2, show FU - (8 - 0) = 4087 + 1 from rfl, f_X7_passBlock_L134, if_neg (by decide)]
    unfold f_X7_passBlock_L168
    rw [Gr_rd, f1.1.1, h.1.r0_3, orf_e, more_t hC' hS, ob_e, if_pos rfl, Gr_rd, f1.1.1, h.1.r0_3, orf_e, ob_u, refuse_eq hC' p0 hi (f1.1.cat hq hc) (by rw [f1.1.1]; exact h41) hS, hk]
