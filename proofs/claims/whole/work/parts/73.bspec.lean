/-! PURE PART: what becomes of a record's bytes: it is whole, or at fault -/
theorem sBits_f {T : Int32 → Int32} {e : Int32} : ∀ (k : Nat) (a : Int32) (q : Int32 × Int32), sBits T e k a = .inr q → q.1 ≠ 0 := by
  intro k
  induction k with
  | zero => intro a q h; rw [sBits] at h; rw [← Sum.inr.inj h]; show (4 : Int32) ≠ 0; decide
  | succ k ih =>
    intro a q h
    rw [sBits] at h
    split at h
    · split at h
      · split at h
        · rw [← Sum.inr.inj h]; show (4 : Int32) ≠ 0; decide
        · exact ih _ _ h
      · split at h
        · rw [← Sum.inr.inj h]; show (4 : Int32) ≠ 0; decide
        · cases h
    · rw [← Sum.inr.inj h]; show (3 : Int32) ≠ 0; decide
theorem sGoing_in {T : Int32 → Int32} {z : Nat} (hz : z ≤ 300) : ∀ (k x : Nat) (c : Int32), x ≤ z → sGoing T (nI z) k (nI x) = .inl c → ∃ y : Nat, c = nI y ∧ x < y ∧ y ≤ z := by
  intro k
  induction k with
  | zero => intro x c _ h; rw [sGoing] at h; cases h
  | succ k ih =>
    intro x c hx h
    rw [sGoing] at h
    split at h
    · rename_i g1
      have g1' := (nI_ltI (by omega) (by omega)).mp g1
      split at h
      · split at h
        · cases h
        · rw [nI_p1] at h
          obtain ⟨y, a, b, d⟩ := ih (x + 1) c (by omega) h
          exact ⟨y, a, by omega, d⟩
      · exact ⟨x + 1, by rw [← Sum.inl.inj h, nI_p1], by omega, by omega⟩
    · cases h
theorem sParts_in2 {B : Int32 → Bool} {w : Int32 → Int32} {z : Nat} (hz : z ≤ 300) {v : Nat → Nat} (hw : ∀ t, t < 14 → w (nI t) = nI (v t) ∧ v t ≤ 4) : ∀ (k m x : Nat) (c : Int32), m + k ≤ 14 → x ≤ z → sParts B w (nI z) k (nI m) (nI x) = .inl c → ∃ y : Nat, c = nI y ∧ x ≤ y ∧ y ≤ z := by
  intro k
  induction k with
  | zero => intro m x c _ hx h; rw [sParts] at h; exact ⟨x, (Sum.inl.inj h).symm, by omega, hx⟩
  | succ k ih =>
    intro m x c hm hx h
    obtain ⟨w1, w2⟩ := hw m (by omega)
    rw [sParts] at h
    split at h
    · rw [w1] at h
      split at h
      · rename_i a' hn
        obtain ⟨n1, rfl⟩ := sNeed_inl (by omega) (by omega) (by omega) hn
        rw [nI_p1] at h
        obtain ⟨y, a, b, d⟩ := ih (m + 1) (x + v m) c (by omega) n1 h
        exact ⟨y, a, by omega, d⟩
      · cases h
    · rw [nI_p1] at h
      exact ih (m + 1) x c (by omega) hx h
theorem cItem_in {M : JM} {i : Nat} (hc : ICat M i) {T : Int32 → Int32} {z : Nat} (hz : z ≤ 300) {p : Int32} (hp : 0 ≤ p ∧ p ≤ 21) (h9 : gi M (62 + 4 * i) p ≠ -9) {x : Nat} (hx : x ≤ z) {c : Int32} (h : cItem M i T (nI z) p (nI x) = .inl c) : ∃ y : Nat, c = nI y ∧ x < y ∧ y ≤ z := by
  obtain ⟨k1, k2, k3⟩ := hc.2.2.1 p hp.1 hp.2
  obtain ⟨n, en, hn⟩ := k3.k1 h9
  unfold cItem sItem at h
  rw [en] at h k3
  split at h
  · rename_i c0
    obtain ⟨a, rfl⟩ := sNeed_inl (by omega) (by omega) (by omega) h
    have : 1 ≤ n := by
      rcases k3 with ⟨-, q, -⟩ | ⟨q, -⟩ | ⟨q, -⟩ | ⟨q, -⟩ | ⟨q, -⟩
      · exact (nI_leI (a := 1) (by decide) (by omega)).mp q
      all_goals (rw [c0] at q; exact absurd q (by decide))
    exact ⟨x + n, rfl, by omega, a⟩
  · split at h
    · exact sGoing_in hz 6 x c hx h
    · split at h
      · unfold sAgain at h
        split at h
        · rename_i g1
          have g1' := (nI_ltI (by omega) (by omega)).mp g1
          split at h
          · rename_i g2
            obtain ⟨y, ey, hy⟩ := nI_ex (x := T (nI x)) (h := 5) (by grind) g2.2 (by decide)
            rw [ey, pk_mul, nI_p1] at h
            obtain ⟨a, rfl⟩ := sNeed_inl (by omega) (by have := Nat.mul_le_mul hy hn; omega) (by omega) h
            exact ⟨x + 1 + y * n, rfl, by omega, a⟩
          · cases h
        · cases h
      · obtain ⟨v, hv⟩ := hc.wx hp
        unfold sMade at h
        split at h
        · cases h
        · rename_i a1 hs
          obtain ⟨nb, b1, b2, b3, rfl⟩ := sBits_in hz 2 x a1 (by decide) hx hs
          split at h
          · cases h
          · obtain ⟨y, a, b, d⟩ := sParts_in2 hz hv 14 0 (x + nb) c (by omega) b3 h
            exact ⟨y, a, by omega, d⟩
theorem cItem_f {M : JM} {T : Int32 → Int32} {z : Nat} (h : RdC M T z) {i : Nat} (hi : i < 3) (hc : ICat M i) (h41 : gr M 4 1 = some (61 + 4 * i)) {p : Int32} (hp : 0 ≤ p ∧ p ≤ 21) (h9 : gi M (62 + 4 * i) p ≠ -9) {x : Nat} (hx : x ≤ z) {q : Int32 × Int32} (e : cItem M i T (nI z) p (nI x) = .inr q) : q.1 ≠ 0 := by
  have := item_eq h 0 hi hc h41 hp h9 hx
  rw [e] at this
  exact this.1
/-- the items of a record: all are there, or one is at fault -/
theorem tr_split {M : JM} {T : Int32 → Int32} {z : Nat} (h : RdC M T z) {i : Nat} (hi : i < 3) (hc : ICat M i) (h41 : gr M 4 1 = some (61 + 4 * i)) {B : Int32 → Bool} (hk : ∀ t, t < 21 → B (nI t) = true → gi M (62 + 4 * i) (nI (t + 1)) ≠ -9) {x : Nat} (hx : x ≤ z) : ∀ m, m ≤ 21 → (∃ P : Nat → Nat, P 0 = x ∧ Trc M i T z B P m) ∨ (∃ (P : Nat → Nat) (mb : Nat) (q : Int32 × Int32), P 0 = x ∧ mb < m ∧ Trc M i T z B P mb ∧ B (nI mb) = true ∧ cItem M i T (nI z) (nI (mb + 1)) (nI (P mb)) = .inr q ∧ q.1 ≠ 0) := by
  intro m
  induction m with
  | zero => intro _; exact Or.inl ⟨fun _ => x, rfl, fun t ht => by omega⟩
  | succ m ih =>
    intro hm
    rcases ih (by omega) with ⟨P, hP0, hT⟩ | ⟨P, mb, q, a, b, c, d, e, f⟩
    · have hPm := hT.le (by omega) m (by omega)
      have ext : ∀ y : Nat, (B (nI m) = true → cItem M i T (nI z) (nI (m + 1)) (nI (P m)) = .inl (nI y) ∧ P m < y ∧ y ≤ z) → (B (nI m) = false → y = P m) → ∃ P : Nat → Nat, P 0 = x ∧ Trc M i T z B P (m + 1) := by
        intro y h1 h2
        refine ⟨fun t => if t = m + 1 then y else P t, (if_neg (show ¬ 0 = m + 1 by omega)).trans hP0, fun t ht => ?_⟩
        dsimp only
        rw [if_neg (show ¬ t = m + 1 by omega)]
        by_cases e : t = m
        · subst e
          rw [if_pos rfl]
          exact ⟨h1, h2⟩
        · rw [if_neg (show ¬ t + 1 = m + 1 by omega)]
          exact hT t (by omega)
      cases hb : B (nI m) with
      | false => exact Or.inl (ext (P m) (fun y => by rw [hb] at y; cases y) (fun _ => rfl))
      | true =>
        have hp : 0 ≤ nI (m + 1) ∧ nI (m + 1) ≤ 21 := ⟨nI_pos' (by omega), nI_le (b := 21) (by omega) (by decide)⟩
        cases hR : cItem M i T (nI z) (nI (m + 1)) (nI (P m)) with
        | inl c =>
          obtain ⟨y, rfl, y1, y2⟩ := cItem_in hc h.2.2.1 hp (hk m (by omega) hb) hPm hR
          exact Or.inl (ext y (fun _ => ⟨hR, y1, y2⟩) (fun y => by rw [hb] at y; cases y))
        | inr q => exact Or.inr ⟨P, m, q, hP0, by omega, hT, hb, hR, cItem_f h hi hc h41 hp (hk m (by omega) hb) hPm hR⟩
    · exact Or.inr ⟨P, mb, q, a, by omega, c, d, e, f⟩
theorem rc_split {M : JM} {T : Int32 → Int32} {z : Nat} (h : RdC M T z) {i : Nat} (hi : i < 3) (hc : ICat M i) (h41 : gr M 4 1 = some (61 + 4 * i)) {x : Nat} (hx : x ≤ z) : (∃ nb P, RcOk M i T z x nb P) ∨ (∃ f u, RcBad M i T z x f u) := by
  have hz := h.2.2.1
  cases hs : sBits T (nI z) 3 (nI x) with
  | inr q => exact Or.inr ⟨q.1, q.2, sBits_f _ _ _ hs, Or.inl hs⟩
  | inl a =>
    obtain ⟨nb, n1, n3, nz, rfl⟩ := sBits_in hz 3 x a (by decide) hx hs
    cases hm : sMiss (bs T (nI x) (nI nb)) (kMis M i) (nI x) 21 0 with
    | some u => exact Or.inr ⟨5, u, by decide, Or.inr (Or.inl ⟨nb, n1, n3, nz, hs, hm, rfl⟩)⟩
    | none =>
      have hH : RcHd M i T z x nb := ⟨n1, n3, nz, hs, hm⟩
      rcases tr_split h hi hc h41 hH.kind (x := x + nb) nz 21 (by omega) with ⟨P, a, b⟩ | ⟨P, mb, q, a, b, c, d, e, f⟩
      · exact Or.inl ⟨nb, P, hH, a, b⟩
      · exact Or.inr ⟨q.1, q.2, f, Or.inr (Or.inr ⟨nb, P, mb, hH, a, b, c, d, e⟩)⟩
/-- the records of a block, so many of them: where they begin, their bytes of bits, their items -/
def BkT (M : JM) (i : Nat) (T : Int32 → Int32) (z c : Nat) (S N : Nat → Nat) (PP : Nat → Nat → Nat) : Prop := S 0 = 3 ∧ ∀ r, r < c → S r < z ∧ RcOk M i T z (S r) (N r) (PP r) ∧ S (r + 1) = PP r 21
theorem RcOk.end_ {M : JM} {i : Nat} {T : Int32 → Int32} {z x nb : Nat} {P : Nat → Nat} (h : RcOk M i T z x nb P) : x < P 21 ∧ P 21 ≤ z ∧ ∀ t, t ≤ 21 → x < P t ∧ P t ≤ z ∧ P t ≤ P 21 := by
  obtain ⟨⟨n1, n3, nz, -⟩, h0, hT⟩ := h
  have hle := hT.le (by omega)
  have hmono : ∀ d t, t + d ≤ 21 → P t ≤ P (t + d) := by
    intro d
    induction d with
    | zero => intro t _; simp
    | succ d ih =>
      intro t ht
      have a := ih t (by omega)
      have b := (hT.step (t := t + d) (by omega)).1
      rw [show t + (d + 1) = t + d + 1 by omega]
      omega
  have h21 := hmono 21 0 (by omega)
  rw [Nat.zero_add] at h21
  refine ⟨by omega, hle 21 (by omega), fun t ht => ?_⟩
  have a := hmono t 0 (by omega)
  have b := hmono (21 - t) t (by omega)
  rw [Nat.zero_add] at a
  rw [show t + (21 - t) = 21 by omega] at b
  exact ⟨by omega, hle t ht, b⟩
theorem BkT.le {M : JM} {i : Nat} {T : Int32 → Int32} {z c : Nat} {S N : Nat → Nat} {PP : Nat → Nat → Nat} (h : BkT M i T z c S N PP) (hz : 3 ≤ z) {r : Nat} (hr : r ≤ c) : S r ≤ z ∧ 3 ≤ S r := by
  induction r with
  | zero => rw [h.1]; omega
  | succ r ih =>
    obtain ⟨a, b, d⟩ := h.2 r (by omega)
    have e := b.end_
    have := ih (by omega)
    rw [d]
    omega
theorem bk_split {M : JM} {T : Int32 → Int32} {z : Nat} (h : RdC M T z) {i : Nat} (hi : i < 3) (hc : ICat M i) (h41 : gr M 4 1 = some (61 + 4 * i)) (hz : 3 < z) : ∀ c : Nat, (∃ c' S N PP, 1 ≤ c' ∧ c' ≤ c ∧ BkT M i T z c' S N PP ∧ S c' = z) ∨ (∃ c' S N PP f u, c' < c ∧ BkT M i T z c' S N PP ∧ S c' < z ∧ RcBad M i T z (S c') f u) ∨ (∃ S N PP, BkT M i T z c S N PP ∧ S c < z) := by
  intro c
  induction c with
  | zero => exact Or.inr (Or.inr ⟨fun _ => 3, fun _ => 0, fun _ _ => 0, ⟨rfl, fun r hr => by omega⟩, hz⟩)
  | succ c ih =>
    rcases ih with ⟨c', S, N, PP, a, b, d⟩ | ⟨c', S, N, PP, f, u, a, b⟩ | ⟨S, N, PP, hB, hS⟩
    · exact Or.inl ⟨c', S, N, PP, a, by omega, d⟩
    · exact Or.inr (Or.inl ⟨c', S, N, PP, f, u, by omega, b⟩)
    · rcases rc_split h hi hc h41 (x := S c) (by omega) with ⟨nb, P, hO⟩ | ⟨f, u, hO⟩
      · have hT : BkT M i T z (c + 1) (fun r => if r = c + 1 then P 21 else S r) (fun r => if r = c then nb else N r) (fun r => if r = c then P else PP r) := by
          refine ⟨(if_neg (show ¬ 0 = c + 1 by omega)).trans hB.1, fun r hr => ?_⟩
          dsimp only
          rw [if_neg (show ¬ r = c + 1 by omega)]
          by_cases e : r = c
          · subst e
            rw [if_pos rfl, if_pos rfl, if_pos rfl]
            exact ⟨hS, hO, rfl⟩
          · rw [if_neg e, if_neg e, if_neg (show ¬ r + 1 = c + 1 by omega)]
            exact hB.2 r (by omega)
        have he := hO.end_
        by_cases hz2 : P 21 = z
        · exact Or.inl ⟨c + 1, _, _, _, by omega, by omega, hT, (if_pos rfl).trans hz2⟩
        · exact Or.inr (Or.inr ⟨_, _, _, hT, by rw [show (if c + 1 = c + 1 then P 21 else S (c + 1)) = P 21 from if_pos rfl]; omega⟩)
      · exact Or.inr (Or.inl ⟨c, S, N, PP, f, u, by omega, hB, hS, hO⟩)
