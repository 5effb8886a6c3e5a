/-! PURE PART: an item of parts -/
def bit (T : Int32 → Int32) (a i : Int32) : Bool := decide ((T (a + i / 7) >>> ((7 - (i - i / 7 * 7)) &&& 31)) &&& 1 = 1)
theorem bs_bit (T : Int32 → Int32) (a nb i : Int32) : bs T a nb i = (decide (i < 7 * nb) && bit T a i) := rfl
theorem d7 {m : Nat} (h : m < 2 ^ 31) : nI m / 7 = nI (m / 7) := pk_div h (by decide) (by decide)
theorem isOne_eq {M : JM} {q b m : Nat} (hl : ln q = 300) (h : b + m / 7 < 300) (hm : m < 300) : f_X7_isOne q (nI b) (nI m) M = some (bit (gi M q) (nI b) (nI m), M) := by
  unfold f_X7_isOne bit
  have hx : nI (b + m / 7) < 300 := nI_lt (b := 300) h (by decide)
  rw [d7 (by omega), nI_add, sv_e, hl, if_pos hx, if_pos ⟨nI_pos' (by omega), hx⟩]
  split
  · rename_i c; rw [decide_eq_true c]
  · rename_i c; rw [decide_eq_false c]
theorem bit_congr {f g : Int32 → Int32} {b m : Nat} (hm : m < 300) (h : f (nI (b + m / 7)) = g (nI (b + m / 7))) : bit f (nI b) (nI m) = bit g (nI b) (nI m) := by
  unfold bit
  rw [d7 (by omega), nI_add, h]
/-- where the parts from m on stand behind k more -/
def psN (B : Int32 → Bool) (w : Int32 → Int32) : Nat → Nat → Int32 → Int32
  | 0, _, a => a
  | k + 1, m, a => psN B w k (m + 1) (if B (nI m) then a + w (nI m) else a)
theorem psN_congr {B B' : Int32 → Bool} {w : Int32 → Int32} : ∀ (k m : Nat) (a : Int32), (∀ t, t < k → B (nI (m + t)) = B' (nI (m + t))) → psN B w k m a = psN B' w k m a := by
  intro k
  induction k with
  | zero => intro m a _; rfl
  | succ k ih =>
    intro m a h
    have h0 := h 0 (by omega)
    rw [Nat.add_zero] at h0
    rw [psN, psN, h0]
    refine ih (m + 1) _ (fun t ht => ?_)
    have := h (t + 1) (by omega)
    rw [show m + 1 + t = m + (t + 1) by omega]
    exact this
theorem sNeed_inl {z x a : Nat} {c : Int32} (ha : a ≤ 1000) (hx : x ≤ 1000) (hz : z ≤ 1000) (h : sNeed (nI z) (nI x) (nI a) = .inl c) : a + x ≤ z ∧ c = nI (a + x) := by
  unfold sNeed at h
  rw [nI_add] at h
  split at h
  · cases h
  · rename_i g
    refine ⟨?_, (Sum.inl.inj h).symm⟩
    have := Int32.not_lt.mp g
    exact (nI_leI (by omega) (by omega)).mp this
theorem sParts_in {B : Int32 → Bool} {w : Int32 → Int32} {z : Nat} (hz : z ≤ 300) {x : Nat → Nat} (hw : ∀ t, t < 14 → w (nI t) = nI (x t) ∧ x t ≤ 4) : ∀ (k m a : Nat) (c : Int32), m + k ≤ 14 → a ≤ z → sParts B w (nI z) k (nI m) (nI a) = .inl c → ∀ t, m ≤ t → t < m + k → ∃ u : Nat, psN B w (t - m) m (nI a) = nI u ∧ u ≤ z ∧ (B (nI t) = true → u + x t ≤ z) := by
  intro k
  induction k with
  | zero => intro m a c _ _ _ t h1 h2; omega
  | succ k ih =>
    intro m a c h1 h2 h t t1 t2
    obtain ⟨w1, w2⟩ := hw m (by omega)
    rw [sParts] at h
    by_cases hb : B (nI m) = true
    · rw [if_pos hb, w1] at h
      split at h
      · rename_i a' hn
        obtain ⟨n1, rfl⟩ := sNeed_inl (by omega) (by omega) (by omega) hn
        by_cases hm : t = m
        · subst hm
          exact ⟨a, by rw [Nat.sub_self, psN], h2, fun _ => n1⟩
        · rw [nI_p1] at h
          obtain ⟨u, u1, u2⟩ := ih (m + 1) (a + x m) c (by omega) n1 h t (by omega) (by omega)
          refine ⟨u, ?_, u2⟩
          rw [show t - m = t - (m + 1) + 1 by omega, psN, if_pos hb, w1, nI_add]
          exact u1
      · cases h
    · rw [if_neg hb] at h
      by_cases hm : t = m
      · subst hm
        exact ⟨a, by rw [Nat.sub_self, psN], h2, fun q => absurd q hb⟩
      · rw [nI_p1] at h
        obtain ⟨u, u1, u2⟩ := ih (m + 1) a c (by omega) h2 h t (by omega) (by omega)
        refine ⟨u, ?_, u2⟩
        rw [show t - m = t - (m + 1) + 1 by omega, psN, if_neg hb]
        exact u1
theorem sBits_2 {T : Int32 → Int32} {z a : Nat} {c : Int32} (ha : a ≤ 1000) (hz : z ≤ 1000) (h : sBits T (nI z) 2 (nI a) = .inl c) : (T (nI a) &&& 1 = 1 ∧ c = nI (a + 2) ∧ a + 2 ≤ z) ∨ (¬ T (nI a) &&& 1 = 1 ∧ c = nI (a + 1) ∧ a + 1 ≤ z) := by
  rw [sBits] at h
  split at h
  · rename_i g1
    have g1' := (nI_ltI (by omega) (by omega)).mp g1
    split at h
    · rename_i g2
      rw [if_neg (by decide), sBits, nI_p1] at h
      split at h
      · rename_i g3
        have g3' := (nI_ltI (by omega) (by omega)).mp g3
        split at h
        · rw [if_pos rfl] at h
          cases h
        · split at h
          · cases h
          · left
            refine ⟨g2, ?_, by omega⟩
            rw [← Sum.inl.inj h, nI_p1]
      · cases h
    · rename_i g2
      split at h
      · cases h
      · right
        refine ⟨g2, ?_, by omega⟩
        rw [← Sum.inl.inj h, nI_p1]
  · cases h
/-- a MADE item that was read: its bytes of bits, where its parts stand -/
theorem sMade_in {T : Int32 → Int32} {w : Int32 → Int32} {z b s : Nat} (hz : z ≤ 300) (hb : b + s ≤ z) {x : Nat → Nat} (hw : ∀ t, t < 14 → w (nI t) = nI (x t) ∧ x t ≤ 4) (h : sMade T (nI z) w (nI b) = .inl (nI (b + s))) : ∃ nb : Nat, (nb = 1 ∨ nb = 2) ∧ (nb = 2 ↔ T (nI b) &&& 1 = 1) ∧ b + nb ≤ z ∧ ∀ t, t < 14 → ∃ u : Nat, psN (bs T (nI b) (nI nb)) w t 0 (nI (b + nb)) = nI u ∧ u ≤ z ∧ (bs T (nI b) (nI nb) (nI t) = true → u + x t ≤ z) := by
  have hs1 : ∀ a1 : Nat, (match sMiss (bs T (nI b) (nI a1 - nI b)) (fun i => decide (w i = 0)) (nI b) 14 0 with
    | some p => (Sum.inr (5, p) : Rs)
    | none => sParts (bs T (nI b) (nI a1 - nI b)) w (nI z) 14 0 (nI a1)) = .inl (nI (b + s)) → sParts (bs T (nI b) (nI a1 - nI b)) w (nI z) 14 0 (nI a1) = .inl (nI (b + s)) := by
    intro a1 h
    split at h
    · cases h
    · exact h
  unfold sMade at h
  split at h
  · cases h
  · rename_i a1 hn
    rcases sBits_2 (by omega) (by omega) hn with ⟨g1, rfl, g2⟩ | ⟨g1, rfl, g2⟩
    · have h2 := hs1 _ h
      rw [show nI (b + 2) - nI b = nI 2 by rw [pk_sub (by omega), show b + 2 - b = 2 by omega]] at h2
      refine ⟨2, Or.inr rfl, ⟨fun _ => g1, fun _ => rfl⟩, g2, fun t ht => ?_⟩
      exact sParts_in hz hw 14 0 (b + 2) _ (by omega) g2 h2 t (by omega) (by omega)
    · have h2 := hs1 _ h
      rw [show nI (b + 1) - nI b = nI 1 by rw [pk_sub (by omega), show b + 1 - b = 1 by omega]] at h2
      refine ⟨1, Or.inl rfl, ⟨fun q => by omega, fun q => absurd q g1⟩, g2, fun t ht => ?_⟩
      exact sParts_in hz hw 14 0 (b + 1) _ (by omega) g2 h2 t (by omega) (by omega)
theorem lp_cpart {M : JM} {q i b t : Nat} (hr : RF (gr M)) (hq : q = 5 ∨ q = 10) (h4 : gr M 0 4 = some q) (hi : i < 3) (hc : ICat M i) {p : Int32} (hp : 0 ≤ p ∧ p ≤ 21) (ht : t < 14) (hb : b + t / 7 < 300) : ∀ (n m : Nat) (v6 : Int32), m ≤ t → t - m < n → f_X7_partNumber_L54 n 0 (61 + 4 * i) p (nI b) (nI t) v6 (nI m) M = f_X7_partNumber_L95 0 (61 + 4 * i) p (nI t) (psN (bit (gi M (q + 1)) (nI b)) (fun t => gi M (64 + 4 * i) (p * 14 + t)) (t - m) m v6) M := by
  intro n
  induction n with
  | zero => intro m v6 _ h; omega
  | succ n ih =>
    intro m v6 h1 h2
    rw [f_X7_partNumber_L54]
    by_cases hm : m = t
    · subst hm
      rw [if_neg Int32.lt_irrefl, Nat.sub_self, psN]
    · rw [if_pos (nI_lt (by omega) (by omega)), h4, orf_e, (hr.rq hq).1, orf_e, isOne_eq (ln_q hq).1 (by omega) (by omega), ob_e, show t - m = t - (m + 1) + 1 by omega, psN]
      unfold f_X7_partNumber_L89
      by_cases hB : bit (gi M (q + 1)) (nI b) (nI m) = true
      · rw [if_pos hB, if_pos hB, cpart_eq hi hc hp.1 hp.2 (nI_pos' (by omega)) (nI_lt (b := 14) (by omega) (by decide)), ob_e, sv_e, sv_e, nI_p1]
        exact ih (m + 1) _ (by omega) (by omega)
      · rw [if_neg hB, if_neg hB, sv_e, nI_p1]
        exact ih (m + 1) _ (by omega) (by omega)
/-- the reference's loop over the parts -/
theorem lp_mpart {M : JM} (hr : RF (gr M)) {v1 p v4 v5 v6 : Int32} {w : Int32 → Int32} (hw : ∀ t : Nat, t < 14 → (0 ≤ 14 * (22 * v1 + p) + nI t ∧ 14 * (22 * v1 + p) + nI t < 924) ∧ gi M 36 (14 * (22 * v1 + p) + nI t) = w (nI t)) {B : Int32 → Bool} (hB1 : ∀ m : Nat, m < 7 → ((v5 >>> ((7 - nI m) &&& 31)) &&& 1 = 1 ↔ B (nI m) = true)) (hB2 : ∀ m : Nat, 7 ≤ m → m < 14 → ((v6 >>> ((14 - nI m) &&& 31)) &&& 1 = 1 ↔ B (nI m) = true)) : ∀ (n m : Nat) (v7 : Int32), m ≤ 14 → 14 - m < n →
    (∀ t, m ≤ t → t < 14 → v4 = nI t → B (nI t) = true → f_X8_ofMade_L50 n 32 v1 p v4 v5 v6 v7 (nI m) M = f_X8_ofMade_L138 32 (psN B w (t - m) m v7) (w (nI t)) M) ∧
    ((∀ t, m ≤ t → t < 14 → v4 = nI t → B (nI t) = false) → f_X8_ofMade_L50 n 32 v1 p v4 v5 v6 v7 (nI m) M = some (-9, M)) := by
  intro n
  induction n with
  | zero => intro m v7 _ h; omega
  | succ n ih =>
    intro m v7 h1 h2
    by_cases hm : m = 14
    · subst hm
      refine ⟨fun t a b => by omega, fun _ => ?_⟩
      rw [f_X8_ofMade_L50, if_neg (by decide)]
    · have hb : f_X8_ofMade_L50 (n + 1) 32 v1 p v4 v5 v6 v7 (nI m) M = f_X8_ofMade_L105 (f_X8_ofMade_L50 n) 32 v1 p v4 v5 v6 v7 (nI m) (if B (nI m) then 1 else 0) M := by
        rw [f_X8_ofMade_L50, if_pos (show nI m < 14 from nI_lt (b := 14) (by omega) (by decide))]
        by_cases h7 : m < 7
        · rw [if_pos (show nI m < 7 from nI_lt (b := 7) h7 (by decide))]
          by_cases c : B (nI m) = true
          · rw [if_pos ((hB1 m h7).mpr c), if_pos c]
          · rw [if_neg (fun x => c ((hB1 m h7).mp x)), if_neg c]
        · rw [if_neg (show ¬ nI m < 7 from Int32.not_lt.mpr (nI_le (a := 7) (by omega) (by omega)))]
          by_cases c : B (nI m) = true
          · rw [if_pos ((hB2 m (by omega) (by omega)).mpr c), if_pos c]
          · rw [if_neg (fun x => c ((hB2 m (by omega) (by omega)).mp x)), if_neg c]
      obtain ⟨w1, w2⟩ := hw m (by omega)
      obtain ⟨ih1, ih2⟩ := ih (m + 1) (if B (nI m) then v7 + w (nI m) else v7) (by omega) (by omega)
      have step : ¬ (v4 = nI m ∧ B (nI m) = true) → f_X8_ofMade_L50 (n + 1) 32 v1 p v4 v5 v6 v7 (nI m) M = f_X8_ofMade_L50 n 32 v1 p v4 v5 v6 (if B (nI m) then v7 + w (nI m) else v7) (nI (m + 1)) M := by
        intro hne
        rw [hb]
        unfold f_X8_ofMade_L105 f_X8_ofMade_L147 f_X8_ofMade_L160
        rw [sv_e, hr.r32_4, orf_e, ln_36, if_pos w1, w2, sv_e]
        by_cases c : B (nI m) = true
        · rw [if_pos c, if_pos c, if_neg (show ¬ (1 : Int32) = 0 by decide), if_neg (fun x => hne ⟨x.symm, c⟩), if_neg (by decide), sv_e, sv_e, nI_p1]
        · rw [if_neg c, if_neg c, if_pos rfl, if_pos rfl, sv_e, sv_e, nI_p1, show v7 + 0 = v7 by simp]
      constructor
      · intro t t1 t2 t3 t4
        by_cases htm : t = m
        · subst htm
          rw [hb]
          unfold f_X8_ofMade_L105
          rw [sv_e, hr.r32_4, orf_e, ln_36, if_pos w1, w2, sv_e, if_pos t4, if_neg (by decide), if_pos t3.symm, Nat.sub_self, psN]
        · rw [step (fun x => htm (nI_inj (by omega) (by omega) (t3.symm.trans x.1))), ih1 t (by omega) t2 t3 t4, show t - m = t - (m + 1) + 1 by omega, psN]
      · intro h
        rw [step (fun x => by have := h m (by omega) (by omega) x.1; rw [x.2] at this; cases this)]
        exact ih2 (fun t a b c => h t (by omega) b c)
