/-! PURE PART: how an item is passed over; what holds between two calls -/
abbrev Rs : Type := Int32 ⊕ (Int32 × Int32)
def sNeed (e n a : Int32) : Rs := if e < a + n then .inr (3, e) else .inl (a + n)
def sBits (T : Int32 → Int32) (e : Int32) : Nat → Int32 → Rs
  | 0, a => .inr (4, a)
  | k + 1, a => if a < e then (if T a &&& 1 = 1 then (if k = 0 then .inr (4, a) else sBits T e k (a + 1)) else (if T a = 0 then .inr (4, a) else .inl (a + 1))) else .inr (3, e)
/-- bit i of the nb bytes of bits at a, 7 a byte -/
def bs (T : Int32 → Int32) (a nb i : Int32) : Bool := decide (i < 7 * nb) && decide ((T (a + i / 7) >>> ((7 - (i - i / 7 * 7)) &&& 31)) &&& 1 = 1)
def sMiss (B z : Int32 → Bool) (fr : Int32) : Nat → Int32 → Option Int32
  | 0, _ => none
  | k + 1, i => if B i && z i then some (fr + i / 7) else sMiss B z fr k (i + 1)
def sParts (B : Int32 → Bool) (w : Int32 → Int32) (e : Int32) : Nat → Int32 → Int32 → Rs
  | 0, _, a => .inl a
  | k + 1, i, a => if B i then (match sNeed e (w i) a with
      | .inl a' => sParts B w e k (i + 1) a'
      | .inr q => .inr q) else sParts B w e k (i + 1) a
def sMade (T : Int32 → Int32) (e : Int32) (w : Int32 → Int32) (a : Int32) : Rs := match sBits T e 2 a with
  | .inr q => .inr q
  | .inl a1 => match sMiss (bs T a (a1 - a)) (fun i => decide (w i = 0)) a 14 0 with
    | some p => .inr (5, p)
    | none => sParts (bs T a (a1 - a)) w e 14 0 a1
def sGoing (T : Int32 → Int32) (e : Int32) : Nat → Int32 → Rs
  | 0, a => .inr (7, a)
  | k + 1, a => if a < e then (if T a &&& 1 = 1 then (if k = 0 then .inr (7, a) else sGoing T e k (a + 1)) else .inl (a + 1)) else .inr (3, e)
def sAgain (T : Int32 → Int32) (e n a : Int32) : Rs := if a < e then (if 1 ≤ T a ∧ T a ≤ 5 then sNeed e (T a * n) (a + 1) else .inr (6, a)) else .inr (3, e)
def sItem (T : Int32 → Int32) (e kd n : Int32) (w : Int32 → Int32) (a : Int32) : Rs :=
  if kd = 0 then sNeed e n a else if kd = 1 then sGoing T e 6 a else if kd = 2 then sAgain T e n a else sMade T e w a
/-- an item of the place p of category i -/
def cItem (M : JM) (i : Nat) (T : Int32 → Int32) (e p a : Int32) : Rs := sItem T e (gi M (62 + 4 * i) p) (gi M (63 + 4 * i) p) (fun t => gi M (64 + 4 * i) (p * 14 + t)) a
theorem cItem.congr {M M' : JM} {i : Nat} (h1 : ∀ j, gi M' (62 + 4 * i) j = gi M (62 + 4 * i) j) (h2 : ∀ j, gi M' (63 + 4 * i) j = gi M (63 + 4 * i) j) (h3 : ∀ j, gi M' (64 + 4 * i) j = gi M (64 + 4 * i) j) (T : Int32 → Int32) (e p a : Int32) : cItem M' i T e p a = cItem M i T e p a := by
  unfold cItem
  rw [h1, h2]
  congr 1
  funext t
  exact h3 _
/-- the block that was read latest: class and reference -/
def BStr (M : JM) (q i : Nat) : Prop :=
  (4 ≤ gi M q 3 ∧ gi M q 3 ≤ 300) ∧
  (∀ j, 0 ≤ j → j < gi M q 3 → gi M (q + 1) j = gi M 40 j ∧ 0 ≤ gi M 40 j ∧ gi M 40 j ≤ 255) ∧
  (∀ r, 0 ≤ r → r < gi M q 1 → gi M (q + 2) r = gi M 41 r ∧ 3 ≤ gi M 41 r ∧ gi M 41 r < gi M 41 (r + 1) ∧ gi M 41 (r + 1) ≤ gi M q 3) ∧
  gi M 41 (gi M q 1) = gi M q 3 ∧
  (∀ r p, 0 ≤ r → r < gi M q 1 → 1 ≤ p → p ≤ 21 → gi M (q + 4) (r * 21 + p - 1) = gi M 43 (22 * r + p) ∧
    (gi M 43 (22 * r + p) = 0 ∨ (0 < gi M 43 (22 * r + p) ∧ gi M (q + 3) (r * 21 + p - 1) = gi M 42 (22 * r + p) ∧ 0 ≤ gi M 42 (22 * r + p) ∧ gi M 42 (22 * r + p) < gi M q 3 ∧ gi M 42 (22 * r + p) + gi M 43 (22 * r + p) ≤ gi M q 3 ∧ gi M 43 (22 * r + p) ≤ 300 ∧
      gi M (62 + 4 * i) p ≠ -9 ∧ cItem M i (gi M 40) (gi M q 3) p (gi M 42 (22 * r + p)) = .inl (gi M 42 (22 * r + p) + gi M 43 (22 * r + p)))))
def IBlq (M : JM) (q : Nat) : Prop := (q = 5 ∨ q = 10) ∧ gr M 0 4 = some q ∧ gr M 0 5 = some (15 - q) ∧ gi M q 1 = gi M 32 14 ∧ gi M q 0 = gi M 32 15 ∧
  ((gi M q 1 = 0 ∧ gi M q 0 = -9) ∨ (∃ i : Nat, i < 3 ∧ nI i < gi M 0 1 ∧ gi M q 0 = nI i ∧ 1 ≤ gi M q 1 ∧ gi M q 1 ≤ 8 ∧ BStr M q i))
def IBlk (M : JM) : Prop := ∃ q : Nat, IBlq M q
def IOwn (M : JM) : Prop := ((gi M 15 0 = -9 ∧ gi M 32 25 = -1) ∨ (∃ i : Nat, i < 3 ∧ nI i < gi M 0 1 ∧ gi M 15 0 = nI i ∧ gi M 32 25 = nI i)) ∧
  (∀ p, 1 ≤ p → p ≤ 21 → gi M 17 p = gi M 48 p ∧ 0 ≤ gi M 48 p ∧ gi M 48 p ≤ 58 ∧ ∀ k, 0 ≤ k → k < gi M 48 p → gi M 16 ((p - 1) * 58 + k) = gi M 49 (60 * p + k) ∧ 0 ≤ gi M 49 (60 * p + k) ∧ gi M 49 (60 * p + k) ≤ 255)
/-- one track: the class's object at place t, the reference's rows at j -/
def ITr1 (M : JM) (t : Nat) (j : Int32) : Prop := gi M t 0 = gi M 50 j ∧ gi M t 1 = gi M 51 j ∧ gi M t 2 = gi M 52 j ∧ gi M t 3 = gi M 57 j ∧ gi M t 4 = gi M 58 j ∧ gi M t 5 = gi M 53 j ∧ gi M t 6 = gi M 54 j ∧ gi M t 7 = gi M 55 j ∧ gi M t 8 = gi M 56 j ∧ gi M 59 j = gi M 32 41 - gi M 55 j ∧ 0 ≤ gi M 55 j ∧ gi M 55 j ≤ 5
def ITrk (M : JM) : Prop := (gi M 18 1 = gi M 32 28 ∧ 0 ≤ gi M 18 1 ∧ gi M 18 1 ≤ 12 ∧ gi M 18 2 = gi M 32 39 ∧ gi M 18 3 = gi M 32 40 ∧ gi M 18 4 = gi M 32 41) ∧
  ∃ π : Int32 → Nat, (∀ j, 0 ≤ j → j < 12 → gr M 19 j = some (π j) ∧ 20 ≤ π j ∧ π j < 32) ∧ (∀ i j, 0 ≤ i → i < 12 → 0 ≤ j → j < 12 → π i = π j → i = j) ∧ (∀ j, 0 ≤ j → j < gi M 18 1 → ITr1 M (π j) j)
def IMis (M : JM) : Prop := gi M 0 8 = gi M 32 13 ∧ gi M 0 9 = gi M 32 42
def Inv (M : JM) : Prop := RF (gr M) ∧ ITab M ∧ ITape M ∧ IBlk M ∧ IOwn M ∧ ITrk M ∧ IMis M
def depBlk (k : Nat) (j : Int32) : Prop := (5 ≤ k ∧ k ≤ 14) ∨ (k = 32 ∧ (j = 14 ∨ j = 15)) ∨ (40 ≤ k ∧ k ≤ 43)
def depOwn (k : Nat) (j : Int32) : Prop := (k = 15 ∧ j = 0) ∨ k = 16 ∨ k = 17 ∨ (k = 32 ∧ j = 25) ∨ k = 48 ∨ k = 49
def depTrk (k : Nat) (j : Int32) : Prop := k = 18 ∨ (20 ≤ k ∧ k ≤ 31) ∨ (k = 32 ∧ (j = 28 ∨ j = 39 ∨ j = 40 ∨ j = 41)) ∨ (50 ≤ k ∧ k ≤ 59)
theorem BStr.congr {M M' : JM} {q i : Nat} (h : BStr M q i) (hq : q = 5 ∨ q = 10) (hf : ∀ k j, depBlk k j → gi M' k j = gi M k j) (h1 : ∀ j, gi M' (62 + 4 * i) j = gi M (62 + 4 * i) j) (h2 : ∀ j, gi M' (63 + 4 * i) j = gi M (63 + 4 * i) j) (h3 : ∀ j, gi M' (64 + 4 * i) j = gi M (64 + 4 * i) j) : BStr M' q i := by
  have e : ∀ k j, ((5 ≤ k ∧ k ≤ 14) ∨ (40 ≤ k ∧ k ≤ 43)) → gi M' k j = gi M k j := fun k j hd => hf k j (by unfold depBlk; rcases hd with hd | hd <;> simp [hd])
  have e40 : gi M' 40 = gi M 40 := funext fun j => e 40 j (by omega)
  obtain ⟨a1, a2, a3, a4, a5⟩ := h
  refine ⟨by rw [e q _ (by omega)]; exact a1, ?_, ?_, ?_, ?_⟩
  · intro j
    rw [e q _ (by omega), e (q + 1) _ (by omega), e 40 _ (by omega)]
    exact a2 j
  · intro r
    rw [e q _ (by omega), e q 3 (by omega), e (q + 2) _ (by omega), e 41 _ (by omega), e 41 _ (by omega)]
    exact a3 r
  · rw [e q _ (by omega), e q 3 (by omega), e 41 _ (by omega)]
    exact a4
  · intro r p
    rw [e q _ (by omega), e q 3 (by omega), e (q + 4) _ (by omega), e (q + 3) _ (by omega), e 43 _ (by omega), e 42 _ (by omega), h1, cItem.congr h1 h2 h3, e40]
    exact a5 r p
theorem IBlk.congr2 {M M' : JM} (h : IBlk M) (hg4 : gr M' 0 4 = gr M 0 4) (hg5 : gr M' 0 5 = gr M 0 5) (hf : ∀ k j, depBlk k j → gi M' k j = gi M k j) (hc : ∀ i : Nat, i < 3 → nI i < gi M 0 1 → nI i < gi M' 0 1) (ht : ∀ (i : Nat) (k : Nat) (j : Int32), i < 3 → (∃ q, (q = 5 ∨ q = 10) ∧ gr M 0 4 = some q ∧ gi M q 0 = nI i) → (k = 62 + 4 * i ∨ k = 63 + 4 * i ∨ k = 64 + 4 * i) → gi M' k j = gi M k j) : IBlk M' := by
  obtain ⟨q, hq, h1, h2, h3, h4, h5⟩ := h
  have e : ∀ k j, ((5 ≤ k ∧ k ≤ 14) ∨ (40 ≤ k ∧ k ≤ 43)) → gi M' k j = gi M k j := fun k j hd => hf k j (by unfold depBlk; rcases hd with hd | hd <;> simp [hd])
  refine ⟨q, hq, by rw [hg4]; exact h1, by rw [hg5]; exact h2, ?_, ?_, ?_⟩
  · rw [e q _ (by omega), hf 32 14 (by simp [depBlk])]; exact h3
  · rw [e q _ (by omega), hf 32 15 (by simp [depBlk])]; exact h4
  · rw [e q _ (by omega), e q _ (by omega)]
    rcases h5 with h5 | ⟨i, i1, i2, i3, i4, i5, i6⟩
    · exact Or.inl h5
    · have hx : ∃ q, (q = 5 ∨ q = 10) ∧ gr M 0 4 = some q ∧ gi M q 0 = nI i := ⟨q, hq, h1, i3⟩
      exact Or.inr ⟨i, i1, hc i i1 i2, i3, i4, i5, i6.congr hq hf (fun j => ht i _ j i1 hx (Or.inl rfl)) (fun j => ht i _ j i1 hx (Or.inr (Or.inl rfl))) (fun j => ht i _ j i1 hx (Or.inr (Or.inr rfl)))⟩
theorem IBlk.congr {M M' : JM} (h : IBlk M) (hg : gr M' = gr M) (hf : ∀ k j, depBlk k j → gi M' k j = gi M k j) (hc : gi M' 0 1 = gi M 0 1) (ht : ∀ (i : Nat) (k : Nat) (j : Int32), i < 3 → (∃ q, (q = 5 ∨ q = 10) ∧ gr M 0 4 = some q ∧ gi M q 0 = nI i) → (k = 62 + 4 * i ∨ k = 63 + 4 * i ∨ k = 64 + 4 * i) → gi M' k j = gi M k j) : IBlk M' := h.congr2 (by rw [hg]) (by rw [hg]) hf (fun i _ x => by rw [hc]; exact x) ht
theorem IOwn.congr2 {M M' : JM} (h : IOwn M) (hf : ∀ k j, depOwn k j → gi M' k j = gi M k j) (hc : ∀ i : Nat, i < 3 → nI i < gi M 0 1 → nI i < gi M' 0 1) : IOwn M' := by
  have e : ∀ k j, (k = 16 ∨ k = 17 ∨ k = 48 ∨ k = 49) → gi M' k j = gi M k j := fun k j hd => hf k j (by unfold depOwn; omega)
  obtain ⟨h1, h2⟩ := h
  refine ⟨?_, fun p a1 a2 => ?_⟩
  · rw [hf 15 0 (by simp [depOwn]), hf 32 25 (by simp [depOwn])]
    rcases h1 with h1 | ⟨i, x1, x2, x3⟩
    · exact Or.inl h1
    · exact Or.inr ⟨i, x1, hc i x1 x2, x3⟩
  · rw [e 17 _ (by omega), e 48 _ (by omega)]
    obtain ⟨b1, b2, b3, b4⟩ := h2 p a1 a2
    refine ⟨b1, b2, b3, fun k c1 c2 => ?_⟩
    rw [e 16 _ (by omega), e 49 _ (by omega)]
    exact b4 k c1 c2
theorem IOwn.congr {M M' : JM} (h : IOwn M) (hf : ∀ k j, depOwn k j → gi M' k j = gi M k j) (hc : gi M' 0 1 = gi M 0 1) : IOwn M' := h.congr2 hf (fun i _ x => by rw [hc]; exact x)
theorem ITrk.congr2 {M M' : JM} (h : ITrk M) (hg : gr M' 19 = gr M 19) (hf : ∀ k j, depTrk k j → gi M' k j = gi M k j) : ITrk M' := by
  have e : ∀ k j, (k = 18 ∨ (20 ≤ k ∧ k ≤ 31) ∨ (50 ≤ k ∧ k ≤ 59)) → gi M' k j = gi M k j := fun k j hd => hf k j (by unfold depTrk; rcases hd with hd | hd | hd <;> simp [hd])
  have e1 := hf 32 28 (by simp [depTrk])
  have e2 := hf 32 39 (by simp [depTrk])
  have e3 := hf 32 40 (by simp [depTrk])
  have e4 := hf 32 41 (by simp [depTrk])
  obtain ⟨h1, π, h2, h3, h4⟩ := h
  refine ⟨?_, π, by rw [hg]; exact h2, h3, fun j a1 a2 => ?_⟩
  · rw [e 18 _ (by omega), e 18 _ (by omega), e 18 _ (by omega), e 18 _ (by omega), e1, e2, e3, e4]; exact h1
  · rw [e 18 _ (by omega)] at a2
    have b := h4 j a1 a2
    have hj : j < 12 := by have := h1.2.2.1; grind
    have hp := h2 j a1 hj
    unfold ITr1 at *
    rw [e (π j) 0 (by omega), e (π j) 1 (by omega), e (π j) 2 (by omega), e (π j) 3 (by omega), e (π j) 4 (by omega), e (π j) 5 (by omega), e (π j) 6 (by omega), e (π j) 7 (by omega), e (π j) 8 (by omega), e 50 _ (by omega), e 51 _ (by omega), e 52 _ (by omega), e 53 _ (by omega), e 54 _ (by omega), e 55 _ (by omega), e 56 _ (by omega), e 57 _ (by omega), e 58 _ (by omega), e 59 _ (by omega), e4]
    exact b

theorem ITrk.congr {M M' : JM} (h : ITrk M) (hg : gr M' = gr M) (hf : ∀ k j, depTrk k j → gi M' k j = gi M k j) : ITrk M' := h.congr2 (by rw [hg]) hf
