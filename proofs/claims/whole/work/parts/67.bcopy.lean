/-! PURE PART: copy -/
theorem cp_sh : ∀ c : Nat, c < 9 → (((nI c &&& 31) : Int32).toBitVec.smod 32).toNat = c := by decide
theorem cp_sl : ∀ c : Nat, c < 9 → ((1 : Int32) <<< (nI c &&& 31)) - 1 = nI (2 ^ c - 1) := by decide
theorem cp_in {v : Int32} {c : Nat} (hc : c < 9) (h0 : ¬ v < 0) : v >>> (nI c &&& 31) = 0 ↔ 0 ≤ v ∧ v ≤ ((1 : Int32) <<< (nI c &&& 31)) - 1 := by
  obtain ⟨m, hm, rfl⟩ := nI_of h0
  have hp : 0 < 2 ^ c := Nat.two_pow_pos c
  have hp2 : 2 ^ c ≤ 2 ^ 8 := Nat.pow_le_pow_right (by decide) (by omega)
  have hp3 : 2 ^ c ≤ 256 := hp2
  generalize 2 ^ c = k at *
  rw [cp_sl c hc, pk_shrN hm _ c (cp_sh c hc)]
  have e : (nI (m / 2 ^ c) = 0 ↔ m / 2 ^ c = 0) := ⟨fun q => nI_inj (by have := Nat.div_le_self m (2 ^ c); omega) (by decide) q, fun q => by rw [q]; rfl⟩
  rw [e, nI_leI hm (by have : 2 ^ c ≤ 2 ^ 8 := Nat.pow_le_pow_right (by decide) (by omega); omega), Nat.div_eq_zero_iff]
  have hp1 : 0 < 2 ^ c := Nat.two_pow_pos c
  constructor
  · intro h; exact ⟨nI_pos' hm, by omega⟩
  · intro h; right; omega
/-- where the records of a block begin, in numbers -/
def CSt (M : JM) (q c z : Nat) (S : Nat → Nat) : Prop := gi M q 1 = nI c ∧ gi M 32 14 = nI c ∧ c ≤ 8 ∧ gi M q 3 = nI z ∧ z ≤ 300 ∧ gi M 41 (nI c) = nI z ∧ S c = z ∧ ∀ r, r < c → gi M (q + 2) (nI r) = nI (S r) ∧ gi M 41 (nI r) = nI (S r) ∧ S r < S (r + 1)
theorem CSt.mono {M : JM} {q c z : Nat} {S : Nat → Nat} (h : CSt M q c z S) : ∀ d r, r + d ≤ c → S r + d ≤ S (r + d) := by
  intro d
  induction d with
  | zero => intro r _; simp
  | succ d ih =>
    intro r hd
    have h1 := ih r (by omega)
    have h2 := (h.2.2.2.2.2.2.2 (r + d) (by omega)).2.2
    rw [show r + (d + 1) = r + d + 1 by omega]
    omega
theorem CSt.le {M : JM} {q c z : Nat} {S : Nat → Nat} (h : CSt M q c z S) {r : Nat} (hr : r ≤ c) : S r ≤ z := by
  have h1 := h.mono (c - r) r (by omega)
  rw [show r + (c - r) = c by omega, h.2.2.2.2.2.2.1] at h1
  omega
theorem CSt.at {M : JM} {q c z : Nat} {S : Nat → Nat} (h : CSt M q c z S) {r : Nat} (hr : r ≤ c) : gi M 41 (nI r) = nI (S r) := by
  by_cases e : r = c
  · subst e; rw [h.2.2.2.2.2.2.1]; exact h.2.2.2.2.2.1
  · exact (h.2.2.2.2.2.2.2 r (by omega)).2.1
theorem BStr.st {M : JM} {q i : Nat} (hS : BStr M q i) (h1 : 1 ≤ gi M q 1) (h8 : gi M q 1 ≤ 8) (h14 : gi M q 1 = gi M 32 14) : ∃ c z S, CSt M q c z S ∧ 1 ≤ c := by
  obtain ⟨z, e1, z1⟩ := nI_ex (x := gi M q 3) (h := 300) (by have := hS.1.1; grind) hS.1.2 (by decide)
  obtain ⟨c, e2, c1⟩ := nI_ex (x := gi M q 1) (h := 8) (by grind) h8 (by decide)
  have hc1 : 1 ≤ c := by
    rw [e2] at h1
    exact (nI_leI (a := 1) (by decide) (by omega)).mp h1
  have key : ∀ r, r ≤ c → ∃ x : Nat, gi M 41 (nI r) = nI x ∧ x ≤ 300 := by
    intro r hr
    by_cases e : r = c
    · subst e
      exact ⟨z, by rw [← e2, hS.2.2.2.1, e1], z1⟩
    · obtain ⟨a1, a2, a3, a4⟩ := hS.2.2.1 (nI r) (nI_pos' (by omega)) (by rw [e2]; exact nI_lt (by omega) (by omega))
      obtain ⟨x, ex, hx⟩ := nI_ex (x := gi M 41 (nI r)) (h := 300) (by grind) (by have := hS.1.2; show _ ≤ (300 : Int32); grind) (by decide)
      exact ⟨x, ex, hx⟩
  refine ⟨c, z, fun r => (gi M 41 (nI r)).toNatClampNeg, ⟨e2, by rw [← h14, e2], c1, e1, z1, by rw [← e2, hS.2.2.2.1, e1], ?_, fun r hr => ?_⟩, hc1⟩
  · show (gi M 41 (nI c)).toNatClampNeg = z
    rw [← e2, hS.2.2.2.1, e1, nI_clamp (by omega)]
  · obtain ⟨x, ex, hx⟩ := key r (by omega)
    obtain ⟨y, ey, hy⟩ := key (r + 1) (by omega)
    obtain ⟨a1, a2, a3, a4⟩ := hS.2.2.1 (nI r) (nI_pos' (by omega)) (by rw [e2]; exact nI_lt (by omega) (by omega))
    rw [nI_p1] at a3 a4
    rw [ex] at a1
    rw [ex, ey] at a3
    show gi M (q + 2) (nI r) = nI ((gi M 41 (nI r)).toNatClampNeg) ∧ gi M 41 (nI r) = nI ((gi M 41 (nI r)).toNatClampNeg) ∧ (gi M 41 (nI r)).toNatClampNeg < (gi M 41 (nI (r + 1))).toNatClampNeg
    rw [ex, ey, nI_clamp (by omega), nI_clamp (by omega)]
    exact ⟨a1, rfl, (nI_ltI (by omega) (by omega)).mp a3⟩
abbrev cpB (v : Int32) (r : Nat) : Prop := (v >>> (nI r &&& 31)) &&& 1 = 0
/-- the bytes of the records that are left, and how many they are -/
def cpL (f : Int32 → Int32) (S : Nat → Nat) (v : Int32) : Nat → Nat → List Int32
  | 0, _ => []
  | k + 1, r => (if cpB v r then tak f (S (r + 1) - S r) (nI (S r)) else []) ++ cpL f S v k (r + 1)
def cpN (S : Nat → Nat) (v : Int32) : Nat → Nat → Nat
  | 0, _ => 0
  | k + 1, r => (if cpB v r then S (r + 1) - S r else 0) + cpN S v k (r + 1)
theorem cpL_len (f : Int32 → Int32) (S : Nat → Nat) (v : Int32) : ∀ k r, (cpL f S v k r).length = cpN S v k r := by
  intro k
  induction k with
  | zero => intro r; rfl
  | succ k ih =>
    intro r
    rw [cpL, cpN, List.length_append, ih]
    by_cases c : cpB v r
    · rw [if_pos c, if_pos c, tak_len]
    · rw [if_neg c, if_neg c]; rfl
theorem cpL_congr {f g : Int32 → Int32} {S : Nat → Nat} {v : Int32} : ∀ k r, (∀ r', r ≤ r' → r' < r + k → ∀ t, t < S (r' + 1) - S r' → f (nI (S r') + nI t) = g (nI (S r') + nI t)) → cpL f S v k r = cpL g S v k r := by
  intro k
  induction k with
  | zero => intro r _; rfl
  | succ k ih =>
    intro r h
    rw [cpL, cpL, ih (r + 1) (fun r' a b => h r' (by omega) (by omega)), tak_congr (f := f) (g := g) _ _ _ (fun t ht => h r (by omega) (by omega) t ht)]
theorem cpL_mem {f : Int32 → Int32} {S : Nat → Nat} {v x : Int32} : ∀ k r, x ∈ cpL f S v k r → ∃ r' t, r ≤ r' ∧ r' < r + k ∧ t < S (r' + 1) - S r' ∧ x = f (nI (S r') + nI t) := by
  intro k
  induction k with
  | zero => intro r h; cases h
  | succ k ih =>
    intro r h
    rw [cpL] at h
    rcases List.mem_append.mp h with h | h
    · by_cases c : cpB v r
      · rw [if_pos c] at h
        obtain ⟨t, h1, h2⟩ := tak_mem _ _ h
        exact ⟨r, t, by omega, by omega, h1, h2⟩
      · rw [if_neg c] at h; cases h
    · obtain ⟨r', t, h1, h2, h3, h4⟩ := ih _ h
      exact ⟨r', t, by omega, by omega, h3, h4⟩
theorem cpN_le {M : JM} {q c z : Nat} {S : Nat → Nat} (h : CSt M q c z S) (v : Int32) : ∀ k r, r + k = c → cpN S v k r + S r ≤ z := by
  intro k
  induction k with
  | zero => intro r hr; rw [cpN]; have := h.le (r := r) (by omega); omega
  | succ k ih =>
    intro r hr
    have h1 := ih (r + 1) (by omega)
    have h2 := h.mono 1 r (by omega)
    rw [cpN]
    split <;> omega
theorem bytesOf_eq {M : JM} (hr : RF (gr M)) {q c z : Nat} (hq : q = 5 ∨ q = 10) {S : Nat → Nat} (h : CSt M q c z S) {r : Nat} (hrc : r < c) : f_X0_bytesOf q (nI r) M = some (nI (S (r + 1) - S r), M) := by
  obtain ⟨h1, h2, h3, h4, h5, h6, h7, h8⟩ := h
  obtain ⟨a1, a2, a3⟩ := h8 r hrc
  have tail : ∀ u : Nat, S r ≤ u → f_X0_bytesOf_L25 q (nI r) (nI u) M = some (nI (u - S r), M) := by
    intro u hu
    unfold f_X0_bytesOf_L25
    rw [sv_e, (hr.rq hq).2.1, orf_e, (ln_q hq).2.1, if_pos (show 0 ≤ nI r ∧ nI r < 8 from ⟨nI_pos' (by omega), nI_lt (b := 8) (by omega) (by decide)⟩), a1, pk_sub hu]
  unfold f_X0_bytesOf
  rw [nI_p1, h1]
  by_cases c1 : r + 1 < c
  · rw [if_pos (nI_lt c1 (by omega)), (hr.rq hq).2.1, orf_e, (ln_q hq).2.1, if_pos (show 0 ≤ nI (r + 1) ∧ nI (r + 1) < 8 from ⟨nI_pos' (by omega), nI_lt (b := 8) (by omega) (by decide)⟩), (h8 (r + 1) c1).1, tail _ (by omega)]
  · rw [if_neg (Int32.not_lt.mpr (nI_le (by omega) (by omega))), h4, tail _ (by rw [← h7, show c = r + 1 by omega]; omega), ← h7, show c = r + 1 by omega]
theorem lp_without {M : JM} (hr : RF (gr M)) {q c z : Nat} (hq : q = 5 ∨ q = 10) {S : Nat → Nat} (h : CSt M q c z S) (v : Int32) : ∀ (n r a : Nat), r ≤ c → c - r < n → f_X0_bytesWithout_L4 n q v (nI a) (nI r) M = some (nI (a + cpN S v (c - r) r), M) := by
  intro n
  induction n with
  | zero => intro r a _ h; omega
  | succ n ih =>
    intro r a h1 h2
    have h8 := h.2.2.1
    rw [f_X0_bytesWithout_L4, h.1]
    by_cases hrc : r = c
    · subst hrc
      rw [if_neg Int32.lt_irrefl, Nat.sub_self, cpN, Nat.add_zero]
    · rw [if_pos (nI_lt (by omega) (by omega)), show c - r = c - (r + 1) + 1 by omega, cpN]
      unfold f_X0_bytesWithout_L28
      by_cases hb : cpB v r
      · rw [if_pos hb, if_pos hb, bytesOf_eq hr hq h (by omega), ob_e, nI_add, sv_e, sv_e, nI_p1, ih (r + 1) _ (by omega) (by omega), Nat.add_assoc]
      · rw [if_neg hb, if_neg hb, sv_e, nI_p1, ih (r + 1) _ (by omega) (by omega), Nat.zero_add]
theorem without_eq {M : JM} (hr : RF (gr M)) {q c z : Nat} (hq : q = 5 ∨ q = 10) {S : Nat → Nat} (h : CSt M q c z S) (v : Int32) : f_X0_bytesWithout q v M = some (nI (cpN S v c 0), M) := by
  have h8 := h.2.2.1
  unfold f_X0_bytesWithout
  rw [sv_e, sv_e]
  have := lp_without hr hq h v FU 0 0 (by omega) (by show _ < 4096; omega)
  rw [Nat.zero_add] at this
  exact this
theorem lp_ccopy {M : JM} (hr : RF (gr M)) {q c z : Nat} (hq : q = 5 ∨ q = 10) (h04 : gr M 0 4 = some q) {S : Nat → Nat} (h : CSt M q c z S) (v t : Int32) : ∀ (n r : Nat) (L : List Int32), r ≤ c → c - r < n → Rm (gi M 2 1) (L.length + cpN S v (c - r) r) → f_X7_copy_L86 n 0 v t (nI r) (aC M L) = some (t, aC M (L ++ cpL (gi M (q + 1)) S v (c - r) r)) := by
  intro n
  induction n with
  | zero => intro r L _ h; omega
  | succ n ih =>
    intro r L h1 h2 h3
    have hr1 : RF (gr (aC M L)) := hr
    have h041 : gr (aC M L) 0 4 = some q := h04
    have h8 := h.2.2.1
    have kq : ∀ k j, k ≠ 3 → k ≠ 2 → gi (aC M L) k j = gi M k j := fun k j x y => keep_aC x (fun q => y q.1)
    have hqa : ∀ d, d < 5 → gi (aC M L) (q + d) = gi M (q + d) := fun d _ => funext fun j => kq _ _ (by omega) (by omega)
    have hS1 : CSt (aC M L) q c z S := by
      obtain ⟨x1, x2, x3, x4, x5, x6, x7, x8⟩ := h
      exact ⟨by rw [kq q _ (by omega) (by omega)]; exact x1, by rw [kq 32 _ (by omega) (by omega)]; exact x2, x3, by rw [kq q _ (by omega) (by omega)]; exact x4, x5, by rw [kq 41 _ (by omega) (by omega)]; exact x6, x7, fun r hr => by rw [kq (q + 2) _ (by omega) (by omega), kq 41 _ (by omega) (by omega)]; exact x8 r hr⟩
    rw [f_X7_copy_L86, h041, orf_e, hS1.1]
    by_cases hrc : r = c
    · subst hrc
      rw [if_neg Int32.lt_irrefl, Nat.sub_self, cpL, List.append_nil]
    · rw [if_pos (nI_lt (by omega) (by omega))]
      rw [show c - r = c - (r + 1) + 1 by omega, cpN] at h3
      rw [show c - r = c - (r + 1) + 1 by omega, cpL]
      obtain ⟨a1, a2, a3⟩ := hS1.2.2.2.2.2.2.2 r (by omega)
      have a4 := h.le (r := r + 1) (by omega)
      have a5 := h.2.2.2.2.1
      unfold f_X7_copy_L140
      by_cases hb : cpB v r
      · rw [if_pos hb] at h3
        have hlq : ln (q + 1) = nI (shp (q + 1)).2 := by rcases hq with rfl | rfl <;> rfl
        have hsq : (shp (q + 1)).2 = 300 := by rcases hq with rfl | rfl <;> rfl
        have hp := lp_putAll hr (q + 1) (S r) (S (r + 1) - S r) ⟨by omega, by omega⟩ hlq (by rw [hsq]; omega) FU 0 L (by omega) (by show _ < 4096; omega) (h3.le (by omega))
        simp only [Nat.add_zero, Nat.sub_zero] at hp
        rw [if_pos hb, if_pos hb, hr1.r0_2, orf_e, orf_e, (hr1.rq hq).1, orf_e, orf_e, (hr1.rq hq).2.1, orf_e, (ln_q hq).2.1, if_pos (show 0 ≤ nI r ∧ nI r < 8 from ⟨nI_pos' (by omega), nI_lt (b := 8) (by omega) (by decide)⟩), orf_e, bytesOf_eq hr1 hq hS1 (by omega), ob_e, a1]
        unfold f_X4_putAll
        rw [sv_e, hp, ob_e, sv_e, nI_p1, ← List.append_assoc]
        exact ih (r + 1) _ (by omega) (by omega) (by rw [List.length_append, tak_len]; exact h3.le (by omega))
      · rw [if_neg hb] at h3
        rw [if_neg hb, if_neg hb, sv_e, nI_p1, List.nil_append]
        exact ih (r + 1) L (by omega) (by omega) (h3.le (by omega))
