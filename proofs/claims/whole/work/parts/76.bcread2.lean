/-! PURE PART: read, the class: both ends -/
theorem cread_go {M : JM} (hr : RF (gr M)) {q : Nat} (hq : q = 5 ∨ q = 10) (h05 : gr M 0 5 = some q) (hw : gi M 2 1 ≠ 0) {C : JM} {n f u : Int32} (hgC : ∀ k j, ¬ (k = 4 ∧ j = 1) → gr C k j = gr M k j) (e : f_X7_passBlock 0 (rdM (si (clM M q) 4 3 (gi M 2 1)) 0 0 (gi (clM M q) 4 5)) = some ((), rdM C n f u)) :
    (f ≠ 0 → f_X7_read 0 M = some (-100 - u, si (rdM C n f u) 0 8 f)) ∧ (f = 0 → f_X7_read 0 M = ob (f_X0_keepBytes q 3 (gi C 4 3) (si (rdM C n 0 u) 0 8 0)) fun _ M18 => orf (gr M18 0 2) fun r20 => orf (gr M18 0 3) fun r21 => ob (f_X4_dropFirst r20 (gi M18 r21 3) M18) fun _ M22 => orf (gr M22 0 4) fun r24 => orf (gr M22 0 5) fun r25 => sq (sr M22 0 4 (some r25)) fun M26 => sq (sr M26 0 5 (some r24)) fun M28 => sq (si M28 0 9 ((gi M28 0 9) + (1 : Int32))) fun M30 => orf (gr M30 0 4) fun r32 => some ((gi M30 r32 1), M30)) := by
  have hrC : RF (gr C) := hr.ofr (fun k j a _ => hgC k j a) (fun j _ _ => hgC 0 j (by omega))
  have h05C : gr C 0 5 = some q := by rw [hgC 0 5 (by omega)]; exact h05
  have hgcl : gr (clM M q) = gr M := rfl
  have h8 : gi (si (rdM C n f u) 0 8 f) 0 8 = f := by rw [gi_si, if_pos ⟨rfl, rfl⟩]
  unfold f_X7_read
  rw [hr.r0_2, orf_e, if_neg hw, h05, orf_e, clear_eq hr hq, ob_e, hgcl, hr.r0_3, orf_e, hr.r0_2, orf_e, cl_k (by omega) (by omega), st_eq, ob_e, e, ob_e, Gr_rd, hrC.r0_3, orf_e, rd4, sq_e, h8]
  constructor
  · intro hf
    rw [if_neg hf, Gr_si, Gr_rd, hrC.r0_3, orf_e, gi_si, if_neg (by decide), rd5]
  · intro hf
    subst hf
    rw [if_pos rfl, Gr_si, Gr_rd, h05C, orf_e, hrC.r0_2, orf_e, hrC.r2_0, orf_e, hrC.r0_3, orf_e, gi_si, if_neg (by decide), rd3]
/-- what the bytes ahead of the tape are when a block of z bytes goes -/
def Tz (M : JM) (z : Nat) : Int32 → Int32 := fun j => if 0 ≤ j ∧ j < nI z then gi M 3 j else gi M 40 j
theorem Tz_at {M : JM} {z j : Nat} (hj : j < z) (hz : z ≤ 300) : Tz M z (nI j) = gi M 3 (nI j) := if_pos ⟨nI_pos' (by omega), nI_lt hj (by omega)⟩
theorem cItem_of {M B : JM} {i : Nat} (h : ∀ k j, 61 ≤ k → gi B k j = gi M k j) (T : Int32 → Int32) (e p a : Int32) : cItem B i T e p a = cItem M i T e p a := cItem.congr (fun j => h _ j (by omega)) (fun j => h _ j (by omega)) (fun j => h _ j (by omega)) T e p a
theorem BkT_of {M B : JM} {i : Nat} (h : ∀ k j, 61 ≤ k → gi B k j = gi M k j) (T : Int32 → Int32) (z c : Nat) (S N : Nat → Nat) (PP : Nat → Nat → Nat) : BkT B i T z c S N PP ↔ BkT M i T z c S N PP := by
  have e2 : ∀ t, gi B (62 + 4 * i) t = gi M (62 + 4 * i) t := fun t => h _ t (by omega)
  unfold BkT RcOk RcHd Trc kMis
  simp only [cItem_of h, e2]
theorem BkBad_of {M B : JM} {i : Nat} (h : ∀ k j, 61 ≤ k → gi B k j = gi M k j) (T : Int32 → Int32) (z : Nat) (f u : Int32) : BkBad B i T z f u ↔ BkBad M i T z f u := by
  have e2 : ∀ t, gi B (62 + 4 * i) t = gi M (62 + 4 * i) t := fun t => h _ t (by omega)
  unfold BkBad RcBad nin
  simp only [BkT_of h]
  unfold RcHd Trc kMis
  simp only [cItem_of h, e2]
def FrB (q : Nat) (M M1 : JM) (f : Int32) : Prop := (∀ k j, ¬ (k = 4 ∧ j = 1) → gr M1 k j = gr M k j) ∧ gn M1 = gn M ∧ (∀ k j, ¬ (q ≤ k ∧ k ≤ q + 4) → k ≠ 4 → ¬ (k = 0 ∧ j = 8) → gi M1 k j = gi M k j) ∧ gi M1 0 8 = f
/-- what a read comes to -/
def RdBad (M : JM) (c : Nat) (f u : Int32) : Prop := (idxM M c = -9 ∧ f = 1 ∧ u = 0) ∨ (∃ i, i < c ∧ idxM M c = nI i ∧ (lenM M < 4 ∨ gi M 2 1 < lenM M) ∧ f = 2 ∧ u = 1) ∨ (∃ i z : Nat, i < c ∧ idxM M c = nI i ∧ lenM M = nI z ∧ 4 ≤ z ∧ z ≤ 300 ∧ nI z ≤ gi M 2 1 ∧ BkBad M i (Tz M z) z f u)
def RdOk (M : JM) (c i z cc : Nat) (S N : Nat → Nat) (PP : Nat → Nat → Nat) : Prop := i < c ∧ idxM M c = nI i ∧ lenM M = nI z ∧ 4 ≤ z ∧ z ≤ 300 ∧ nI z ≤ gi M 2 1 ∧ 1 ≤ cc ∧ cc ≤ 8 ∧ BkT M i (Tz M z) z cc S N PP ∧ S cc = z
theorem bg_base {M : JM} (hr : RF (gr M)) {c : Nat} (hc3 : c ≤ 3) (ht : ∀ i, i < c → ICat M i) {q : Nat} (hq : q = 5 ∨ q = 10) {i z : Nat} (hi : i < c) (hz : z ≤ 300) : RdC (bgM M q i (nI z)) (Tz M z) z ∧ ICat (bgM M q i (nI z)) i ∧ gr (bgM M q i (nI z)) 4 1 = some (61 + 4 * i) := by
  refine ⟨⟨hr.ofr (fun k j a _ => bg_r a) (fun j _ _ => bg_r (by omega)), ?_, hz, fun j hj => ?_⟩, ITab.keep hc3 ht (fun k j hk => bg_r (by omega)) (fun k j hk => bg_k (by omega) (by omega) (by omega)) i hi, ?_⟩
  · unfold bgM
    rw [gi_si, if_pos ⟨rfl, rfl⟩]
  · rw [bg_k (by omega) (by omega) (by omega), Tz_at hj hz]
  · unfold bgM
    rw [gr_si, gr_sr, if_pos ⟨rfl, rfl⟩]
theorem bg_cnt {M : JM} {q : Nat} (hq : q = 5 ∨ q = 10) (i : Nat) (v : Int32) : gi (bgM M q i v) q 1 = 0 ∧ gi (bgM M q i v) q 0 = nI i ∧ ∀ r', r' < 8 → ∀ t, t < 21 → gi (bgM M q i v) (q + 4) (nI (21 * r' + t)) = 0 := by
  unfold bgM
  refine ⟨?_, ?_, fun r' a t b => ?_⟩
  · rw [gi_si, if_neg (by omega), gi_sr, gi_si, if_neg (fun x => absurd x.2 (by decide)), cl_1]
  · rw [gi_si, if_neg (by omega), gi_sr, gi_si, if_pos ⟨rfl, rfl⟩]
  · rw [gi_si, if_neg (by omega), gi_sr, gi_si, if_neg (by omega), cl_0 a b]
theorem cread_bad {M : JM} (hr : RF (gr M)) {c : Nat} (hc3 : c ≤ 3) (hc : gi M 0 1 = nI c) (ht : ∀ i, i < c → ICat M i) {q : Nat} (hq : q = 5 ∨ q = 10) (h05 : gr M 0 5 = some q) (hw0 : gi M 2 1 ≠ 0) {f u : Int32} (hB : RdBad M c f u) : f ≠ 0 ∧ ∃ M1, f_X7_read 0 M = some (-100 - u, M1) ∧ FrB q M M1 f := by
  obtain ⟨p1, p2, p3⟩ := cpb_eq hr hc3 hc ht hq h05 (gi (clM M q) 4 5)
  have k1 : ∀ k j, ¬ (q ≤ k ∧ k ≤ q + 4) → k ≠ 4 → gi (si (clM M q) 4 3 (gi M 2 1)) k j = gi M k j := fun k j a b => by
    rw [gi_si, if_neg (fun x => b x.1), cl_k (by omega) (by omega)]
  have fin : ∀ (C : JM) (n : Int32), f ≠ 0 → (∀ k j, ¬ (k = 4 ∧ j = 1) → gr C k j = gr M k j) → gn C = gn M → (∀ k j, ¬ (q ≤ k ∧ k ≤ q + 4) → k ≠ 4 → gi C k j = gi M k j) → f_X7_passBlock 0 (rdM (si (clM M q) 4 3 (gi M 2 1)) 0 0 (gi (clM M q) 4 5)) = some ((), rdM C n f u) → f ≠ 0 ∧ ∃ M1, f_X7_read 0 M = some (-100 - u, M1) ∧ FrB q M M1 f := by
    intro C n hf hg hn hk e
    refine ⟨hf, _, (cread_go hr hq h05 hw0 hg e).1 hf, fun k j a => hg k j a, hn, fun k j a b d => ?_, ?_⟩
    · rw [gi_si, if_neg d, rd_k b, hk k j a b]
    · rw [gi_si, if_pos ⟨rfl, rfl⟩]
  rcases hB with ⟨a, rfl, rfl⟩ | ⟨i, a, b, d, rfl, rfl⟩ | ⟨i, z, a, b, d, z4, hz3, zw, hB⟩
  · exact fin (si (clM M q) 4 3 (gi M 2 1)) 0 (by decide) (fun _ _ _ => rfl) rfl k1 (p1 a)
  · exact fin (si (clM M q) 4 3 (gi M 2 1)) 0 (by decide) (fun _ _ _ => rfl) rfl k1 (p2 i a b d)
  · have e := p3 i a b (by rw [d]; exact Int32.not_lt.mpr (nI_le (a := 4) z4 (by omega))) (by rw [d]; exact Int32.not_lt.mpr zw)
    obtain ⟨b1, b2, b3⟩ := bg_base hr hc3 ht hq (q := q) a hz3
    obtain ⟨x1, x2, x3⟩ := bg_cnt (M := M) hq i (nI z)
    have hB' := (BkBad_of (B := bgM M q i (nI z)) (fun k j hk => bg_k (by omega) (by omega) (by omega)) (Tz M z) z f u).mpr hB
    obtain ⟨hf, C', n', f1, f2⟩ := cblk_bad b1 (gi (clM M q) 4 5) (by omega) b2 b3 hq (by rw [bg_r (by omega)]; exact h05) x1 x3 hB'
    rw [d, f1] at e
    exact fin C' n' hf (fun k j g => by rw [f2.1]; exact bg_r g) (by rw [f2.2.1]; rfl) (fun k j g1 g2 => by rw [f2.2.2 k j g1]; exact bg_k (by omega) (by omega) g2) e
