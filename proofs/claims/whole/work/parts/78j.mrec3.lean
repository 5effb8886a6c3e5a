/-! PURE PART: the reference's record, whole -/
theorem kMis_mr {M D : JM} (h : MR M D) (i : Nat) : kMis D i = kMis M i := funext fun t => by
  show decide (gi D (62 + 4 * i) (t + 1) = -9) = decide (gi M (62 + 4 * i) (t + 1) = -9)
  rw [h.2.2 _ _ (by omega) (by omega) (by omega)]
theorem l147_d {E : JM} {v1 v2 n g u : Int32} (hg : g ≠ 0) : f_X8_readRecord_L147 32 v1 v2 (mdM E n g u) = some ((), mdM E n g u) := by
  unfold f_X8_readRecord_L147
  rw [md11, if_neg hg]
theorem mrec_ok {M : JM} {T : Int32 → Int32} {z : Nat} (h : RdD M T z) (p0 : Int32) {i : Nat} (hi : i < 3) (hc : ICat M i) {r : Nat} (h8 : r < 8) {x nb : Nat} {P : Nat → Nat} (hO : RcOk M i T z x nb P) {D : JM} (hD : MR M D) (h20 : gi D 32 20 = nI r) :
    ∃ E', f_X8_readRecord 32 (nI i) (mdM D (nI x) 0 p0) = some ((), mdM E' (nI (P 21)) 0 p0) ∧ MR M E' ∧ gi E' 32 20 = nI (r + 1) ∧ gi E' 44 (nI (r + 1)) = nI (P 21) ∧ gi E' 44 (nI r) = nI x ∧ (∀ t, t < r → gi E' 44 (nI t) = gi D 44 (nI t)) ∧ (∀ t, t < 21 → gi E' 45 (nI (22 * r + t + 1)) = nI (P t) ∧ gi E' 46 (nI (22 * r + t + 1)) = nI (P (t + 1) - P t)) ∧ ∀ t, t < 176 → (t < 22 * r + 1 ∨ 22 * r + 22 ≤ t) → gi E' 45 (nI t) = gi D 45 (nI t) ∧ gi E' 46 (nI t) = gi D 46 (nI t) := by
  obtain ⟨hH, hP0, hT⟩ := hO
  have hH0 := hH
  obtain ⟨n1, n3, nz, hs, hm⟩ := hH
  have hz := h.2.2.1
  obtain ⟨D', n', f, p, b, a1, a2, ⟨a3, a4, a5⟩, a6, -, a8⟩ := mbits_eq (hD.rdd h) p0 (most := 3) (x := x) (by decide) (by decide) (by omega)
  rw [hs] at a8
  obtain ⟨e1, rfl, rfl, rfl⟩ := a8
  have hbb : b = nb := by have := nI_inj (by omega) (by omega) e1; omega
  subst hbb
  have a1 : f_X8_readBits 32 3 (mdM D (nI x) 0 p) = some ((), mdM D' (nI (x + b)) 0 p) := a1
  have hD' : MR M D' := hD.trans a2.mr
  have hr' : RF (gr D') := by rw [hD'.1]; exact h.1
  have h20' : gi D' 32 20 = nI r := by rw [a2.2.2 32 20 (by omega) (by decide)]; exact h20
  obtain ⟨-, hn, -⟩ := lp_names hr' hi (hD'.cat hc) (x := x) (p0 := p) (v3 := 0) (y := nI (x + b)) (B := bs T (nI x) (nI b)) (Bf := bs T (nI x) (nI b)) a5 (fun t ht => by simp) FU 0 (by omega) (by show _ < 4096; omega)
  rw [kMis_mr hD', Nat.sub_zero, Nat.zero_add, ow_0] at hn
  have hn := hn hm
  have hE : MR M (ow D' 60 (nI 1) (nI 22) (gi D' 47)) := hD'.ow _ _ _
  have hrE : RF (gr (ow D' 60 (nI 1) (nI 22) (gi D' 47))) := hr'
  have kE : ∀ k j, k ≠ 60 → gi (ow D' 60 (nI 1) (nI 22) (gi D' 47)) k j = gi D' k j := fun k j a => by rw [gi_ow, if_neg (fun y => a y.1)]
  have e60 : ∀ t, t < 21 → gi (ow D' 60 (nI 1) (nI 22) (gi D' 47)) 60 (nI (t + 1)) = bI (bs T (nI x) (nI b) (nI t)) := fun t ht => by
    rw [gi_ow, if_pos ⟨rfl, nI_le (by omega) (by omega), nI_lt (by omega) (by omega)⟩]; exact a5 t ht
  generalize hEE : ow D' 60 (nI 1) (nI 22) (gi D' 47) = E at *
  have hE1 : MR M (si E 44 (nI r) (nI x)) := hE.si (Or.inl (by omega))
  have k1 : ∀ k j, k ≠ 44 → gi (si E 44 (nI r) (nI x)) k j = gi E k j := fun k j a => by rw [gi_si, if_neg (fun y => a y.1)]
  obtain ⟨E', g1, g2, g3, g4, g5, g6, g7⟩ := lp_mrec_ok h p hi hc h8 (B := bs T (nI x) (nI b)) (P := P) (by omega) hT hH0.kind FU 0 (si E 44 (nI r) (nI x)) (by omega) (by show _ < 4096; omega) hE1 (by rw [k1 32 _ (by decide), kE 32 _ (by decide)]; exact h20') (fun t ht => by rw [k1 60 _ (by decide)]; exact e60 t ht)
  refine ⟨E', ?_, g2, g3, g4, ?_, fun t ht => ?_, fun t ht => g6 t (by omega) ht, fun t ht ht2 => ?_⟩
  · unfold f_X8_readRecord f_X8_readRecord_L24 f_X8_readRecord_L54
    rw [md9, sv_e, a1, ob_e, md_k (by decide), h20', if_neg (show ¬ nI r = 8 from fun y => by have := nI_inj (a := r) (c := 8) (by omega) (by decide) y; omega), sv_e, if_pos (show (0 : Int32) = 0 from rfl), sv_e]
    refine hn.trans ?_
    unfold f_X8_readRecord_L136 f_X8_readRecord_L147
    rw [if_pos (show (0 : Int32) = 0 from rfl), md11, if_pos (show (0 : Int32) = 0 from rfl), Gr_md, hrE.r32_21, orf_e, md_k (by decide), kE 32 _ (by decide), h20', ln_44, if_pos (show 0 ≤ nI r ∧ nI r < 9 from ⟨nI_pos' (by omega), nI_lt (b := 9) (by omega) (by decide)⟩), sq_e, md_si (by omega), sv_e, ← hP0]
    exact g1
  · rw [g5 r (by omega), gi_si, if_pos ⟨rfl, rfl⟩]
  · rw [g5 t (by omega), gi_si, if_neg (fun y => by have := nI_inj (by omega) (by omega) y.2; omega), kE 44 _ (by decide), a2.2.2 44 _ (by decide) (by omega)]
  · obtain ⟨y1, y2⟩ := g7 t ht (by omega)
    rw [y1, y2, k1 45 _ (by decide), k1 46 _ (by decide), kE 45 _ (by decide), kE 46 _ (by decide), a2.2.2 45 _ (by decide) (by omega), a2.2.2 46 _ (by decide) (by omega)]
    exact ⟨rfl, rfl⟩
theorem mrec_bad {M : JM} {T : Int32 → Int32} {z : Nat} (h : RdD M T z) (p0 : Int32) {i : Nat} (hi : i < 3) (hc : ICat M i) {r : Nat} (h8 : r < 8) {x : Nat} (hx : x ≤ z) {f u : Int32} (hO : RcBad M i T z x f u) {D : JM} (hD : MR M D) (h20 : gi D 32 20 = nI r) :
    ∃ E' n', f_X8_readRecord 32 (nI i) (mdM D (nI x) 0 p0) = some ((), mdM E' n' f u) ∧ MR M E' := by
  obtain ⟨hF, hO⟩ := hO
  have hz := h.2.2.1
  obtain ⟨D', n', f', p', b, a1, a2, ⟨a3, a4, a5⟩, a6, -, a8⟩ := mbits_eq (hD.rdd h) p0 (most := 3) (x := x) (by decide) (by decide) hx
  have a1 : f_X8_readBits 32 3 (mdM D (nI x) 0 p0) = some ((), mdM D' n' f' p') := a1
  have hD' : MR M D' := hD.trans a2.mr
  have hr' : RF (gr D') := by rw [hD'.1]; exact h.1
  have h20' : gi D' 32 20 = nI r := by rw [a2.2.2 32 20 (by omega) (by decide)]; exact h20
  have hE : MR M (ow D' 60 (nI 1) (nI 22) (gi D' 47)) := hD'.ow _ _ _
  have hrE : RF (gr (ow D' 60 (nI 1) (nI 22) (gi D' 47))) := hr'
  have kE : ∀ k j, k ≠ 60 → gi (ow D' 60 (nI 1) (nI 22) (gi D' 47)) k j = gi D' k j := fun k j a => by rw [gi_ow, if_neg (fun y => a y.1)]
  have hnames := lp_names hr' hi (hD'.cat hc) (x := x) (p0 := p0) (v3 := 0) (y := n') (B := bs T (nI x) (nI b)) (Bf := bs T (nI x) (nI b)) a5 (fun t ht => by simp) FU 0 (by omega) (by show _ < 4096; omega)
  rw [kMis_mr hD', Nat.sub_zero, Nat.zero_add, ow_0] at hnames
  have hhead : f_X8_readRecord 32 (nI i) (mdM D (nI x) 0 p0) = f_X8_readRecord_L57 FU 32 (nI i) (nI x) 0 (nI 1) (mdM D' n' f' p') := by
    unfold f_X8_readRecord f_X8_readRecord_L24 f_X8_readRecord_L54
    rw [md9, sv_e, a1, ob_e, md_k (by decide), h20', if_neg (show ¬ nI r = 8 from fun y => by have := nI_inj (a := r) (c := 8) (by omega) (by decide) y; omega), sv_e, if_pos (show (0 : Int32) = 0 from rfl), sv_e]
    rfl
  rw [hhead]
  rcases hO with hs | ⟨nb, n1, n3, nz, hs, hm, hf5⟩ | ⟨nb, P, mb, hH, hP0, hm21, hT, hB, hbad⟩
  · rw [hs] at a8
    obtain ⟨rfl, rfl, -⟩ := a8
    refine ⟨_, n', (hnames.1 f' p' hF).trans ?_, hE⟩
    unfold f_X8_readRecord_L136
    rw [if_pos rfl, l147_d hF]
  · rw [hs] at a8
    obtain ⟨e1, rfl, rfl, rfl⟩ := a8
    have hbb : b = nb := by have := nI_inj (by omega) (by omega) e1; omega
    subst hbb
    refine ⟨_, nI (x + b), (hnames.2.2 u hm).trans ?_, hE⟩
    subst hf5
    unfold f_X8_readRecord_L136
    rw [if_pos rfl, l147_d (by decide)]
  · obtain ⟨n1, n3, nz, hs, hm⟩ := id hH
    rw [hs] at a8
    obtain ⟨e1, rfl, rfl, rfl⟩ := a8
    have hbb : b = nb := by have := nI_inj (by omega) (by omega) e1; omega
    subst hbb
    have e60 : ∀ t, t < 21 → gi (ow D' 60 (nI 1) (nI 22) (gi D' 47)) 60 (nI (t + 1)) = bI (bs T (nI x) (nI b) (nI t)) := fun t ht => by
      rw [gi_ow, if_pos ⟨rfl, nI_le (by omega) (by omega), nI_lt (by omega) (by omega)⟩]; exact a5 t ht
    have hn := hnames.2.1 hm
    generalize hEE : ow D' 60 (nI 1) (nI 22) (gi D' 47) = E at *
    have hE1 : MR M (si E 44 (nI r) (nI x)) := hE.si (Or.inl (by omega))
    have k1 : ∀ k j, k ≠ 44 → gi (si E 44 (nI r) (nI x)) k j = gi E k j := fun k j a => by rw [gi_si, if_neg (fun y => a y.1)]
    obtain ⟨E', n2, g1, g2⟩ := lp_mrec_bad h p' hi hc h8 (B := bs T (nI x) (nI b)) (P := P) (by omega) hm21 hT hB hF hbad hH.kind FU 0 (si E 44 (nI r) (nI x)) (by omega) (by show _ < 4096; omega) hE1 (by rw [k1 32 _ (by decide), kE 32 _ (by decide)]; exact h20') (fun t ht => by rw [k1 60 _ (by decide)]; exact e60 t ht)
    refine ⟨E', n2, hn.trans ?_, g2⟩
    unfold f_X8_readRecord_L136 f_X8_readRecord_L147
    rw [if_pos (show (0 : Int32) = 0 from rfl), md11, if_pos (show (0 : Int32) = 0 from rfl), Gr_md, hrE.r32_21, orf_e, md_k (by decide), kE 32 _ (by decide), h20', ln_44, if_pos (show 0 ≤ nI r ∧ nI r < 9 from ⟨nI_pos' (by omega), nI_lt (b := 9) (by omega) (by decide)⟩), sq_e, md_si (by omega), sv_e, ← hP0]
    exact g1
theorem sBits_pl {T : Int32 → Int32} {z : Nat} (hz : z ≤ 300) : ∀ (k a : Nat) (q : Int32 × Int32), a ≤ z → sBits T (nI z) (k + 1) (nI a) = .inr q → ∃ u : Nat, q.2 = nI u ∧ a ≤ u ∧ u ≤ z := by
  intro k
  induction k with
  | zero =>
    intro a q ha h
    rw [sBits] at h
    split at h
    · split at h
      · rw [if_pos rfl] at h
        exact ⟨a, by rw [← Sum.inr.inj h], by omega, ha⟩
      · split at h
        · exact ⟨a, by rw [← Sum.inr.inj h], by omega, ha⟩
        · cases h
    · exact ⟨z, by rw [← Sum.inr.inj h], ha, by omega⟩
  | succ k ih =>
    intro a q ha h
    rw [sBits] at h
    split at h
    · rename_i g1
      have g1' := (nI_ltI (by omega) (by omega)).mp g1
      split at h
      · rw [if_neg (by omega), nI_p1] at h
        obtain ⟨u, b1, b2, b3⟩ := ih (a + 1) q (by omega) h
        exact ⟨u, b1, by omega, b3⟩
      · split at h
        · exact ⟨a, by rw [← Sum.inr.inj h], by omega, ha⟩
        · cases h
    · exact ⟨z, by rw [← Sum.inr.inj h], ha, by omega⟩
theorem mnin_tail {M : JM} (hr : RF (gr M)) {T : Int32 → Int32} {i : Nat} (hi : i < 3) (hc : ICat M i) {x b : Nat} (hb1 : 1 ≤ b) (hb3 : b ≤ 3) (h0 : T (nI x) ≠ 0) {D : JM} (hD : MR M D) (h47 : ∀ t, t < 21 → gi D 47 (nI (t + 1)) = bI (bs T (nI x) (nI b) (nI t))) (n p : Int32) : ∃ E', f_X8_readRecord_L54 32 (nI i) (nI x) 1 (mdM D n 0 p) = some ((), mdM E' n (nin M i T x).1 (nin M i T x).2) ∧ MR M E' := by
  have hrD : RF (gr D) := by rw [hD.1]; exact hr
  have hnames := lp_names hrD hi (hD.cat hc) (x := x) (p0 := p) (v3 := 1) (y := n) (B := bs T (nI x) (nI b)) (Bf := bs T (nI x) (nI 1)) h47 (fun t ht => by
    by_cases h7 : t < 7
    · rw [bs_in (by omega) (by decide), bs_in (by omega) (by omega), decide_eq_true h7, Bool.or_true, Bool.and_true]
    · rw [bs_out (by omega) (by omega), decide_eq_false h7, decide_eq_false (show ¬ (1 : Int32) = 0 by decide), Bool.or_false, Bool.and_false]) FU 0 (by omega) (by show _ < 4096; omega)
  rw [kMis_mr hD, Nat.sub_zero, Nat.zero_add, ow_0] at hnames
  obtain ⟨-, m1, m2⟩ := hnames
  have m1 : sMiss (bs T (nI x) (nI 1)) (kMis M i) (nI x) 21 0 = none → _ := m1
  have m2 : ∀ u, sMiss (bs T (nI x) (nI 1)) (kMis M i) (nI x) 21 0 = some u → _ := m2
  refine ⟨ow D 60 (nI 1) (nI 22) (gi D 47), ?_, hD.ow _ _ _⟩
  unfold f_X8_readRecord_L54 nin
  rw [sv_e, if_neg h0]
  generalize sMiss (bs T (nI x) (nI 1)) (kMis M i) (nI x) 21 0 = Q at m1 m2
  cases Q with
  | none =>
    refine (m1 rfl).trans ?_
    unfold f_X8_readRecord_L136
    rw [if_neg (by decide), fails_y, ob_e, l147_d (by decide)]
  | some u =>
    refine (m2 u rfl).trans ?_
    unfold f_X8_readRecord_L136
    rw [if_neg (by decide), fails_n (by decide), ob_e, l147_d (by decide)]
theorem mrec_nin {M : JM} {T : Int32 → Int32} {z : Nat} (h : RdD M T z) (p0 : Int32) {i : Nat} (hi : i < 3) (hc : ICat M i) {x : Nat} (hx : x < z) {D : JM} (hD : MR M D) (h20 : gi D 32 20 = 8) :
    ∃ E' n', f_X8_readRecord 32 (nI i) (mdM D (nI x) 0 p0) = some ((), mdM E' n' (nin M i T x).1 (nin M i T x).2) ∧ MR M E' := by
  have hz := h.2.2.1
  obtain ⟨D', n', f, p, b, a1, a2, ⟨a3, a4, a5⟩, a6, a7, a8⟩ := mbits_eq (hD.rdd h) p0 (most := 3) (x := x) (by decide) (by decide) (by omega)
  have a1 : f_X8_readBits 32 3 (mdM D (nI x) 0 p0) = some ((), mdM D' n' f p) := a1
  have a7 := a7 hx
  have hD' : MR M D' := hD.trans a2.mr
  have hr' : RF (gr D') := by rw [hD'.1]; exact h.1
  have h20' : gi D' 32 20 = 8 := by rw [a2.2.2 32 20 (by omega) (by decide)]; exact h20
  have hhead : f_X8_readRecord 32 (nI i) (mdM D (nI x) 0 p0) = if f = 0 then f_X8_readRecord_L54 32 (nI i) (nI x) 1 (mdM D' n' f p) else if nI x < p then f_X8_readRecord_L54 32 (nI i) (nI x) 1 (mdM (si D' 32 44 1) n' 0 p) else f_X8_readRecord_L54 32 (nI i) (nI x) 1 (mdM D' n' f p) := by
    unfold f_X8_readRecord f_X8_readRecord_L24
    rw [md9, sv_e, a1, ob_e, md_k (by decide), h20', if_pos rfl, sv_e, if_neg (show ¬ (1 : Int32) = 0 by decide), md11, md12, sq_e, sq_e, md_f1, md_si (by decide)]
  rw [hhead]
  by_cases hT0 : T (nI x) = 0
  · have hs : sBits T (nI z) 3 (nI x) = .inr (4, nI x) := by
      rw [sBits, if_pos (nI_lt hx (by omega)), hT0, if_neg (by decide), if_pos rfl]
    rw [hs] at a8
    obtain ⟨rfl, rfl, -⟩ := a8
    have hnames := lp_names hr' hi (hD'.cat hc) (x := x) (p0 := p0) (v3 := 1) (y := n') (B := bs T (nI x) (nI b)) (Bf := bs T (nI x) (nI 1)) a5 (fun t ht => by
      by_cases h7 : t < 7
      · rw [bs_in (by omega) (by decide), bs_in (by omega) (by omega), decide_eq_true h7, Bool.or_true, Bool.and_true]
      · rw [bs_out (by omega) (by omega), decide_eq_false h7, decide_eq_false (show ¬ (1 : Int32) = 0 by decide), Bool.or_false, Bool.and_false]) FU 0 (by omega) (by show _ < 4096; omega)
    rw [Nat.zero_add, ow_0] at hnames
    refine ⟨ow D' 60 (nI 1) (nI 22) (gi D' 47), n', ?_, hD'.ow _ _ _⟩
    unfold nin
    rw [if_pos hT0, if_neg (show ¬ (4 : Int32) = 0 by decide), if_neg Int32.lt_irrefl]
    unfold f_X8_readRecord_L54
    rw [sv_e]
    refine (hnames.1 4 (nI x) (by decide)).trans ?_
    unfold f_X8_readRecord_L136
    rw [if_neg (by decide), fails_n (by decide), ob_e, l147_d (by decide)]
  · by_cases hf : f = 0
    · subst hf
      rw [if_pos rfl]
      obtain ⟨E', g1, g2⟩ := mnin_tail h.1 hi hc (by omega) a6 hT0 hD' a5 n' p
      exact ⟨E', n', g1, g2⟩
    · have hp : nI x < p := by
        cases hR : sBits T (nI z) 3 (nI x) with
        | inl a =>
          rw [hR] at a8
          exact absurd a8.2.2.1 hf
        | inr q =>
          rw [hR] at a8
          rw [a8.2.1]
          rw [sBits, if_pos (nI_lt hx (by omega))] at hR
          split at hR
          · rw [if_neg (by decide), nI_p1] at hR
            obtain ⟨u, b1, b2, b3⟩ := sBits_pl hz 1 (x + 1) q (by omega) hR
            rw [b1]
            exact nI_lt (by omega) (by omega)
          · cases hR
      rw [if_neg hf, if_pos hp]
      obtain ⟨E', g1, g2⟩ := mnin_tail h.1 hi hc (by omega) a6 hT0 (hD'.si (k := 32) (j := 44) (v := 1) (Or.inr (Or.inr ⟨rfl, Or.inr (Or.inr rfl)⟩))) (fun t ht => by rw [gi_si, if_neg (by omega)]; exact a5 t ht) n' p
      exact ⟨E', n', g1, g2⟩
