/-! PURE PART: report: the tracks -/
def mTl (N X Y : Int32) (D : JM) : Option (Int32 × JM) := ob (f_X8_trackOf 32 N D) fun r39 M37 => sv r39 fun i40 => if i40 < 0 then (if (gi M37 32 28) = (12 : Int32) then (sq (si M37 32 39 ((gi M37 32 39) + (1 : Int32))) fun M88 => some ((-9 : Int32), M88)) else (sv (gi M37 32 28) fun i73 => sq (si M37 32 28 ((gi M37 32 28) + (1 : Int32))) fun M74 => orf (gr M74 32 29) fun r76 => if 0 ≤ i73 ∧ i73 < ln r76 then (sq (si M74 r76 i73 N) fun M77 => orf (gr M77 32 32) fun r79 => if 0 ≤ i73 ∧ i73 < ln r79 then (sq (si M77 r79 i73 (0 : Int32)) fun M80 => orf (gr M80 32 33) fun r82 => if 0 ≤ i73 ∧ i73 < ln r82 then (sq (si M80 r82 i73 (0 : Int32)) fun M83 => orf (gr M83 32 35) fun r85 => if 0 ≤ i73 ∧ i73 < ln r85 then (sq (si M83 r85 i73 (0 : Int32)) fun M86 => f_X8_report_L313 32 X Y i73 M86) else none) else none) else none) else none)) else (orf (gr M37 32 38) fun r41 => if 0 ≤ i40 ∧ i40 < ln r41 then (sv ((gi M37 32 41) - (gi M37 r41 i40)) fun i42 => if i42 < (1 : Int32) then (f_X8_report_L271 32 X Y i40 (1 : Int32) M37) else (f_X8_report_L271 32 X Y i40 i42 M37)) else none)
def upT (M : JM) (t : Nat) (X Y V W H : Int32) : JM := si (si (si (si (si (si (si (si M t 5 V) t 6 W) t 3 X) t 4 Y) t 1 X) t 2 Y) t 7 0) t 8 H
def upN (M : JM) (j : Int32) (X Y V W H : Int32) : JM := si (si (si (si (si (si (si (si (si M 53 j V) 54 j W) 51 j X) 52 j Y) 57 j X) 58 j Y) 59 j (gi M 32 41)) 55 j 0) 56 j H
theorem upT_k {M : JM} {t : Nat} {X Y V W H : Int32} {k : Nat} {j : Int32} (h : k ≠ t) : gi (upT M t X Y V W H) k j = gi M k j := by
  unfold upT
  simp only [gi_si, h, false_and, if_false]
theorem upN_k {M : JM} {j X Y V W H : Int32} {k : Nat} {i : Int32} (h : ¬ (51 ≤ k ∧ k ≤ 59) ∨ i ≠ j) : gi (upN M j X Y V W H) k i = gi M k i := by
  unfold upN
  rcases h with h | h
  · rw [gi_si, if_neg (by omega), gi_si, if_neg (by omega), gi_si, if_neg (by omega), gi_si, if_neg (by omega), gi_si, if_neg (by omega), gi_si, if_neg (by omega), gi_si, if_neg (by omega), gi_si, if_neg (by omega), gi_si, if_neg (by omega)]
  · simp only [gi_si, h, and_false, if_false]
theorem upT_v (M : JM) (t : Nat) (X Y V W H : Int32) : gi (upT M t X Y V W H) t 0 = gi M t 0 ∧ gi (upT M t X Y V W H) t 1 = X ∧ gi (upT M t X Y V W H) t 2 = Y ∧ gi (upT M t X Y V W H) t 3 = X ∧ gi (upT M t X Y V W H) t 4 = Y ∧ gi (upT M t X Y V W H) t 5 = V ∧ gi (upT M t X Y V W H) t 6 = W ∧ gi (upT M t X Y V W H) t 7 = 0 ∧ gi (upT M t X Y V W H) t 8 = H := by
  unfold upT
  refine ⟨?_, ?_, ?_, ?_, ?_, ?_, ?_, ?_, ?_⟩ <;> simp [gi_si]
theorem upN_v (M : JM) (j X Y V W H : Int32) : gi (upN M j X Y V W H) 50 j = gi M 50 j ∧ gi (upN M j X Y V W H) 51 j = X ∧ gi (upN M j X Y V W H) 52 j = Y ∧ gi (upN M j X Y V W H) 57 j = X ∧ gi (upN M j X Y V W H) 58 j = Y ∧ gi (upN M j X Y V W H) 53 j = V ∧ gi (upN M j X Y V W H) 54 j = W ∧ gi (upN M j X Y V W H) 55 j = 0 ∧ gi (upN M j X Y V W H) 56 j = H ∧ gi (upN M j X Y V W H) 59 j = gi M 32 41 := by
  unfold upN
  refine ⟨?_, ?_, ?_, ?_, ?_, ?_, ?_, ?_, ?_, ?_⟩ <;> simp [gi_si]
theorem imax_ne (a : Int32) : ¬ imax 1 a = 0 := by
  unfold imax
  split <;> grind
theorem upd_eq (M : JM) (t : Nat) (X Y : Int32) : f_X5_update t X Y M = some ((), upT M t X Y ((X - gi M t 3) / imax 1 (gi M t 7)) ((Y - gi M t 4) / imax 1 (gi M t 7)) (gi M t 8 + 1)) := by
  have h := imax_ne (gi M t 7)
  unfold f_X5_update
  rw [sv_e, if_neg h, sq_e, if_neg h, sq_e, sq_e, sq_e, sq_e, sq_e, sq_e, sq_e]
  unfold upT
  simp [gi_si]
theorem l313_eq {M : JM} (hr : RF (gr M)) {X Y j : Int32} (hj : 0 ≤ j ∧ j < 12) (V W : Int32) (N : JM) (hN : N = si (si M 53 j V) 54 j W) : f_X8_report_L313 32 X Y j N = some (j, upN M j X Y V W (gi M 56 j + 1)) := by
  subst hN
  unfold f_X8_report_L313
  simp only [Gr_si, hr.r32_30, orf_e, ln_51, if_pos hj, sq_e, hr.r32_31, ln_52, hr.r32_36, ln_57, hr.r32_37, ln_58, hr.r32_38, ln_59, hr.r32_34, ln_55, hr.r32_35, ln_56]
  unfold upN
  simp [gi_si, hj.1, hj.2]
theorem l271_eq {M : JM} (hr : RF (gr M)) {X Y j u : Int32} (hj : 0 ≤ j ∧ j < 12) (hu : ¬ u = 0) : f_X8_report_L271 32 X Y j u M = some (j, upN M j X Y ((X - gi M 57 j) / u) ((Y - gi M 58 j) / u) (gi M 56 j + 1)) := by
  unfold f_X8_report_L271
  have h58 : ∀ V, gi (si M 53 j V) 58 j = gi M 58 j := fun V => by rw [gi_si, if_neg (by omega)]
  rw [sv_e, hr.r32_32, orf_e, hr.r32_36, orf_e, ln_57, if_pos hj, if_neg hu, ln_53, if_pos hj, sq_e, Gr_si, hr.r32_33, orf_e, hr.r32_37, orf_e, ln_58, if_pos hj, if_neg hu, ln_54, if_pos hj, sq_e, h58]
  exact l313_eq hr hj _ _ _ rfl
/-- a track that is there: looked up alike -/
theorem lp_trk {MC MM : JM} (hr : RF (gr MC)) (hr' : RF (gr MM)) {s : Int32} (hs : s ≤ 12) (h1 : gi MC 18 1 = s) (h2 : gi MM 32 28 = s) {π : Int32 → Nat} (hp : Perm MC π) (h3 : ∀ j, 0 ≤ j → j < s → gi MC (π j) 0 = gi MM 50 j) (N X Y : Int32) : ∀ (n : Nat) (i : Int32), 0 ≤ i → i ≤ s → s.toInt - i.toInt < (n : Int) →
    (∃ j, 0 ≤ j ∧ j < s ∧ f_X6_update_L3 n 18 N X Y i MC = f_X6_update_L26 18 X Y j MC ∧ f_X8_trackOf_L2 n 32 N i MM = some (j, MM)) ∨ (f_X6_update_L3 n 18 N X Y i MC = f_X6_update_L47 18 N X Y MC ∧ f_X8_trackOf_L2 n 32 N i MM = some (-9, MM)) := by
  intro n
  induction n with
  | zero => intro i g0 g1 hn; exact (up_no g1 hn).elim
  | succ n ih =>
    intro i g0 g1 hn
    rw [f_X6_update_L3, f_X8_trackOf_L2, h1, h2]
    by_cases c : i < s
    · have hi : 0 ≤ i ∧ i < 12 := ⟨g0, by grind⟩
      rw [if_pos c, if_pos c, hr.r18_0, orf_e, ln_19, if_pos hi, (hp.1 i hi.1 hi.2).1, orf_e, hr'.r32_29, orf_e, ln_50, if_pos hi, h3 i g0 c]
      by_cases e : gi MM 50 i = N
      · rw [if_pos e, if_pos e]
        exact Or.inl ⟨i, g0, c, rfl, rfl⟩
      · rw [if_neg e, if_neg e, sv_e, sv_e]
        exact ih (i + 1) (by clear ih; grind) (up_le c) (up_lt c hn)
    · rw [if_neg c, if_neg c]
      exact Or.inr ⟨rfl, rfl⟩
theorem zdiv (a : Int32) : (0 : Int32) / a = 0 := Int32.zero_div
theorem upd_both {MC MM : JM} (hr : RF (gr MC)) (hr' : RF (gr MM)) (h : LSt MC MM) (N X Y : Int32) : ∃ r MC' MM', f_X6_update 18 N X Y MC = some (r, MC') ∧ mTl N X Y MM = some (r, MM') ∧ LSt MC' MM' ∧ FrC MC MC' ∧ FrM MM MM' ∧ gi MC' 18 3 = gi MC 18 3 ∧ gi MM' 32 40 = gi MM 32 40 := by
  obtain ⟨⟨a1, a2, a3, a4, a5⟩, π, hp, hA⟩ := h
  have hlk := lp_trk hr hr' (s := gi MC 18 1) a3 rfl a1.symm hp (fun j b1 b2 => (hA j b1 b2).1) N X Y FU 0 (by decide) a2 (up_fu (by decide) (by grind))
  unfold f_X6_update mTl f_X8_trackOf
  rw [sv_e, sv_e]
  rcases hlk with ⟨j, j0, j1, e1, e2⟩ | ⟨e1, e2⟩
  · have hj : 0 ≤ j ∧ j < 12 := ⟨j0, by grind⟩
    obtain ⟨p1, p2, p3⟩ := hp.1 j hj.1 hj.2
    obtain ⟨t0, t1, t2, t3, t4, t5, t6, t7, t8, t9, t10, t11⟩ := hA j j0 j1
    have hage : gi MM 32 41 - gi MM 59 j = gi MM 55 j := by rw [t9]; grind
    have hmx : ∀ a : Int32, imax 1 a = if a < 1 then 1 else a := fun a => by
      unfold imax
      by_cases c1 : a < 1
      · rw [if_pos c1, if_neg (by grind)]
      · rw [if_neg c1]
        by_cases c2 : 1 < a
        · rw [if_pos c2]
        · rw [if_neg c2]; grind
    have hm271 : (if gi MM 55 j < 1 then f_X8_report_L271 32 X Y j 1 MM else f_X8_report_L271 32 X Y j (gi MM 55 j) MM) = some (j, upN MM j X Y ((X - gi MM 57 j) / imax 1 (gi MM 55 j)) ((Y - gi MM 58 j) / imax 1 (gi MM 55 j)) (gi MM 56 j + 1)) := by
      rw [hmx]
      by_cases c1 : gi MM 55 j < 1
      · rw [if_pos c1, if_pos c1]
        exact l271_eq hr' hj (by decide)
      · rw [if_neg c1, if_neg c1]
        exact l271_eq hr' hj (by grind)
    refine ⟨j, upT MC (π j) X Y ((X - gi MC (π j) 3) / imax 1 (gi MC (π j) 7)) ((Y - gi MC (π j) 4) / imax 1 (gi MC (π j) 7)) (gi MC (π j) 8 + 1), upN MM j X Y ((X - gi MM 57 j) / imax 1 (gi MM 55 j)) ((Y - gi MM 58 j) / imax 1 (gi MM 55 j)) (gi MM 56 j + 1), ?_, ?_, ⟨⟨?_, ?_, ?_, ?_, ?_⟩, π, ⟨hp.1, hp.2⟩, fun j' b1 b2 => ?_⟩, ⟨fun k i hk => ?_, fun _ _ _ => rfl, rfl⟩, ⟨fun k i hk => ?_, rfl, rfl⟩, ?_, ?_⟩
    · rw [e1]
      unfold f_X6_update_L26
      rw [hr.r18_0, orf_e, ln_19, if_pos hj, p1, orf_e, upd_eq, ob_e]
    · rw [e2, ob_e, sv_e, if_neg (by grind), hr'.r32_38, orf_e, ln_59, if_pos hj, sv_e, hage, hm271]
    · rw [upT_k (by omega), upN_k (Or.inl (by omega))]; exact a1
    · rw [upT_k (by omega)]; exact a2
    · rw [upT_k (by omega)]; exact a3
    · rw [upT_k (by omega), upN_k (Or.inl (by omega))]; exact a4
    · rw [upT_k (by omega), upN_k (Or.inl (by omega))]; exact a5
    · rw [upT_k (by omega)] at b2
      rw [upN_k (k := 32) (Or.inl (by omega))]
      by_cases e : j' = j
      · subst e
        obtain ⟨u0, u1, u2, u3, u4, u5, u6, u7, u8⟩ := upT_v MC (π j') X Y ((X - gi MC (π j') 3) / imax 1 (gi MC (π j') 7)) ((Y - gi MC (π j') 4) / imax 1 (gi MC (π j') 7)) (gi MC (π j') 8 + 1)
        obtain ⟨w0, w1, w2, w3, w4, w5, w6, w7, w8, w9⟩ := upN_v MM j' X Y ((X - gi MM 57 j') / imax 1 (gi MM 55 j')) ((Y - gi MM 58 j') / imax 1 (gi MM 55 j')) (gi MM 56 j' + 1)
        unfold ITr2
        rw [u0, u1, u2, u3, u4, u5, u6, u7, u8, w0, w1, w2, w3, w4, w5, w6, w7, w8, w9, t0, t3, t4, t7, t8]
        exact ⟨rfl, rfl, rfl, rfl, rfl, rfl, rfl, rfl, rfl, by simp, by decide, by decide⟩
      · have hj' : 0 ≤ j' ∧ j' < 12 := ⟨b1, by clear hmx hm271 hA; grind⟩
        have hne : π j' ≠ π j := fun x => e (hp.2 j' j hj'.1 hj'.2 hj.1 hj.2 x)
        exact (hA j' b1 b2).congr (fun f => upT_k hne) (fun r _ _ => upN_k (Or.inr e))
    · exact upT_k (fun x => hk (Or.inr (by omega)))
    · exact upN_k (Or.inl (fun x => hk (Or.inl (by omega))))
    · exact upT_k (by omega)
    · exact upN_k (Or.inl (by omega))
  · by_cases hf : gi MC 18 1 < 12
    · have hj : 0 ≤ gi MC 18 1 ∧ gi MC 18 1 < 12 := ⟨a2, hf⟩
      obtain ⟨p1, p2, p3⟩ := hp.1 (gi MC 18 1) hj.1 hj.2
      have hc : f_X6_update_L47 18 N X Y MC = some (gi MC 18 1, si (upT (si (si (si (si MC (π (gi MC 18 1)) 0 N) (π (gi MC 18 1)) 8 0) (π (gi MC 18 1)) 3 X) (π (gi MC 18 1)) 4 Y) (π (gi MC 18 1)) X Y 0 0 1) 18 1 (gi MC 18 1 + 1)) := by
        generalize hπ : π (gi MC 18 1) = t at *
        unfold f_X6_update_L47 f_X5_come
        rw [if_pos hf, hr.r18_0, orf_e, ln_19, if_pos hj, p1, orf_e, sq_e, sq_e, sq_e, sq_e, upd_eq]
        have v3 : gi (si (si (si (si MC t 0 N) t 8 0) t 3 X) t 4 Y) t 3 = X := by simp [gi_si]
        have v4 : gi (si (si (si (si MC t 0 N) t 8 0) t 3 X) t 4 Y) t 4 = Y := by simp [gi_si]
        have v8 : gi (si (si (si (si MC t 0 N) t 8 0) t 3 X) t 4 Y) t 8 = 0 := by simp [gi_si]
        rw [v3, v4, v8, show X - X = 0 by grind, show Y - Y = 0 by grind, zdiv, show (0 : Int32) + 1 = 1 from rfl, ob_e, ob_e, upT_k (show 18 ≠ t by omega)]
        have g18 : gi (si (si (si (si MC t 0 N) t 8 0) t 3 X) t 4 Y) 18 1 = gi MC 18 1 := by rw [gi_si, if_neg (by omega), gi_si, if_neg (by omega), gi_si, if_neg (by omega), gi_si, if_neg (by omega)]
        rw [g18, sq_e, gi_si, if_pos ⟨rfl, rfl⟩, show gi MC 18 1 + 1 - 1 = gi MC 18 1 by grind]
      have hm : ∀ (K : Int32), (sv (gi MM 32 28) fun i73 => sq (si MM 32 28 ((gi MM 32 28) + (1 : Int32))) fun M74 => orf (gr M74 32 29) fun r76 => if 0 ≤ i73 ∧ i73 < ln r76 then (sq (si M74 r76 i73 N) fun M77 => orf (gr M77 32 32) fun r79 => if 0 ≤ i73 ∧ i73 < ln r79 then (sq (si M77 r79 i73 (0 : Int32)) fun M80 => orf (gr M80 32 33) fun r82 => if 0 ≤ i73 ∧ i73 < ln r82 then (sq (si M80 r82 i73 (0 : Int32)) fun M83 => orf (gr M83 32 35) fun r85 => if 0 ≤ i73 ∧ i73 < ln r85 then (sq (si M83 r85 i73 (0 : Int32)) fun M86 => f_X8_report_L313 32 X Y i73 M86) else none) else none) else none) else none) = some (gi MC 18 1, upN (si (si (si MM 32 28 (gi MC 18 1 + 1)) 50 (gi MC 18 1) N) 56 (gi MC 18 1) 0) (gi MC 18 1) X Y 0 0 1) := by
        intro _
        generalize hs : gi MC 18 1 = s at *
        rw [sv_e, ← a1, sq_e, Gr_si, hr'.r32_29, orf_e, ln_50, if_pos hj, sq_e, Gr_si, Gr_si, hr'.r32_32, orf_e, ln_53, if_pos hj, sq_e, Gr_si, Gr_si, Gr_si, hr'.r32_33, orf_e, ln_54, if_pos hj, sq_e, Gr_si, Gr_si, Gr_si, Gr_si, hr'.r32_35, orf_e, ln_56, if_pos hj, sq_e]
        have he : si (si (si (si (si MM 32 28 (s + 1)) 50 s N) 53 s 0) 54 s 0) 56 s 0 = si (si (si (si (si MM 32 28 (s + 1)) 50 s N) 56 s 0) 53 s 0) 54 s 0 := by
          refine JM_ext (fun k j => ?_) rfl rfl
          simp only [gi_si]
          by_cases k53 : k = 53
          · subst k53; simp
          · by_cases k54 : k = 54
            · subst k54; simp
            · simp [k53, k54]
        have hrr : RF (gr (si (si (si MM 32 28 (s + 1)) 50 s N) 56 s 0)) := hr'
        rw [he, l313_eq (M := si (si (si MM 32 28 (s + 1)) 50 s N) 56 s 0) hrr hj 0 0 _ rfl, gi_si, if_pos ⟨rfl, rfl⟩]
        rfl
      have hm0 := hm 0
      clear hm
      generalize hs : gi MC 18 1 = s at *
      generalize hπ : π s = t at *
      generalize hAA : si (si (si (si MC t 0 N) t 8 0) t 3 X) t 4 Y = A at *
      generalize hBB : si (si (si MM 32 28 (s + 1)) 50 s N) 56 s 0 = B at *
      have kA : ∀ k i, k ≠ t → gi A k i = gi MC k i := fun k i a => by
        rw [← hAA, gi_si, if_neg (fun x => a x.1), gi_si, if_neg (fun x => a x.1), gi_si, if_neg (fun x => a x.1), gi_si, if_neg (fun x => a x.1)]
      have kA0 : gi A t 0 = N := by rw [← hAA]; simp [gi_si]
      have kB : ∀ k i, ¬ (k = 32 ∧ i = 28) → ¬ ((k = 50 ∨ k = 56) ∧ i = s) → gi B k i = gi MM k i := fun k i a b => by
        rw [← hBB, gi_si, if_neg (fun x => b ⟨Or.inr x.1, x.2⟩), gi_si, if_neg (fun x => b ⟨Or.inl x.1, x.2⟩), gi_si, if_neg a]
      have kB28 : gi B 32 28 = s + 1 := by rw [← hBB, gi_si, if_neg (by omega), gi_si, if_neg (by omega), gi_si, if_pos ⟨rfl, rfl⟩]
      have kB50 : gi B 50 s = N := by rw [← hBB, gi_si, if_neg (by omega), gi_si, if_pos ⟨rfl, rfl⟩]
      have hgA : gr A = gr MC := by rw [← hAA]; rfl
      have hnA : gn A = gn MC := by rw [← hAA]; rfl
      have hgB : gr B = gr MM := by rw [← hBB]; rfl
      have hnB : gn B = gn MM := by rw [← hBB]; rfl
      have kC : ∀ k i, k ≠ t → ¬ (k = 18 ∧ i = 1) → gi (si (upT A t X Y 0 0 1) 18 1 (s + 1)) k i = gi MC k i := fun k i a b => by
        rw [gi_si, if_neg b, upT_k a, kA k i a]
      have kN : ∀ k i, ¬ (k = 32 ∧ i = 28) → ¬ ((50 ≤ k ∧ k ≤ 59) ∧ i = s) → gi (upN B s X Y 0 0 1) k i = gi MM k i := fun k i a b => by
        by_cases e : i = s
        · rw [upN_k (Or.inl (fun x => b ⟨by omega, e⟩)), kB k i a (fun x => b ⟨by omega, e⟩)]
        · rw [upN_k (Or.inr e), kB k i a (fun x => e x.2)]
      have kN32 : ∀ i, i ≠ 28 → gi (upN B s X Y 0 0 1) 32 i = gi MM 32 i := fun i a => kN 32 i (fun x => a x.2) (by omega)
      refine ⟨s, si (upT A t X Y 0 0 1) 18 1 (s + 1), upN B s X Y 0 0 1, e1.trans hc, ?_, ⟨⟨?_, ?_, ?_, ?_, ?_⟩, π, ⟨fun j' b1 b2 => ?_, hp.2⟩, fun j' b1 b2 => ?_⟩, ⟨fun k i hk => ?_, fun k i _ => ?_, ?_⟩, ⟨fun k i hk => ?_, ?_, ?_⟩, ?_, ?_⟩
      · rw [e2, ob_e, sv_e, if_pos (by decide), if_neg (by rw [← a1]; clear hA hm0 hc; grind)]
        exact hm0
      · rw [gi_si, if_pos ⟨rfl, rfl⟩, upN_k (Or.inl (by omega)), kB28]
      · rw [gi_si, if_pos ⟨rfl, rfl⟩]; clear hA hm0 hc; grind
      · rw [gi_si, if_pos ⟨rfl, rfl⟩]; clear hA hm0 hc; grind
      · rw [kC 18 2 (by omega) (by decide), kN32 39 (by decide)]; exact a4
      · rw [kC 18 4 (by omega) (by decide), kN32 41 (by decide)]; exact a5
      · show gr A 19 j' = some (π j') ∧ _
        rw [hgA]; exact hp.1 j' b1 b2
      · rw [gi_si, if_pos ⟨rfl, rfl⟩] at b2
        rw [kN32 41 (by decide)]
        by_cases e : j' = s
        · subst e
          obtain ⟨u0, u1, u2, u3, u4, u5, u6, u7, u8⟩ := upT_v A t X Y 0 0 1
          obtain ⟨w0, w1, w2, w3, w4, w5, w6, w7, w8, w9⟩ := upN_v B j' X Y 0 0 1
          have k18 : ∀ f, gi (si (upT A t X Y 0 0 1) 18 1 (j' + 1)) t f = gi (upT A t X Y 0 0 1) t f := fun f => by rw [gi_si, if_neg (by omega)]
          rw [hπ]
          unfold ITr2
          simp only [k18]
          rw [u0, u1, u2, u3, u4, u5, u6, u7, u8, w0, w1, w2, w3, w4, w5, w6, w7, w8, w9, kA0, kB50, kB 32 41 (by decide) (by omega)]
          exact ⟨rfl, rfl, rfl, rfl, rfl, rfl, rfl, rfl, rfl, by simp, by decide, by decide⟩
        · have hlt : j' < s := by clear hA hm0 hc; grind
          have hj' : 0 ≤ j' ∧ j' < 12 := ⟨b1, by clear hA hm0 hc; grind⟩
          obtain ⟨q1, q2, q3⟩ := hp.1 j' hj'.1 hj'.2
          have hne : π j' ≠ t := fun x => e (hp.2 j' s hj'.1 hj'.2 hj.1 hj.2 (x.trans hπ.symm))
          exact (hA j' b1 hlt).congr (fun f => kC _ _ hne (by omega)) (fun r _ _ => kN r j' (by omega) (fun x => e x.2))
      · exact kC k i (fun x => hk (Or.inr (by omega))) (fun x => hk (Or.inl ⟨x.1, Or.inl x.2⟩))
      · show gr A k i = gr MC k i
        rw [hgA]
      · show gn A = gn MC
        exact hnA
      · exact kN k i (fun x => hk (Or.inr ⟨x.1, Or.inl x.2⟩)) (fun x => hk (Or.inl x.1))
      · show gr B = gr MM
        exact hgB
      · show gn B = gn MM
        exact hnB
      · exact kC 18 3 (by omega) (by decide)
      · exact kN32 40 (by decide)
    · have h12 : gi MM 32 28 = 12 := by rw [← a1]; clear hA; grind
      refine ⟨-9, si MC 18 2 (gi MC 18 2 + 1), si MM 32 39 (gi MM 32 39 + 1), e1.trans ?_, ?_, ⟨⟨?_, ?_, ?_, ?_, ?_⟩, π, hp, fun j' b1 b2 => ?_⟩, FrC.si (by decide), FrM.si (by decide), ?_, ?_⟩
      · unfold f_X6_update_L47
        rw [if_neg hf, sq_e]
      · rw [e2, ob_e, sv_e, if_pos (by decide), if_pos h12, sq_e]
      · rw [gi_si, if_neg (by decide), gi_si, if_neg (by decide)]; exact a1
      · rw [gi_si, if_neg (by decide)]; exact a2
      · rw [gi_si, if_neg (by decide)]; exact a3
      · rw [gi_si, if_pos ⟨rfl, rfl⟩, gi_si, if_pos ⟨rfl, rfl⟩, a4]
      · rw [gi_si, if_neg (by decide), gi_si, if_neg (by decide)]; exact a5
      · rw [gi_si, if_neg (by decide)] at b2
        have hj' : 0 ≤ j' ∧ j' < 12 := ⟨b1, by clear hA; grind⟩
        obtain ⟨q1, q2, q3⟩ := hp.1 j' hj'.1 hj'.2
        rw [gi_si (k' := 32) (j' := 41), if_neg (by decide)]
        exact (hA j' b1 b2).congr (fun f => by rw [gi_si, if_neg (by omega)]) (fun r _ _ => by rw [gi_si, if_neg (by omega)])
      · rw [gi_si, if_neg (by decide)]
      · rw [gi_si, if_neg (by decide)]
