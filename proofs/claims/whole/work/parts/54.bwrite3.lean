/-! PURE PART: the reference's write, and both together -/
def itG (M : JM) (s : Nat → Nat) (r p : Nat) : List Int32 := itF (fun _ j => gi M 49 j &&& 255) s (fun p => 60 * p) r p
theorem lp_mitem {M : JM} (hr : RF (gr M)) {s : Nat → Nat} (hs : Sz M 48 s) (K : Nat → Int32 → Int32 → JM → Option (Int32 × JM)) (t : Int32) (p : Nat) (hp : 1 ≤ p ∧ p ≤ 21) : ∀ (n i : Nat) (L : List Int32), i ≤ s p → s p - i < n → Rm (gi M 32 8) (L.length + (s p - i)) → f_X8_write_L208 K n 32 t (nI p) (nI i) (aM M L) = K 32 t (nI (p + 1)) (aM M (L ++ tak (fun j => gi M 49 j &&& 255) (s p - i) (nI (60 * p + i)))) := by
  intro n
  induction n with
  | zero => intro i L _ h; omega
  | succ n ih =>
    intro i L h1 h2 h3
    have hr1 : RF (gr (aM M L)) := hr
    obtain ⟨e1, e2⟩ := hs p hp.1 hp.2
    have e3 : 60 * nI p + nI i = nI (60 * p + i) := by rw [show (60 : Int32) = nI 60 from rfl, pk_mul, nI_add]
    rw [f_X8_write_L208, hr1.r32_26, orf_e, ln_48, if_pos (show 0 ≤ nI p ∧ nI p < 22 from ⟨nI_pos' (by omega), nI_lt (b := 22) (by omega) (by decide)⟩), keep_aM (by decide) (fun q => absurd q.1 (by decide)), e1]
    by_cases hi : i = s p
    · subst hi
      unfold f_X8_write_L243
      rw [if_neg Int32.lt_irrefl, Nat.sub_self, tak, List.append_nil, sv_e, nI_p1]
    · rw [if_pos (nI_lt (by omega) (by omega)), hr1.r32_27, orf_e, ln_49, e3, if_pos (show 0 ≤ nI (60 * p + i) ∧ nI (60 * p + i) < 1320 from ⟨nI_pos' (by omega), nI_lt (b := 1320) (by omega) (by decide)⟩), keep_aM (by decide) (fun q => absurd q.1 (by decide)), aM_put hr _ (h3.le (by omega)), ob_e, sv_e, nI_p1]
      have h := ih (i + 1) (L ++ [gi M 49 (nI (60 * p + i)) &&& 255]) (by omega) (by omega) (by simp only [List.length_append, List.length_cons, List.length_nil]; exact h3.le (by omega))
      rw [h, app_1, show s p - i = s p - (i + 1) + 1 by omega, tak, nI_p1, show 60 * p + (i + 1) = 60 * p + i + 1 by omega]
theorem lp_mitems {M : JM} (hr : RF (gr M)) {s : Nat → Nat} (hs : Sz M 48 s) (t : Int32) : ∀ (n p : Nat) (L : List Int32), 1 ≤ p → p ≤ 22 → 22 - p < n → Rm (gi M 32 8) (L.length + (itG M s (22 - p) p).length) → f_X8_write_L198 n 32 t (nI p) (aM M L) = some (t, aM M (L ++ itG M s (22 - p) p)) := by
  intro n
  induction n with
  | zero => intro p L _ _ h; omega
  | succ n ih =>
    intro p L h0 h1 h2 h3
    rw [f_X8_write_L198]
    by_cases hp : p = 22
    · subst hp
      rw [if_pos (by decide), Nat.sub_self]
      unfold itG itF
      rw [List.append_nil]
    · unfold itG at h3 ⊢
      rw [show 22 - p = 22 - (p + 1) + 1 by omega, itF] at h3 ⊢
      rw [List.length_append, tak_len] at h3
      obtain ⟨e1, e2⟩ := hs p h0 (by omega)
      have hi := lp_mitem hr hs (f_X8_write_L198 n) t p ⟨h0, by omega⟩ FU 0 L (by omega) (by show _ < 4096; omega) (h3.le (by omega))
      simp only [Nat.add_zero, Nat.sub_zero] at hi
      rw [if_neg (show ¬ 21 < nI p from Int32.not_lt.mpr (nI_le (b := 21) (by omega) (by decide))), sv_e]
      have hi2 : f_X8_write_L208 (f_X8_write_L198 n) FU 32 t (nI p) 0 (aM M L) = f_X8_write_L198 n 32 t (nI (p + 1)) (aM M (L ++ tak (fun j => gi M 49 j &&& 255) (s p) (nI (60 * p)))) := hi
      rw [hi2, ← List.append_assoc]
      exact ih (p + 1) (L ++ tak (fun j => gi M 49 j &&& 255) (s p) (nI (60 * p))) (by omega) (by omega) (by omega) (by unfold itG; rw [List.length_append, tak_len]; exact h3.le (by omega))
theorem lp_mbyte {M : JM} (hr : RF (gr M)) {s : Nat → Nat} (hs : Sz M 48 s) (K : Nat → Int32 → Int32 → Int32 → JM → Option (Int32 × JM)) (t nb : Int32) (k : Nat) (hk : k < 3) : ∀ (n v : Nat) (acc : Int32), v ≤ 7 → 7 - v < n → f_X8_write_L136 K n 32 t nb (nI k) acc (nI v) M = f_X8_write_L183 K 32 t nb (nI k) (bml (fun v => tb s (k * 7 + v)) (7 - v) v acc) M := by
  intro n
  induction n with
  | zero => intro v _ _ h; omega
  | succ n ih =>
    intro v acc h1 h2
    rw [f_X8_write_L136]
    by_cases hv : v = 7
    · subst hv
      rw [if_neg (by decide), Nat.sub_self, bml]
    · have e3 : 7 * nI k + nI v + 1 = nI (k * 7 + (v + 1)) := by rw [show (7 : Int32) = nI 7 from rfl, pk_mul, nI_add, nI_p1, show 7 * k + v + 1 = k * 7 + (v + 1) by omega]
      obtain ⟨e1, e2⟩ := hs (k * 7 + (v + 1)) (by omega) (by omega)
      have tail : ∀ u : Int32, f_X8_write_L174 K (f_X8_write_L136 K n) 32 t nb (nI k) (nI v) u acc M = f_X8_write_L183 K 32 t nb (nI k) (bml (fun v => tb s (k * 7 + v)) (7 - (v + 1)) (v + 1) (acc ||| u)) M := by
        intro u
        unfold f_X8_write_L174
        rw [sv_e, sv_e, nI_p1]
        exact ih (v + 1) (acc ||| u) (by omega) (by omega)
      rw [if_pos (show nI v < 7 from nI_lt (b := 7) (by omega) (by decide)), hr.r32_26, orf_e, ln_48, e3, if_pos (show 0 ≤ nI (k * 7 + (v + 1)) ∧ nI (k * 7 + (v + 1)) < 22 from ⟨nI_pos' (by omega), nI_lt (b := 22) (by omega) (by decide)⟩), e1, tail, tail, show 7 - v = 7 - (v + 1) + 1 by omega, bml]
      by_cases h0 : s (k * 7 + (v + 1)) = 0
      · rw [if_neg (by rw [h0]; decide), if_pos (show tb s (k * 7 + (v + 1)) = 0 by unfold tb; rw [if_neg (by omega), if_pos h0])]
      · rw [if_pos (show 0 < nI (s (k * 7 + (v + 1))) from nI_lt (a := 0) (by omega) (by omega)), if_neg (show ¬ tb s (k * 7 + (v + 1)) = 0 by unfold tb; rw [if_neg (by omega), if_neg h0]; decide)]
theorem byt_eq (s : Nat → Nat) (nb j : Nat) : byt s nb j = bml (fun v => tb s (j * 7 + v)) 7 0 (bI (decide (j + 1 < nb))) &&& 255 ∧ 0 ≤ byt s nb j ∧ byt s nb j ≤ 255 := byte_cm (fun v => tb s (j * 7 + v)) (fun v => tb_b s _) _
theorem Sz_aM {M : JM} {s : Nat → Nat} {L : List Int32} (hs : Sz M 48 s) : Sz (aM M L) 48 s := fun j a b => by rw [keep_aM (by decide) (fun q => absurd q.1 (by decide))]; exact hs j a b
theorem lp_mbits {M : JM} (hr : RF (gr M)) {s : Nat → Nat} (hs : Sz M 48 s) (nb : Nat) (hb : nb ≤ 3) (t : Int32) : ∀ (n k : Nat) (L : List Int32), k ≤ nb → nb - k < n → Rm (gi M 32 8) (L.length + (nb - k)) → f_X8_write_L112 n 32 t (nI nb) (nI k) (aM M L) = f_X8_write_L195 32 t (aM M (L ++ blF s nb (nb - k) k)) := by
  intro n
  induction n with
  | zero => intro k L _ h; omega
  | succ n ih =>
    intro k L h1 h2 h3
    rw [f_X8_write_L112]
    by_cases hk : k = nb
    · subst hk
      rw [if_neg Int32.lt_irrefl, Nat.sub_self, blF, List.append_nil]
    · have tail : ∀ u : Int32, u = bI (decide (k + 1 < nb)) → f_X8_write_L131 (f_X8_write_L112 n) 32 t (nI nb) (nI k) u (aM M L) = f_X8_write_L195 32 t (aM M (L ++ blF s nb (nb - k) k)) := by
        intro u hu
        have hby : f_X8_write_L136 (f_X8_write_L112 n) FU 32 t (nI nb) (nI k) u 0 (aM M L) = f_X8_write_L183 (f_X8_write_L112 n) 32 t (nI nb) (nI k) (bml (fun v => tb s (k * 7 + v)) 7 0 u) (aM M L) := lp_mbyte (M := aM M L) hr (Sz_aM hs) (f_X8_write_L112 n) t (nI nb) k (by omega) FU 0 u (by omega) (by show _ < 4096; omega)
        unfold f_X8_write_L131
        rw [sv_e, sv_e, hby]
        unfold f_X8_write_L183
        rw [aM_put hr _ (h3.le (by omega)), ob_e, sv_e, nI_p1, hu, ← (byt_eq s nb k).1]
        have h := ih (k + 1) (L ++ [byt s nb k]) (by omega) (by omega) (by simp only [List.length_append, List.length_cons, List.length_nil]; exact h3.le (by omega))
        rw [h, app_1, show nb - k = nb - (k + 1) + 1 by omega, blF]
      rw [if_pos (nI_lt (by omega) (by omega)), nI_p1]
      by_cases hl : k + 1 = nb
      · rw [if_neg (by rw [hl]; exact Int32.lt_irrefl), tail 0 (by rw [decide_eq_false (by omega)]; rfl)]
      · rw [if_pos (nI_lt (by omega) (by omega)), tail 1 (by rw [decide_eq_true (by omega)]; rfl)]
