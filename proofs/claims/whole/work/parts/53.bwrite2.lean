/-! PURE PART: write -/
theorem app_1 (L : List Int32) (v : Int32) (T : List Int32) : L ++ [v] ++ T = L ++ v :: T := by simp
/-- a run of a row comes to the tape -/
theorem lp_putAll {M : JM} (hr : RF (gr M)) (q l0 m : Nat) (hq : q ≠ 3 ∧ q ≠ 2) (hl : ln q = nI (shp q).2) (hm : l0 + m ≤ (shp q).2) : ∀ (n i : Nat) (L : List Int32), i ≤ m → m - i < n → Rm (gi M 2 1) (L.length + (m - i)) → f_X4_putAll_L3 n 2 q (nI l0) (nI m) (nI (l0 + i)) (aC M L) = some ((), aC M (L ++ tak (gi M q) (m - i) (nI (l0 + i)))) := by
  intro n
  induction n with
  | zero => intro i L _ h; omega
  | succ n ih =>
    intro i L h1 h2 h3
    have hlen := shp_len q
    rw [f_X4_putAll_L3, nI_add]
    by_cases hi : i = m
    · subst hi
      rw [if_neg (Int32.lt_irrefl), Nat.sub_self, tak, List.append_nil]
    · rw [if_pos (nI_lt (by omega) (by omega)), hl, if_pos (nI_lt (by omega) (by omega)), if_pos ⟨nI_pos' (by omega), nI_lt (by omega) (by omega)⟩, keep_aC hq.1 (fun x => hq.2 x.1), aC_put hr _ (h3.le (by omega)), ob_e, sv_e, nI_p1]
      rw [show m - i = m - (i + 1) + 1 by omega, tak, nI_p1, show l0 + i + 1 = l0 + (i + 1) by omega]
      have h := ih (i + 1) (L ++ [gi M q (nI (l0 + i))]) (by omega) (by omega) (by simp only [List.length_append, List.length_cons, List.length_nil]; exact h3.le (by omega))
      rw [app_1] at h
      exact h
def byt (s : Nat → Nat) (nb j : Nat) : Int32 := ((bcl (fun v => tb s (j * 7 + v)) 7 1 0) <<< ((1 : Int32) &&& 31)) ||| bI (decide (j + 1 < nb))
def blF (s : Nat → Nat) (nb : Nat) : Nat → Nat → List Int32
  | 0, _ => []
  | r + 1, k => byt s nb k :: blF s nb r (k + 1)
def itF (f : Nat → Int32 → Int32) (s : Nat → Nat) (lo : Nat → Nat) : Nat → Nat → List Int32
  | 0, _ => []
  | r + 1, p => tak (f p) (s p) (nI (lo p)) ++ itF f s lo r (p + 1)
theorem blF_len (s : Nat → Nat) (nb : Nat) : ∀ r k, (blF s nb r k).length = r := by
  intro r
  induction r with
  | zero => intro k; rfl
  | succ r ih => intro k; simp [blF, ih]
theorem itF_len (f : Nat → Int32 → Int32) (s lo : Nat → Nat) : ∀ r p, (itF f s lo r (p + 1)).length + sumN s p = sumN s (p + r) := by
  intro r
  induction r with
  | zero => intro p; simp [itF]
  | succ r ih =>
    intro p
    have h := ih (p + 1)
    rw [itF, List.length_append, tak_len]
    rw [show p + (r + 1) = p + 1 + r by omega, ← h, sumN]
    omega
theorem itF_nil (f : Nat → Int32 → Int32) (s lo : Nat → Nat) : ∀ r p, (∀ j, p ≤ j → j < p + r → s j = 0) → itF f s lo r p = [] := by
  intro r
  induction r with
  | zero => intro p _; rfl
  | succ r ih =>
    intro p h
    rw [itF, h p (by omega) (by omega), tak, ih (p + 1) (fun j a b => h j (by omega) (by omega))]
    rfl
theorem itF_app (f : Nat → Int32 → Int32) (s lo : Nat → Nat) (r' : Nat) : ∀ r p, itF f s lo (r + r') p = itF f s lo r p ++ itF f s lo r' (p + r) := by
  intro r
  induction r with
  | zero => intro p; simp [itF]
  | succ r ih =>
    intro p
    rw [show r + 1 + r' = r + r' + 1 by omega, itF, itF, ih (p + 1), List.append_assoc, show p + 1 + r = p + (r + 1) by omega]
theorem itF_congr {f g : Nat → Int32 → Int32} {s lo lo' : Nat → Nat} : ∀ r p, (∀ j, p ≤ j → j < p + r → ∀ t, t < s j → f j (nI (lo j) + nI t) = g j (nI (lo' j) + nI t)) → itF f s lo r p = itF g s lo' r p := by
  intro r
  induction r with
  | zero => intro p _; rfl
  | succ r ih =>
    intro p h
    rw [itF, itF, tak_congr (s p) (nI (lo p)) (nI (lo' p)) (fun t ht => h p (by omega) (by omega) t ht), ih (p + 1) (fun j a b => h j (by omega) (by omega))]
theorem itF_mem {f : Nat → Int32 → Int32} {s lo : Nat → Nat} {v : Int32} : ∀ r p, v ∈ itF f s lo r p → ∃ j t, p ≤ j ∧ j < p + r ∧ t < s j ∧ v = f j (nI (lo j) + nI t) := by
  intro r
  induction r with
  | zero => intro p h; cases h
  | succ r ih =>
    intro p h
    rw [itF] at h
    rcases List.mem_append.mp h with h | h
    · obtain ⟨t, h1, h2⟩ := tak_mem _ _ h
      exact ⟨p, t, by omega, by omega, h1, h2⟩
    · obtain ⟨j, t, h1, h2, h3, h4⟩ := ih _ h
      exact ⟨j, t, by omega, by omega, h3, h4⟩
theorem blF_mem {s : Nat → Nat} {nb : Nat} {v : Int32} : ∀ r k, v ∈ blF s nb r k → ∃ j, v = byt s nb j := by
  intro r
  induction r with
  | zero => intro k h; cases h
  | succ r ih =>
    intro k h
    rw [blF] at h
    rcases List.mem_cons.mp h with h | h
    · exact ⟨k, h⟩
    · exact ih _ h
theorem Sz_aC {M : JM} {s : Nat → Nat} {L : List Int32} (hs : Sz M 17 s) : Sz (aC M L) 17 s := fun j a b => by rw [keep_aC (by decide) (fun q => absurd q.1 (by decide))]; exact hs j a b
/-- the class's items -/
theorem lp_citems {M : JM} (hr : RF (gr M)) {s : Nat → Nat} (hs : Sz M 17 s) (a : Nat) (ha : a ≤ 21) (t : Int32) : ∀ (n k : Nat) (L : List Int32), k ≤ a → a - k < n → Rm (gi M 2 1) (L.length + (itF (fun _ => gi M 16) s (fun p => (p - 1) * 58) (a - k) (k + 1)).length) → f_X7_write_L129 n 0 (nI a) t (nI (k + 1)) (aC M L) = some (t, aC M (L ++ itF (fun _ => gi M 16) s (fun p => (p - 1) * 58) (a - k) (k + 1))) := by
  intro n
  induction n with
  | zero => intro k L _ h; omega
  | succ n ih =>
    intro k L h1 h2 h3
    have hr1 : RF (gr (aC M L)) := hr
    rw [f_X7_write_L129]
    by_cases hk : k = a
    · subst hk
      rw [if_pos (nI_lt (by omega) (by omega)), Nat.sub_self, itF, List.append_nil]
    · obtain ⟨e1, e2⟩ := hs (k + 1) (by omega) (by omega)
      have e3 : (nI (k + 1) - 1) * 58 = nI (k * 58) := by rw [nI_pred, show (58 : Int32) = nI 58 from rfl, pk_mul]
      rw [show a - k = a - (k + 1) + 1 by omega, itF, List.length_append, tak_len] at h3
      rw [if_neg (Int32.not_lt.mpr (nI_le (by omega) (by omega))), hr1.r0_2, orf_e, hr1.r0_6, orf_e, hr1.r15_1, orf_e]
      unfold f_X2_rowOf
      rw [ob_e, hr1.r0_6, orf_e, hr1.r15_2, orf_e, ln_17, if_pos (show 0 ≤ nI (k + 1) ∧ nI (k + 1) < 22 from ⟨nI_pos' (by omega), nI_lt (b := 22) (by omega) (by decide)⟩), keep_aC (by decide) (fun q => absurd q.1 (by decide)), e1, e3]
      unfold f_X4_putAll
      have hp := lp_putAll hr 16 (k * 58) (s (k + 1)) ⟨by decide, by decide⟩ rfl (by show _ ≤ 1218; omega) FU 0 L (by omega) (by show _ < 4096; omega) (h3.le (by omega))
      simp only [Nat.add_zero, Nat.sub_zero] at hp
      rw [sv_e, hp, ob_e, sv_e, nI_p1, show a - k = a - (k + 1) + 1 by omega, itF, ← List.append_assoc, show k + 1 - 1 = k by omega]
      exact ih (k + 1) _ (by omega) (by omega) (by rw [List.length_append, tak_len]; exact h3.le (by omega))
/-- the class's bytes of bits, then its items -/
theorem lp_cbits {M : JM} (hr : RF (gr M)) {s : Nat → Nat} (hs : Sz M 17 s) (nb : Nat) (hb : nb ≤ 3) (a t : Int32) : ∀ (n k : Nat) (L : List Int32), k ≤ nb → nb - k < n → Rm (gi M 2 1) (L.length + (nb - k)) → f_X7_write_L85 n 0 a (nI nb) t (nI k) (aC M L) = f_X7_write_L126 0 a t (aC M (L ++ blF s nb (nb - k) k)) := by
  intro n
  induction n with
  | zero => intro k L _ h; omega
  | succ n ih =>
    intro k L h1 h2 h3
    have hr1 : RF (gr (aC M L)) := hr
    rw [f_X7_write_L85]
    by_cases hk : k = nb
    · subst hk
      rw [if_neg Int32.lt_irrefl, Nat.sub_self, blF, List.append_nil]
    · have tail : ∀ u : Int32, (if u = 0 then (1 : Int32) else (0 : Int32)) = bI (decide (k + 1 < nb)) → f_X7_write_L114 (f_X7_write_L85 n) 0 a (nI nb) t (nI k) u (nI k) 15 2 (aC M L) = f_X7_write_L126 0 a t (aC M (L ++ blF s nb (nb - k) k)) := by
        intro u hu
        unfold f_X7_write_L114 f_X2_bitsByte
        have hbits : f_X2_bitsByte_L5 FU 15 (nI k) u 0 1 (aC M L) = some (((bcl (fun v => tb s (k * 7 + v)) 7 1 0) <<< ((1 : Int32) &&& 31)) ||| (if u = 0 then (1 : Int32) else (0 : Int32)), aC M L) := lp_bits (M := aC M L) hr1 (Sz_aC hs) k (by omega) u FU 0 0 (by omega) (by show _ < 4096; omega)
        rw [sv_e, sv_e, hbits, ob_e, hu, show ((bcl (fun v => tb s (k * 7 + v)) 7 1 0) <<< ((1 : Int32) &&& 31)) ||| bI (decide (k + 1 < nb)) = byt s nb k from rfl]
        rw [aC_put hr _ (h3.le (by omega)), ob_e, sv_e, nI_p1, show nb - k = nb - (k + 1) + 1 by omega, blF]
        have h := ih (k + 1) (L ++ [byt s nb k]) (by omega) (by omega) (by simp only [List.length_append, List.length_cons, List.length_nil]; exact h3.le (by omega))
        rw [app_1] at h
        exact h
      rw [if_pos (nI_lt (by omega) (by omega)), hr1.r0_2, orf_e, hr1.r0_6, orf_e]
      by_cases hl : k + 1 = nb
      · rw [if_pos (by rw [← hl, nI_pred]), tail 1 (by rw [decide_eq_false (by omega)]; rfl)]
      · have hne : ¬ nI k = nI nb - 1 := by
          have e : nI nb - 1 = nI (nb - 1) := by
            rw [show nb = nb - 1 + 1 by omega, nI_pred, show nb - 1 + 1 - 1 = nb - 1 by omega]
          rw [e]
          exact fun q => hl (by have := nI_inj (by omega) (by omega) q; omega)
        rw [if_neg hne, tail 0 (by rw [decide_eq_true (by omega)]; rfl)]
