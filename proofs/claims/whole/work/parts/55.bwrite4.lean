/-! PURE PART: write: class and reference answer alike -/
theorem sumN_out (s : Nat → Nat) (a : Nat) : ∀ k, a ≤ k → (∀ j, a < j → j ≤ k → s j = 0) → sumN s k = sumN s a := by
  intro k
  induction k with
  | zero => intro h _; rw [show a = 0 by omega]
  | succ k ih =>
    intro h h0
    by_cases hk : a = k + 1
    · rw [hk]
    · rw [sumN, h0 (k + 1) (by omega) (by omega), ih (by omega) (fun j x y => h0 j x (by omega)), Nat.add_zero]
theorem itF_len0 (f : Nat → Int32 → Int32) (s lo : Nat → Nat) (r : Nat) : (itF f s lo r 1).length = sumN s r := by
  have h := itF_len f s lo r 0
  rw [show sumN s 0 = 0 from rfl, Nat.zero_add r] at h
  exact h
theorem cHead_eq {M : JM} (hr : RF (gr M)) (num v : Int32) (h : Rm (gi M 2 1) 3) : f_X4_putHead 2 num v M = some ((), aC M [num, v >>> ((8 : Int32) &&& 31), v &&& 255]) := by
  have h1 := aC_put hr (L := []) num (h.le (by simp only [List.length_cons, List.length_nil]; omega))
  have h2 := aC_put hr (L := [num]) (v >>> ((8 : Int32) &&& 31)) (h.le (by simp only [List.length_cons, List.length_nil]; omega))
  have h3 := aC_put hr (L := [num, v >>> ((8 : Int32) &&& 31)]) (v &&& 255) (h.le (by simp only [List.length_cons, List.length_nil]; omega))
  rw [aC_0] at h1
  unfold f_X4_putHead
  rw [h1, ob_e]
  show ob (f_X4_put 2 (v >>> ((8 : Int32) &&& 31)) (aC M [num])) _ = _
  rw [h2, ob_e]
  show ob (f_X4_put 2 (v &&& 255) (aC M [num, v >>> ((8 : Int32) &&& 31)])) _ = _
  rw [h3, ob_e]
  rfl
theorem room_n {z : Int32} (h0 : 0 ≤ z) (h1 : z ≤ 300) (t : Nat) (ht : t ≤ 2000) : (300 - z < nI t ↔ 300 < z.toInt + t) ∧ (300 < z + nI t ↔ 300 < z.toInt + t) := by
  have e0 : (0 : Int32).toInt = 0 := rfl
  have e3 : (300 : Int32).toInt = 300 := rfl
  have en : (nI t).toInt = t := nI_toInt (by omega)
  rw [ti_le, e0] at h0
  rw [ti_le, e3] at h1
  constructor
  · rw [ti_lt, ti_sub (by rw [e3]; omega) (by rw [e3]; omega), e3, en]
    omega
  · rw [ti_lt, ti_add (by rw [en]; omega) (by rw [en]; omega), e3, en]
/-- the block that write puts -/
def wrL (M : JM) (s : Nat → Nat) (i a nb t : Nat) : List Int32 := [gi M (61 + 4 * i) 0, nI t >>> ((8 : Int32) &&& 31), nI t &&& 255] ++ blF s nb nb 0 ++ itF (fun _ => gi M 16) s (fun p => (p - 1) * 58) a 1
theorem wrL_len (M : JM) (s : Nat → Nat) (i a nb t : Nat) : (wrL M s i a nb t).length = 3 + nb + sumN s a := by
  have h := itF_len (fun _ => gi M 16) s (fun p => (p - 1) * 58) a 0
  unfold wrL
  rw [List.length_append, List.length_append, blF_len]
  simp only [sumN, Nat.zero_add, Nat.add_zero, List.length_cons, List.length_nil] at h ⊢
  omega
theorem cWrite_eq {M : JM} (hr : RF (gr M)) {s : Nat → Nat} (hs : Sz M 17 s) {i : Nat} (hi : i < 3) (hc : ICat M i) (h1 : 0 ≤ nI i ∧ nI i < gi M 0 1) (ho : gi M 15 0 = nI i) (hz : 0 ≤ gi M 2 1 ∧ gi M 2 1 ≤ 300) : f_X7_write 0 M = if lastN s 21 = 0 then some (-2, M) else if 300 < (gi M 2 1).toInt + (3 + (lastN s 21 + 6) / 7 + sumN s 21 : Nat) then some (-3, M) else some (nI (3 + (lastN s 21 + 6) / 7 + sumN s 21), aC M (wrL M s i (lastN s 21) ((lastN s 21 + 6) / 7) (3 + (lastN s 21 + 6) / 7 + sumN s 21))) := by
  have ha := lastN_le s 21
  have hsum := sumN_le s 21 (fun j a b => (hs j a b).2)
  have hl : f_X2_lastPlace 15 M = some (nI (lastN s 21), M) := by
    unfold f_X2_lastPlace
    exact lp_last hr hs FU 21 (by omega) (by show _ < 4096; omega)
  have hsm : f_X2_itemBytes 15 M = some (nI (sumN s 21), M) := by
    unfold f_X2_itemBytes
    exact lp_sum hr hs FU 0 (by omega) (by show _ < 4096; omega)
  have e8 : sumN s (lastN s 21) = sumN s 21 := (sumN_out s (lastN s 21) 21 ha (fun j x y => lastN_out s 21 j x y)).symm
  generalize hA : lastN s 21 = a at *
  generalize hS : sumN s 21 = S at *
  have hnb : (a + 6) / 7 ≤ 3 := by omega
  generalize hB : (a + 6) / 7 = nb at *
  unfold f_X7_write
  rw [hr.r0_6, orf_e, ho, cCat_yes hr hi hc h1, ob_e, oca_s, hr.r0_6, orf_e, hl, ob_e, sv_e]
  by_cases h0 : a = 0
  · rw [if_pos h0, if_pos (by rw [h0]; rfl)]
  · rw [if_neg h0, if_neg (nI_ne0 (by omega) (by omega)), (bits_n a (by omega)).1, hB, sv_e, hr.r0_6, orf_e, hsm, ob_e, sv_e, show (3 : Int32) + nI nb + nI S = nI (3 + nb + S) by rw [show (3 : Int32) = nI 3 from rfl, nI_add, nI_add], hr.r0_2, orf_e]
    generalize hT : 3 + nb + S = t at *
    obtain ⟨rm1, rm2⟩ := room_n hz.1 hz.2 t (by omega)
    unfold f_X4_hasRoom
    by_cases hf : 300 < (gi M 2 1).toInt + (t : Int)
    · rw [if_pos (rm1.mpr hf), if_pos hf, ob_e, if_neg (by decide)]
    · have hrm : Rm (gi M 2 1) t := ⟨hz.1, by omega⟩
      rw [if_neg (fun q => hf (rm1.mp q)), if_neg hf, ob_e, if_pos rfl, hr.r0_2, orf_e, cHead_eq hr _ _ (hrm.le (by omega)), ob_e, sv_e]
      have hb := lp_cbits hr hs nb hnb (nI a) (nI t) FU 0 [gi M (61 + 4 * i) 0, nI t >>> ((8 : Int32) &&& 31), nI t &&& 255] (by omega) (by show _ < 4096; omega) (hrm.le (by simp only [List.length_cons, List.length_nil]; omega))
      have hb2 : f_X7_write_L85 FU 0 (nI a) (nI nb) (nI t) 0 (aC M [gi M (61 + 4 * i) 0, nI t >>> ((8 : Int32) &&& 31), nI t &&& 255]) = f_X7_write_L126 0 (nI a) (nI t) (aC M ([gi M (61 + 4 * i) 0, nI t >>> ((8 : Int32) &&& 31), nI t &&& 255] ++ blF s nb nb 0)) := hb
      rw [hb2]
      unfold f_X7_write_L126
      have hit := itF_len0 (fun _ => gi M 16) s (fun p => (p - 1) * 58) a
      rw [e8] at hit
      have hi2 : f_X7_write_L129 FU 0 (nI a) (nI t) 1 (aC M ([gi M (61 + 4 * i) 0, nI t >>> ((8 : Int32) &&& 31), nI t &&& 255] ++ blF s nb nb 0)) = some (nI t, aC M (([gi M (61 + 4 * i) 0, nI t >>> ((8 : Int32) &&& 31), nI t &&& 255] ++ blF s nb nb 0) ++ itF (fun _ => gi M 16) s (fun p => (p - 1) * 58) a 1)) := lp_citems hr hs a ha (nI t) FU 0 _ (by omega) (by show _ < 4096; omega) (hrm.le (by rw [List.length_append, blF_len]; simp only [List.length_cons, List.length_nil, Nat.sub_zero, Nat.zero_add]; rw [hit]; omega))
      rw [sv_e, hi2]
      rfl
theorem mWrite_eq {M : JM} (hr : RF (gr M)) {s : Nat → Nat} (hs : Sz M 48 s) {i : Nat} (hi : i < 3) (ho : gi M 32 25 = nI i) (hz : 0 ≤ gi M 32 8 ∧ gi M 32 8 ≤ 300) : f_X8_write 32 M = if lastN s 21 = 0 then some (-2, M) else if 300 < (gi M 32 8).toInt + (3 + (lastN s 21 + 6) / 7 + sumN s 21 : Nat) then some (-3, M) else some (nI (3 + (lastN s 21 + 6) / 7 + sumN s 21), aM M ([gi M 33 (nI i) &&& 255, (nI (3 + (lastN s 21 + 6) / 7 + sumN s 21) >>> ((8 : Int32) &&& 31)) &&& 255, nI (3 + (lastN s 21 + 6) / 7 + sumN s 21) &&& 255] ++ blF s ((lastN s 21 + 6) / 7) ((lastN s 21 + 6) / 7) 0 ++ itG M s 21 1)) := by
  have ha := lastN_le s 21
  have hsum := sumN_le s 21 (fun j a b => (hs j a b).2)
  have hn : 0 ≤ nI i := nI_pos' (by omega)
  have h6 : f_X8_write_L6 FU 32 0 3 1 M = f_X8_write_L49 32 (nI (lastN s 21)) (nI (3 + sumN s 21)) M := lp_mlast hr hs (by rw [ho]; exact Int32.not_lt.mpr hn) FU 0 (by omega) (by show _ < 4096; omega)
  unfold f_X8_write
  rw [sv_e, sv_e, sv_e, h6]
  generalize hA : lastN s 21 = a at *
  generalize hS : sumN s 21 = S at *
  have hnb : (a + 6) / 7 ≤ 3 := by omega
  unfold f_X8_write_L49
  by_cases h0 : a = 0
  · rw [if_pos h0, if_pos (by rw [h0]; rfl)]
  · rw [if_neg h0, if_neg (nI_ne0 (by omega) (by omega)), (bits_n a (by omega)).2, sv_e, nI_add, sv_e]
    generalize hB : (a + 6) / 7 = nb at *
    rw [show 3 + S + nb = 3 + nb + S by omega]
    generalize hT : 3 + nb + S = t at *
    obtain ⟨rm1, rm2⟩ := room_n hz.1 hz.2 t (by omega)
    by_cases hf : 300 < (gi M 32 8).toInt + (t : Int)
    · rw [if_pos (rm2.mpr hf), if_pos hf]
    · have hrm : Rm (gi M 32 8) t := ⟨hz.1, by omega⟩
      rw [if_neg (fun q => hf (rm2.mp q)), if_neg hf, hr.r32_1, orf_e, ln_33, ho, if_pos ⟨hn, nI_lt hi (by decide)⟩]
      have p1 := aM_put hr (L := []) (gi M 33 (nI i)) (hrm.le (by simp only [List.length_nil]; omega))
      have p2 := aM_put hr (L := [gi M 33 (nI i) &&& 255]) (nI t >>> ((8 : Int32) &&& 31)) (hrm.le (by simp only [List.length_cons, List.length_nil]; omega))
      have p3 := aM_put hr (L := [gi M 33 (nI i) &&& 255, (nI t >>> ((8 : Int32) &&& 31)) &&& 255]) (nI t) (hrm.le (by simp only [List.length_cons, List.length_nil]; omega))
      rw [aM_0] at p1
      rw [p1, ob_e]
      show ob (f_X8_put 32 (nI t >>> ((8 : Int32) &&& 31)) (aM M [gi M 33 (nI i) &&& 255])) _ = _
      rw [p2, ob_e]
      show ob (f_X8_put 32 (nI t) (aM M [gi M 33 (nI i) &&& 255, (nI t >>> ((8 : Int32) &&& 31)) &&& 255])) _ = _
      rw [p3, ob_e, sv_e]
      have hb2 : f_X8_write_L112 FU 32 (nI t) (nI nb) 0 (aM M [gi M 33 (nI i) &&& 255, (nI t >>> ((8 : Int32) &&& 31)) &&& 255, nI t &&& 255]) = f_X8_write_L195 32 (nI t) (aM M ([gi M 33 (nI i) &&& 255, (nI t >>> ((8 : Int32) &&& 31)) &&& 255, nI t &&& 255] ++ blF s nb nb 0)) := lp_mbits hr hs nb hnb (nI t) FU 0 _ (by omega) (by show _ < 4096; omega) (hrm.le (by simp only [List.length_cons, List.length_nil]; omega))
      show f_X8_write_L112 FU 32 (nI t) (nI nb) 0 (aM M [gi M 33 (nI i) &&& 255, (nI t >>> ((8 : Int32) &&& 31)) &&& 255, nI t &&& 255]) = _
      rw [hb2]
      unfold f_X8_write_L195
      have hit := itF_len0 (fun _ j => gi M 49 j &&& 255) s (fun p => 60 * p) 21
      rw [hS] at hit
      have hi2 : f_X8_write_L198 FU 32 (nI t) 1 (aM M ([gi M 33 (nI i) &&& 255, (nI t >>> ((8 : Int32) &&& 31)) &&& 255, nI t &&& 255] ++ blF s nb nb 0)) = some (nI t, aM M (([gi M 33 (nI i) &&& 255, (nI t >>> ((8 : Int32) &&& 31)) &&& 255, nI t &&& 255] ++ blF s nb nb 0) ++ itG M s 21 1)) := lp_mitems hr hs (nI t) FU 1 _ (by omega) (by omega) (by show _ < 4096; omega) (hrm.le (by unfold itG; rw [List.length_append, blF_len, show 22 - 1 = 21 from rfl, hit]; simp only [List.length_cons, List.length_nil, Nat.zero_add]; omega))
      rw [sv_e, hi2]
theorem eq_write {M : JM} (hI : Inv M) : Eqi M (f_X7_write 0) (f_X8_write 32) := by
  have hI0 := hI
  obtain ⟨hr, hT, hP, hB, hO, hK, hM⟩ := hI
  obtain ⟨s, hs, hs8⟩ := Sz.of hO
  have hz : 0 ≤ gi M 2 1 ∧ gi M 2 1 ≤ 300 := ⟨hP.2.1, hP.2.2.1⟩
  rcases hO.1 with ⟨b1, b2⟩ | ⟨i, hi, c1, c2, c3⟩
  · refine Eqi.same hI0 (r := -2) ?_ ?_
    · have hl : f_X2_lastPlace 15 M = some (nI (lastN s 21), M) := by
        unfold f_X2_lastPlace
        exact lp_last hr hs FU 21 (by omega) (by show _ < 4096; omega)
      unfold f_X7_write
      rw [hr.r0_6, orf_e, b1, cCat_no (by grind), ob_e, oca_n, hr.r0_6, orf_e, hl, ob_e, sv_e]
    · unfold f_X8_write
      rw [sv_e, sv_e, sv_e, show FU = 4095 + 1 from rfl, f_X8_write_L6, if_neg (by decide), b2, if_pos (by decide)]
      unfold f_X8_write_L49
      rw [if_pos rfl]
  · have hn : 0 ≤ nI i := nI_pos' (by omega)
    obtain ⟨c, d1, d2, d3, d4, d5⟩ := hT
    have hic : i < c := by
      rw [d2] at c1
      exact (nI_ltI (by omega) (by omega)).mp c1
    have hc := d5 i hic
    have hcl := cWrite_eq hr hs hi hc ⟨hn, c1⟩ c2 hz
    by_cases h0 : lastN s 21 = 0
    · rw [if_pos h0] at hcl
      refine Eqi.same hI0 hcl ?_
      rw [mWrite_eq hr hs8 hi c3 (by rw [← hP.1]; exact hz), if_pos h0]
    · rw [if_neg h0] at hcl
      by_cases hf : 300 < (gi M 2 1).toInt + (3 + (lastN s 21 + 6) / 7 + sumN s 21 : Nat)
      · rw [if_pos hf] at hcl
        refine Eqi.same hI0 hcl ?_
        rw [mWrite_eq hr hs8 hi c3 (by rw [← hP.1]; exact hz), if_neg h0, ← hP.1, if_pos hf]
      · rw [if_neg hf] at hcl
        have ha := lastN_le s 21
        have hsum := sumN_le s 21 (fun j a b => (hs j a b).2)
        have e8 : sumN s (lastN s 21) = sumN s 21 := (sumN_out s (lastN s 21) 21 ha (fun j x y => lastN_out s 21 j x y)).symm
        have hlen := wrL_len M s i (lastN s 21) ((lastN s 21 + 6) / 7) (3 + (lastN s 21 + 6) / 7 + sumN s 21)
        have hnum := hc.2.1
        have hz0 : 0 ≤ (gi M 2 1).toInt := by
          have := hz.1
          rw [ti_le, ti_0] at this
          exact this
        generalize hA : lastN s 21 = a at *
        generalize hS : sumN s 21 = S at *
        have ht : 3 + (a + 6) / 7 + S ≤ 300 := by omega
        generalize hB : (a + 6) / 7 = nb at *
        generalize ht3 : 3 + nb + S = t at *
        have hrm : Rm (gi M 2 1) (wrL M s i a nb t).length := ⟨hz.1, by rw [hlen, e8]; omega⟩
        generalize hL : wrL M s i a nb t = L at *
        have hr1 : RF (gr (aC M L)) := hr
        have k1 : ∀ k j, k ≠ 3 → k ≠ 2 → gi (aC M L) k j = gi M k j := fun k j x y => keep_aC x (fun q => y q.1)
        have hs1 : Sz (aC M L) 48 s := fun j x y => by rw [k1 _ _ (by decide) (by decide)]; exact hs8 j x y
        have hmd := mWrite_eq hr1 hs1 hi (by rw [k1 _ _ (by decide) (by decide)]; exact c3) (by rw [k1 _ _ (by decide) (by decide), ← hP.1]; exact hz)
        rw [hA, hS, hB, ht3, if_neg h0, k1 32 8 (by decide) (by decide), ← hP.1, if_neg hf, k1 33 _ (by decide) (by decide)] at hmd
        obtain ⟨hb1, hb2, hb3⟩ := hi_byte t (by omega)
        have hv : ∀ p j, 1 ≤ p → p ≤ 21 → j < s p → gi M 16 (nI ((p - 1) * 58) + nI j) = gi M 49 (nI (60 * p) + nI j) ∧ 0 ≤ gi M 49 (nI (60 * p) + nI j) ∧ gi M 49 (nI (60 * p) + nI j) ≤ 255 := by
          intro p j x y w
          obtain ⟨o1, o2, o3, o4⟩ := hO.2 (nI p) (nI_le (a := 1) x (by omega)) (nI_le (b := 21) y (by decide))
          have h := o4 (nI j) (nI_pos' (by have := (hs8 p x y).2; omega)) (by rw [(hs8 p x y).1]; exact nI_lt w (by have := (hs8 p x y).2; omega))
          have e1 : (nI p - 1) * 58 = nI ((p - 1) * 58) := by rw [show p = p - 1 + 1 by omega, nI_pred, show (58 : Int32) = nI 58 from rfl, pk_mul, show p - 1 + 1 - 1 = p - 1 by omega]
          have e2 : 60 * nI p = nI (60 * p) := by rw [show (60 : Int32) = nI 60 from rfl, pk_mul]
          rw [e1, e2] at h
          exact h
        have hLL : [gi M 33 (nI i) &&& 255, (nI t >>> ((8 : Int32) &&& 31)) &&& 255, nI t &&& 255] ++ blF s nb nb 0 ++ itG (aC M L) s 21 1 = L := by
          refine Eq.trans ?_ hL
          unfold wrL itG
          rw [hb1, hnum.1, and255_eq (by grind) hnum.2.2]
          congr 1
          have e21 : itF (fun _ j => gi (aC M L) 49 j &&& 255) s (fun p => 60 * p) 21 1 = itF (fun _ => gi M 16) s (fun p => (p - 1) * 58) 21 1 := by
            refine itF_congr 21 1 (fun p x y j w => ?_)
            obtain ⟨v1, v2, v3⟩ := hv p j x (by omega) w
            show gi (aC M L) 49 (nI (60 * p) + nI j) &&& 255 = gi M 16 (nI ((p - 1) * 58) + nI j)
            rw [k1 _ _ (by decide) (by decide), and255_eq v2 v3, v1]
          rw [e21, show (21 : Nat) = a + (21 - a) by omega, itF_app, itF_nil _ _ _ (21 - a) (1 + a) (fun j x y => lastN_out s 21 j (by omega) (by omega)), List.append_nil]
        rw [hLL] at hmd
        refine ⟨_, _, _, hcl, hmd, Inv_tape hI0 rfl rfl (fun k j hd => keep_aCM hd) (aCM_tape hP hrm (fun v hv' => ?_))⟩
        rw [← hL] at hv'
        unfold wrL at hv'
        rcases List.mem_append.mp hv' with h | h
        · rcases List.mem_append.mp h with h | h
          · rcases List.mem_cons.mp h with h | h
            · rw [h, hnum.1]; exact ⟨by grind, hnum.2.2⟩
            · rcases List.mem_cons.mp h with h | h
              · rw [h]; exact ⟨hb2, hb3⟩
              · rw [List.mem_singleton.mp h]; exact and255 _
          · obtain ⟨j, hj⟩ := blF_mem _ _ h
            rw [hj]
            exact (byt_eq s nb j).2
        · obtain ⟨p, j, x, y, w, hj⟩ := itF_mem _ _ h
          rw [hj]
          obtain ⟨v1, v2, v3⟩ := hv p j x (by omega) w
          rw [v1]
          exact ⟨v2, v3⟩
