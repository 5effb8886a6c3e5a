/-! PURE PART: set: how long an item can be; what class and reference do -/
theorem sGoing_le {T : Int32 → Int32} {z : Nat} (hz : z ≤ 300) : ∀ (k x y : Nat), k ≤ 10 → x ≤ z → y ≤ 1000 → sGoing T (nI z) k (nI x) = .inl (nI y) → y ≤ x + k := by
  intro k
  induction k with
  | zero => intro x y _ _ _ h; rw [sGoing] at h; cases h
  | succ k ih =>
    intro x y hk hx hy h
    rw [sGoing] at h
    split at h
    · rename_i g1
      have g1' := (nI_ltI (by omega) (by omega)).mp g1
      split at h
      · split at h
        · cases h
        · rw [nI_p1] at h
          have := ih (x + 1) y (by omega) (by omega) hy h
          omega
      · have e := Sum.inl.inj h
        rw [nI_p1] at e
        have := nI_inj (by omega) (by omega) e
        omega
    · cases h
theorem sParts_le {B : Int32 → Bool} {w : Int32 → Int32} {z : Nat} (hz : z ≤ 300) {v : Nat → Nat} (hw : ∀ t, t < 14 → w (nI t) = nI (v t) ∧ v t ≤ 4) : ∀ (k m x y : Nat), m + k ≤ 14 → x ≤ z → y ≤ 1000 → sParts B w (nI z) k (nI m) (nI x) = .inl (nI y) → y ≤ x + 4 * k := by
  intro k
  induction k with
  | zero =>
    intro m x y hm hx hy h
    rw [sParts] at h
    have := nI_inj (by omega) (by omega) (Sum.inl.inj h)
    omega
  | succ k ih =>
    intro m x y hm hx hy h
    obtain ⟨w1, w2⟩ := hw m (by omega)
    rw [sParts] at h
    split at h
    · rw [w1] at h
      split at h
      · rename_i a' hn
        obtain ⟨n1, rfl⟩ := sNeed_inl (by omega) (by omega) (by omega) hn
        rw [nI_p1] at h
        have := ih (m + 1) (x + v m) y (by omega) n1 hy h
        omega
      · cases h
    · rw [nI_p1] at h
      have := ih (m + 1) x y (by omega) hx hy h
      omega
theorem cItem_le {M : JM} {i : Nat} (hc : ICat M i) {T : Int32 → Int32} {z : Nat} (hz : z ≤ 300) {p : Int32} (hp : 0 ≤ p ∧ p ≤ 21) (h9 : gi M (62 + 4 * i) p ≠ -9) {x y : Nat} (hx : x ≤ z) (hy : y ≤ 300) (h : cItem M i T (nI z) p (nI x) = .inl (nI y)) : y ≤ x + 58 := by
  obtain ⟨k1, k2, k3⟩ := hc.2.2.1 p hp.1 hp.2
  obtain ⟨n, en, hn⟩ := k3.k1 h9
  unfold cItem sItem at h
  rw [en] at h
  split at h
  · obtain ⟨a, e⟩ := sNeed_inl (by omega) (by omega) (by omega) h
    have := nI_inj (by omega) (by omega) e
    omega
  · split at h
    · have := sGoing_le hz 6 x y (by omega) hx (by omega) h
      omega
    · split at h
      · unfold sAgain at h
        split at h
        · rename_i g1
          have g1' := (nI_ltI (by omega) (by omega)).mp g1
          split at h
          · rename_i g2
            obtain ⟨t, et, ht⟩ := nI_ex (x := T (nI x)) (h := 5) (by grind) g2.2 (by decide)
            have hm := Nat.mul_le_mul ht hn
            rw [et, pk_mul, nI_p1] at h
            obtain ⟨a, e⟩ := sNeed_inl (by omega) (by omega) (by omega) h
            have := nI_inj (by omega) (by omega) e
            omega
          · cases h
        · cases h
      · obtain ⟨v, hv⟩ := hc.wx hp
        unfold sMade at h
        split at h
        · cases h
        · rename_i a1 hs
          obtain ⟨nb, b1, b2, b3, rfl⟩ := sBits_in hz 2 x a1 (by decide) hx hs
          split at h
          · cases h
          · have := sParts_le hz hv 14 0 (x + nb) y (by omega) b3 (by omega) h
            omega
/-- the class's set, as it puts -/
def stC (M : JM) (i : Nat) (p : Nat) (w : Nat) (n f u : Int32) : JM := si (si (cpm (rdM (sr (si M 4 3 (nI w)) 4 1 (some (61 + 4 * i))) n f u) 3 0 16 (nI ((p - 1) * 58)) (nI w)) 17 (nI p) (nI w)) 2 1 0
theorem rd_sr (M : JM) (n f p : Int32) (k : Nat) (j : Int32) (o : Option Nat) : sr (rdM M n f p) k j o = rdM (sr M k j o) n f p := rfl
theorem cset_eq {M : JM} (hr : RF (gr M)) {i : Nat} (hi : i < 3) (hc : ICat M i) (hlt : nI i < gi M 0 1) (ho : gi M 15 0 = nI i) {w : Nat} (hw : gi M 2 1 = nI w) (h3 : w ≤ 300) {p : Nat} (hp : 1 ≤ p ∧ p ≤ 21) :
    (gi M (62 + 4 * i) (nI p) = -9 → ∃ n f u, f_X7_set 0 (nI p) M = some (-1, rdM (sr (si M 4 3 (nI w)) 4 1 (some (61 + 4 * i))) n f u)) ∧
    (gi M (62 + 4 * i) (nI p) ≠ -9 → cItem M i (gi M 3) (nI w) (nI p) 0 ≠ .inl (nI w) → ∃ n f u, f_X7_set 0 (nI p) M = some (-1, rdM (sr (si M 4 3 (nI w)) 4 1 (some (61 + 4 * i))) n f u)) ∧
    (gi M (62 + 4 * i) (nI p) ≠ -9 → cItem M i (gi M 3) (nI w) (nI p) 0 = .inl (nI w) → ∃ n f u, f_X7_set 0 (nI p) M = some (nI w, stC M i p w n f u)) := by
  have hpp : 1 ≤ nI p ∧ nI p ≤ 21 := ⟨nI_le (a := 1) hp.1 (by omega), nI_le (b := 21) hp.2 (by decide)⟩
  have hp0 : 0 ≤ nI p ∧ nI p ≤ 21 := ⟨nI_pos' (by omega), hpp.2⟩
  have l22 : 0 ≤ nI p ∧ nI p < 22 := ⟨hp0.1, nI_lt (b := 22) (by omega) (by decide)⟩
  generalize hA : sr (si M 4 3 (nI w)) 4 1 (some (61 + 4 * i)) = A
  have hgA : ∀ k j, ¬ (k = 4 ∧ j = 1) → gr A k j = gr M k j := fun k j a => by rw [← hA, gr_sr, if_neg a]; rfl
  have kA : ∀ k j, k ≠ 4 → gi A k j = gi M k j := fun k j a => by rw [← hA, gi_sr, gi_si, if_neg (fun x => a x.1)]
  have hrA : RF (gr A) := hr.ofr (fun k j a _ => hgA k j a) (fun j _ _ => hgA 0 j (by omega))
  have h41 : gr A 4 1 = some (61 + 4 * i) := by rw [← hA, gr_sr, if_pos ⟨rfl, rfl⟩]
  have hcA : ICat A i := by
    have := hc
    unfold ICat at this ⊢
    have hgA' : ∀ k j, k ≠ 4 → gr A k j = gr M k j := fun k j a => hgA k j (fun x => a x.1)
    simp only [hgA' 1 _ (by decide), hgA' (61 + 4 * i) _ (by omega), kA _ _ (show 61 + 4 * i ≠ 4 by omega), kA _ _ (show 62 + 4 * i ≠ 4 by omega), kA _ _ (show 63 + 4 * i ≠ 4 by omega), kA _ _ (show 64 + 4 * i ≠ 4 by omega), kA 33 _ (by decide), kA 34 _ (by decide), kA 35 _ (by decide), kA 36 _ (by decide), kA 37 _ (by decide), kA 38 _ (by decide)]
    exact this
  have hRd : RdC A (gi M 3) w := ⟨hrA, by rw [← hA, gi_sr, gi_si, if_pos ⟨rfl, rfl⟩], h3, fun j hj => kA 3 _ (by decide)⟩
  have hhead : f_X7_set 0 (nI p) M = ob (f_X3_passItem 4 (nI p) (rdM A (nI 0) 0 (gi M 4 5))) fun _ M18 => orf (gr M18 (61 + 4 * i) 1) fun r20 => if 0 ≤ (nI p) ∧ (nI p) < ln r20 then (if (gi M18 r20 (nI p)) = (-9 : Int32) then (some ((-1 : Int32), M18)) else (orf (gr M18 0 3) fun r21 => if (gi M18 r21 4) = 0 then (orf (gr M18 0 3) fun r22 => if (gi M18 r22 2) = nI w then (orf (gr M18 0 6) fun r23 => orf (gr M18 0 2) fun r24 => orf (gr M18 r24 0) fun r25 => ob (f_X2_putItem r23 (nI p) r25 (nI w) M18) fun _ M26 => orf (gr M26 0 2) fun r28 => sq (si M26 r28 1 (0 : Int32)) fun M29 => some (nI w, M29)) else (some ((-1 : Int32), M18))) else (some ((-1 : Int32), M18)))) else none := by
    unfold f_X7_set
    rw [cPlace_eq, ob_e, decide_eq_true hpp, if_pos rfl, hr.r0_6, orf_e, ho, cCat_yes hr hi hc ⟨nI_pos' (by omega), hlt⟩, ob_e, oca_s, hr.r0_2, orf_e, hw, sv_e, hr.r0_3, orf_e, st_eq, ob_e, Gr_rd, Gr_si, hr.r0_3, orf_e, sq_e, rd_sr, hA, Gr_rd, hrA.r0_3, orf_e]
    rfl
  have htail : ∀ n f u, (orf (gr (rdM A n f u) (61 + 4 * i) 1) fun r20 => if 0 ≤ (nI p) ∧ (nI p) < ln r20 then (if (gi (rdM A n f u) r20 (nI p)) = (-9 : Int32) then (some ((-1 : Int32), (rdM A n f u))) else (orf (gr (rdM A n f u) 0 3) fun r21 => if (gi (rdM A n f u) r21 4) = 0 then (orf (gr (rdM A n f u) 0 3) fun r22 => if (gi (rdM A n f u) r22 2) = nI w then (orf (gr (rdM A n f u) 0 6) fun r23 => orf (gr (rdM A n f u) 0 2) fun r24 => orf (gr (rdM A n f u) r24 0) fun r25 => ob (f_X2_putItem r23 (nI p) r25 (nI w) (rdM A n f u)) fun _ M26 => orf (gr M26 0 2) fun r28 => sq (si M26 r28 1 (0 : Int32)) fun M29 => some (nI w, M29)) else (some ((-1 : Int32), (rdM A n f u)))) else (some ((-1 : Int32), (rdM A n f u))))) else none) = if gi M (62 + 4 * i) (nI p) = -9 then some (-1, rdM A n f u) else if f = 0 then (if n = nI w then (ob (f_X2_putItem 15 (nI p) 3 (nI w) (rdM A n f u)) fun _ M26 => orf (gr M26 0 2) fun r28 => sq (si M26 r28 1 (0 : Int32)) fun M29 => some (nI w, M29)) else some (-1, rdM A n f u)) else some (-1, rdM A n f u) := by
    intro n f u
    rw [Gr_rd, hcA.1.2.1, orf_e, ln_kinds hi, if_pos l22, rd_k (show 62 + 4 * i ≠ 4 by omega), kA _ _ (show 62 + 4 * i ≠ 4 by omega), hrA.r0_3, orf_e, orf_e, rd4, rd2, hrA.r0_6, orf_e, hrA.r0_2, orf_e, hrA.r2_0, orf_e]
  have hci : ∀ a, cItem A i (gi M 3) (nI w) (nI p) a = cItem M i (gi M 3) (nI w) (nI p) a := fun a => cItem_of (fun k j hk => kA k j (by omega)) _ _ _ a
  refine ⟨fun h9 => ?_, fun h9 hne => ?_, fun h9 he => ?_⟩
  · have hpass : f_X3_passItem 4 (nI p) (rdM A (nI 0) 0 (gi M 4 5)) = some ((), rdM A (nI 0) 0 (gi M 4 5)) := by
      unfold f_X3_passItem
      rw [Gr_rd, h41, orf_e, hcA.1.2.1, orf_e, ln_kinds hi, if_pos l22, rd_k (show 62 + 4 * i ≠ 4 by omega), kA _ _ (show 62 + 4 * i ≠ 4 by omega), h9, if_neg (by decide), if_neg (by decide), if_neg (by decide), if_neg (by decide)]
    refine ⟨nI 0, 0, gi M 4 5, ?_⟩
    rw [hhead, hpass, ob_e, htail, if_pos h9]
  · have hit := item_eq hRd (gi M 4 5) hi hcA h41 hp0 (by rw [kA _ _ (show 62 + 4 * i ≠ 4 by omega)]; exact h9) (x := 0) (by omega)
    rw [hci, show nI 0 = 0 from rfl] at hit
    rw [show nI 0 = 0 from rfl] at hhead
    generalize hR : cItem M i (gi M 3) (nI w) (nI p) 0 = R at hit hne
    rcases R with a | ⟨f, u⟩
    · have hit : f_X3_passItem 4 (nI p) (rdM A 0 0 (gi M 4 5)) = some ((), rdM A a 0 (gi M 4 5)) := hit
      refine ⟨a, 0, gi M 4 5, ?_⟩
      rw [hhead, hit, ob_e, htail, if_neg h9, if_pos rfl, if_neg (fun x => hne (by rw [x]))]
    · obtain ⟨hf, n, hit⟩ := hit
      refine ⟨n, f, u, ?_⟩
      rw [hhead, hit, ob_e, htail, if_neg h9, if_neg hf]
  · have hit := item_eq hRd (gi M 4 5) hi hcA h41 hp0 (by rw [kA _ _ (show 62 + 4 * i ≠ 4 by omega)]; exact h9) (x := 0) (by omega)
    rw [hci, show nI 0 = 0 from rfl, he] at hit
    have hit : f_X3_passItem 4 (nI p) (rdM A 0 0 (gi M 4 5)) = some ((), rdM A (nI w) 0 (gi M 4 5)) := hit
    rw [show nI 0 = 0 from rfl] at hhead
    have hle := cItem_le hc h3 hp0 h9 (x := 0) (y := w) (by omega) (by omega) he
    refine ⟨nI w, 0, gi M 4 5, ?_⟩
    have e58 : (nI p - 1) * 58 = nI ((p - 1) * 58) := by rw [show p = p - 1 + 1 by omega, nI_pred, show (58 : Int32) = nI 58 from rfl, pk_mul, show p - 1 + 1 - 1 = p - 1 by omega]
    rw [hhead, hit, ob_e, htail, if_neg h9, if_pos rfl, if_pos rfl]
    unfold f_X2_putItem f_X2_rowOf
    have hg2 : ∀ v, gr (si (cpm (rdM A (nI w) 0 (gi M 4 5)) 3 0 16 (nI ((p - 1) * 58)) (nI w)) 17 (nI p) v) = gr A := fun _ => rfl
    rw [if_neg (show ¬ 58 < nI w from Int32.not_lt.mpr (nI_le (b := 58) (by omega) (by decide))), Gr_rd, hrA.r15_1, orf_e, ob_e, e58, ln_3, ln_16, if_pos ⟨by decide, by decide, nI_pos' (by omega), nI_lt (b := 2000) (by omega) (by decide), nI_pos' (by omega), nI_lt (b := 2000) (by omega) (by decide), by rw [show (0 : Int32) + nI w = nI w by simp]; exact nI_le (b := 300) (by omega) (by decide), by rw [nI_add]; exact nI_le (b := 1218) (by omega) (by decide)⟩, sq_e, Gr_cpm, Gr_rd, hrA.r15_2, orf_e, ln_17, if_pos l22, sq_e, ob_e, hg2, hrA.r0_2, orf_e, sq_e]
    unfold stC
    rw [hA]
