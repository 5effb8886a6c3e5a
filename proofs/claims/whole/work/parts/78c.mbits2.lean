/-! PURE PART: the reference's bytes of bits, all of them; its items -/
def BtI (T : Int32 → Int32) (D : JM) (x b : Nat) : Prop := gi D 32 43 = nI x ∧ gi D 32 44 = nI b ∧ ∀ t, t < 21 → gi D 47 (nI (t + 1)) = bI (bs T (nI x) (nI b) (nI t))
def bRes (R : Rs) (n f p p0 e : Int32) : Prop := match R with
  | .inl a => a = e ∧ n = a ∧ f = 0 ∧ p = p0
  | .inr q => f = q.1 ∧ p = q.2 ∧ q.1 ≠ 0
theorem and254 : ∀ n : Nat, n < 256 → ¬ nI n &&& 1 = 1 → (nI n &&& 254 = 0 ↔ nI n = 0) := by decide +kernel
theorem BtI.next {T : Int32 → Int32} {D : JM} {x b : Nat} (h : BtI T D x b) (hb : b < 3) : BtI T (ow (si D 32 44 (nI (b + 1))) 47 (nI (7 * b + 1)) (nI (7 * b + 8)) (fun j => bI (bit T (nI x) (j - 1)))) x (b + 1) := by
  obtain ⟨h1, h2, h3⟩ := h
  refine ⟨?_, ?_, fun t ht => ?_⟩
  · rw [gi_ow, if_neg (by omega), gi_si, if_neg (by decide), h1]
  · rw [gi_ow, if_neg (by omega), gi_si, if_pos ⟨rfl, rfl⟩]
  · rw [gi_ow]
    by_cases c : 7 * b ≤ t ∧ t < 7 * b + 7
    · rw [if_pos ⟨rfl, nI_le (by omega) (by omega), nI_lt (by omega) (by omega)⟩, nI_pred, bs_in (by omega) (by omega)]
    · rw [if_neg, gi_si, if_neg (by omega), h3 t ht]
      · by_cases c2 : t < 7 * b
        · rw [bs_in c2 (by omega), bs_in (by omega) (by omega)]
        · rw [bs_out (by omega) (by omega), bs_out (by omega) (by omega)]
      · rintro ⟨-, y1, y2⟩
        have y1 := (nI_leI (by omega) (by omega)).mp y1
        have y2 := (nI_ltI (by omega) (by omega)).mp y2
        omega
theorem l36_d {D : JM} {n9 g u most v2 : Int32} (hg : g ≠ 0) (n : Nat) : f_X8_readBits_L36 (n + 1) 32 most v2 (mdM D n9 g u) = some ((), mdM D n9 g u) := by
  rw [f_X8_readBits_L36]
  by_cases h : v2 = 0
  · rw [if_pos h]
  · rw [if_neg h, md11, if_neg hg]
theorem lp_mallb {M : JM} {T : Int32 → Int32} {z : Nat} (h : RdD M T z) (p0 : Int32) {most x : Nat} (hm : most ≤ 3) : ∀ (n b : Nat) (D : JM), b < most → most + 2 - b ≤ n → x + b ≤ z → MB M D → BtI T D x b → ∃ D' n' f p b', f_X8_readBits_L36 n 32 (nI most) 1 (mdM D (nI (x + b)) 0 p0) = some ((), mdM D' n' f p) ∧ MB M D' ∧ BtI T D' x b' ∧ b ≤ b' ∧ b' ≤ most ∧ (x + b < z → b < b') ∧ bRes (sBits T (nI z) (most - b) (nI (x + b))) n' f p p0 (nI (x + b')) := by
  have hz := h.2.2.1
  intro n
  induction n with
  | zero => intro b D _ h; omega
  | succ n ih =>
    intro b D hb hn hx hD hI
    obtain ⟨n1, rfl⟩ : ∃ n1, n = n1 + 1 := ⟨n - 1, by omega⟩
    have hD' := hD.rdd h
    rw [f_X8_readBits_L36, if_neg (show ¬ (1 : Int32) = 0 by decide), md11, if_pos (show (0 : Int32) = 0 from rfl), md9, sv_e, show most - b = most - b - 1 + 1 by omega, sBits]
    by_cases c : x + b < z
    · have hMB1 : MB M (ow (si D 32 44 (nI (b + 1))) 47 (nI (7 * b + 1)) (nI (7 * b + 8)) (fun j => bI (bit T (nI x) (j - 1)))) := (hD.si (Or.inr ⟨rfl, Or.inr rfl⟩)).ow _ _ _
      have hI1 := hI.next (by omega)
      have hr1 : RF (gr (si D 32 44 (nI (b + 1)))) := hD'.1
      have h44 : gi (si D 32 44 (nI (b + 1))) 32 44 = nI (b + 1) := by rw [gi_si, if_pos ⟨rfl, rfl⟩]
      have h120 : ∀ v2 n9 f p, f_X8_readBits_L120 (f_X8_readBits_L36 (n1 + 1)) 32 (nI most) v2 (T (nI (x + b))) (mdM (si D 32 44 (nI (b + 1))) n9 f p) = f_X8_readBits_L36 (n1 + 1) 32 (nI most) v2 (mdM (ow (si D 32 44 (nI (b + 1))) 47 (nI (7 * b + 1)) (nI (7 * b + 8)) (fun j => bI (bit T (nI x) (j - 1)))) n9 f p) := by
        intro v2 n9 f p
        have := lp_mbit (T := T) (x := x) hr1 (show b < 3 by omega) h44 (f_X8_readBits_L36 (n1 + 1)) (nI most) v2 n9 f p FU 0 (by omega) (by show _ < 4096; omega)
        rw [Nat.add_zero, ow_0] at this
        unfold f_X8_readBits_L120
        rw [sv_e]
        exact this
      rw [if_pos (nI_lt c (by omega)), takes_y hD' p0 c, ob_e, sv_e, md11, if_pos (show (0 : Int32) = 0 from rfl)]
      unfold f_X8_readBits_L78 f_X8_readBits_L101
      rw [md_k (by decide), hI.2.1, nI_p1]
      have h44' : ∀ n9 f p, gi (mdM (si D 32 44 (nI (b + 1))) n9 f p) 32 44 = nI (b + 1) := fun n9 f p => by rw [md_k (by decide), h44]
      by_cases t1 : T (nI (x + b)) &&& 1 = 1
      · rw [if_pos t1, if_pos t1, sv_e, sq_e, md_si (by decide), if_neg (show ¬ (1 : Int32) = 0 by decide), h44']
        by_cases e : b + 1 = most
        · unfold f_X8_readBits_L114
          rw [if_pos (by rw [e]), fails_y, ob_e, h120, l36_d (by decide), if_pos (show most - b - 1 = 0 by omega)]
          exact ⟨_, _, _, _, b + 1, rfl, hMB1, hI1, by omega, by omega, fun _ => by omega, rfl, rfl, show (4 : Int32) ≠ 0 by decide⟩
        · rw [if_neg (show ¬ nI (b + 1) = nI most from fun y => e (nI_inj (by omega) (by omega) y)), if_neg (show ¬ (1 : Int32) = 0 by decide), h120, if_neg (show ¬ most - b - 1 = 0 by omega), nI_p1, show most - b - 1 = most - (b + 1) by omega, show x + b + 1 = x + (b + 1) by omega]
          obtain ⟨D', n', f, p, b', a1, a2, a3, a4, a5, a6, a7⟩ := ih (b + 1) _ (by omega) (by omega) (by omega) hMB1 hI1
          exact ⟨D', n', f, p, b', a1, a2, a3, by omega, a5, fun _ => by omega, a7⟩
      · obtain ⟨y, ey, hy⟩ := nI_ex (x := T (nI (x + b))) (h := 255) (h.2.2.2 _ c).2.1 (h.2.2.2 _ c).2.2 (by decide)
        have h254 := and254 y (by omega) (by rw [← ey]; exact t1)
        rw [← ey] at h254
        rw [if_neg t1, if_neg t1, sv_e, sq_e, md_si (by decide), if_pos (show (0 : Int32) = 0 from rfl), if_pos (show (0 : Int32) = 0 from rfl)]
        unfold f_X8_isEmptyByte f_X8_readBits_L114
        have hstop : ∀ N, f_X8_readBits_L36 (n1 + 1) 32 (nI most) 0 N = some ((), N) := fun N => by rw [f_X8_readBits_L36, if_pos rfl]
        by_cases g : T (nI (x + b)) = 0
        · rw [if_pos (h254.mpr g), if_pos g, ob_e, if_pos rfl, fails_y, ob_e, h120, hstop]
          exact ⟨_, _, _, _, b + 1, rfl, hMB1, hI1, by omega, by omega, fun _ => by omega, rfl, rfl, show (4 : Int32) ≠ 0 by decide⟩
        · rw [if_neg (fun q => g (h254.mp q)), if_neg g, ob_e, if_neg (by decide), h120, hstop, nI_p1]
          exact ⟨_, _, _, _, b + 1, rfl, hMB1, hI1, by omega, by omega, fun _ => by omega, rfl, rfl, rfl, rfl⟩
    · obtain ⟨n', e⟩ := takes_n hD' p0 (x := x + b) (by omega)
      unfold f_X8_readBits_L173
      rw [if_neg (Int32.not_lt.mpr (nI_le (by omega) (by omega))), e, ob_e, sv_e, md11, if_neg (by decide), l36_d (by decide)]
      exact ⟨_, _, _, _, b, rfl, hD, hI, by omega, by omega, fun y => absurd y c, rfl, rfl, show (3 : Int32) ≠ 0 by decide⟩
theorem mbits_eq {M : JM} {T : Int32 → Int32} {z : Nat} (h : RdD M T z) (p0 : Int32) {most x : Nat} (h0 : 0 < most) (hm : most ≤ 3) (hx : x ≤ z) : ∃ D' n' f p b', f_X8_readBits 32 (nI most) (mdM M (nI x) 0 p0) = some ((), mdM D' n' f p) ∧ MB M D' ∧ BtI T D' x b' ∧ b' ≤ most ∧ (x < z → 0 < b') ∧ bRes (sBits T (nI z) most (nI x)) n' f p p0 (nI (x + b')) := by
  have hmz := lp_mzero (D := si (si M 32 43 (nI x)) 32 44 0) h.1 (nI most) 1 (nI x) 0 p0 FU 0 (by omega) (by show _ < 4096; omega)
  rw [ow_0] at hmz
  have hMB : MB M (ow (si (si M 32 43 (nI x)) 32 44 0) 47 (nI 0) (nI 22) (fun _ => bI false)) := (((MB.refl M).si (Or.inr ⟨rfl, Or.inl rfl⟩)).si (Or.inr ⟨rfl, Or.inr rfl⟩)).ow _ _ _
  have hI : BtI T (ow (si (si M 32 43 (nI x)) 32 44 0) 47 (nI 0) (nI 22) (fun _ => bI false)) x 0 := by
    refine ⟨?_, ?_, fun t ht => ?_⟩
    · rw [gi_ow, if_neg (by omega), gi_si, if_neg (by decide), gi_si, if_pos ⟨rfl, rfl⟩]
    · rw [gi_ow, if_neg (by omega), gi_si, if_pos ⟨rfl, rfl⟩]; rfl
    · rw [gi_ow, if_pos ⟨rfl, nI_le (by omega) (by omega), nI_lt (by omega) (by omega)⟩, bs_out (by omega) (by omega)]
  obtain ⟨D', n', f, p, b', a1, a2, a3, a4, a5, a6, a7⟩ := lp_mallb h p0 (x := x) hm FU 0 _ h0 (by show _ ≤ 4096; omega) (by omega) hMB hI
  rw [Nat.add_zero, Nat.sub_zero] at a7
  refine ⟨D', n', f, p, b', ?_, a2, a3, a5, a6, a7⟩
  unfold f_X8_readBits
  rw [md9, sq_e, md_si (by decide), sq_e, md_si (by decide), sv_e, sv_e]
  exact hmz.trans a1
theorem mbits_d {M : JM} (hr : RF (gr M)) {n9 g p : Int32} (hg : g ≠ 0) (most : Int32) : ∃ D, f_X8_readBits 32 most (mdM M n9 g p) = some ((), mdM D n9 g p) ∧ MB M D ∧ ∀ t, t < 21 → gi D 47 (nI (t + 1)) = 0 := by
  have hmz := lp_mzero (D := si (si M 32 43 n9) 32 44 0) hr most 1 n9 g p FU 0 (by omega) (by show _ < 4096; omega)
  rw [ow_0] at hmz
  refine ⟨ow (si (si M 32 43 n9) 32 44 0) 47 (nI 0) (nI 22) (fun _ => bI false), ?_, (((MB.refl M).si (Or.inr ⟨rfl, Or.inl rfl⟩)).si (Or.inr ⟨rfl, Or.inr rfl⟩)).ow _ _ _, fun t ht => ?_⟩
  · unfold f_X8_readBits
    rw [md9, sq_e, md_si (by decide), sq_e, md_si (by decide), sv_e, sv_e]
    rw [show FU = 4095 + 1 from rfl, l36_d hg] at hmz
    exact hmz
  · rw [gi_ow, if_pos ⟨rfl, nI_le (by omega) (by omega), nI_lt (by omega) (by omega)⟩]; rfl
