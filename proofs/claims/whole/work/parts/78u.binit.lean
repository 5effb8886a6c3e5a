/-! PURE PART: the memory as the constructors leave it -/
def JM0 : JM := (fun _ _ => 0, fun _ _ => none, 0)
def JMa : JM := ((f_X7_init 0 (al JM0)).getD ((), JM0)).2
def JMi : JM := ((f_X8_init 32 (al JMa)).getD ((), JM0)).2
theorem get_s {α : Type} {o : Option (Unit × α)} {d : Unit × α} (h : o.isSome = true) : o = some ((), (o.getD d).2) := by
  cases o with
  | none => cases h
  | some x => rfl
theorem ini_1 : (f_X7_init 0 (al JM0)).isSome = true := by decide +kernel
theorem ini_2 : gn JMa = 32 := by decide +kernel
theorem ini_3 : (f_X8_init 32 (al JMa)).isSome = true := by decide +kernel
theorem ini_rf : RF (gr JMi) := by
  unfold RF
  refine ⟨?_, ?_, ?_, ?_, ?_, ?_, ?_, ?_, ?_, ?_, ?_, ?_, ?_, ?_, ?_, ?_, ?_, ?_, ?_, ?_, ?_, ?_, ?_, ?_, ?_, ?_, ?_, ?_, ?_, ?_, ?_, ?_, ?_, ?_, ?_, ?_, ?_, ?_, ?_, ?_, ?_, ?_, ?_, ?_, ?_, ?_⟩ <;> decide +kernel
theorem ini_n : gn JMi = 61 := by decide +kernel
theorem ini_i : (gi JMi 0 1 = 0 ∧ gi JMi 32 0 = 0 ∧ gi JMi 2 1 = 0 ∧ gi JMi 32 8 = 0 ∧ gi JMi 5 1 = 0 ∧ gi JMi 32 14 = 0 ∧ gi JMi 5 0 = -9 ∧ gi JMi 32 15 = -9 ∧ gi JMi 15 0 = -9 ∧ gi JMi 32 25 = -1) ∧ (gi JMi 18 1 = 0 ∧ gi JMi 18 2 = 0 ∧ gi JMi 18 3 = 0 ∧ gi JMi 18 4 = 0 ∧ gi JMi 32 28 = 0 ∧ gi JMi 32 39 = 0 ∧ gi JMi 32 40 = 0 ∧ gi JMi 32 41 = 0) ∧ gi JMi 0 8 = 0 ∧ gi JMi 32 13 = 0 ∧ gi JMi 0 9 = 0 ∧ gi JMi 32 42 = 0 := by decide +kernel
theorem ini_r : gr JMi 0 4 = some 5 ∧ gr JMi 0 5 = some 10 := by decide +kernel
theorem ini_o : ∀ p : Nat, p < 22 → gi JMi 17 (nI p) = 0 ∧ gi JMi 48 (nI p) = 0 := by decide +kernel
theorem ini_t : ∀ j : Nat, j < 12 → gr JMi 19 (nI j) = some (20 + j) := by decide +kernel
theorem ini_inv : Inv JMi := by
  obtain ⟨⟨a1, a2, a3, a4, a5, a6, a7, a8, a9, a10⟩, ⟨b1, b2, b3, b4, b5, b6, b7, b8⟩, d1, d2, d3, d4⟩ := ini_i
  refine ⟨ini_rf, ⟨0, by decide, a1, a2, ini_n, fun i hi => by omega⟩, ⟨by rw [a3, a4], by rw [a3]; decide, by rw [a3]; decide, fun j x y => ?_⟩, ⟨5, Or.inl rfl, ini_r.1, ini_r.2, by rw [a5, a6], by rw [a7, a8], Or.inl ⟨a5, a7⟩⟩, ⟨Or.inl ⟨a9, a10⟩, fun p x y => ?_⟩, ⟨⟨by rw [b1, b5], by rw [b1]; decide, by rw [b1]; decide, by rw [b2, b6], by rw [b3, b7], by rw [b4, b8]⟩, fun j => 20 + j.toNatClampNeg, fun j x y => ?_, fun i j x1 x2 y1 y2 h => ?_, fun j x y => ?_⟩, by rw [d1, d2], by rw [d3, d4]⟩
  · rw [a3] at y
    exact absurd y (Int32.not_lt.mpr x)
  · obtain ⟨n, en, hn⟩ := nI_ex (x := p) (h := 21) (by grind) y (by decide)
    obtain ⟨z1, z2⟩ := ini_o n (by omega)
    rw [en, z1, z2]
    refine ⟨rfl, by decide, by decide, fun k u w => absurd w (Int32.not_lt.mpr u)⟩
  · obtain ⟨n, en, hn⟩ := nI_ex (x := j) (h := 12) x (Int32.le_of_lt y) (by decide)
    have hlt : n < 12 := by rw [en] at y; exact (nI_ltI (b := 12) (by omega) (by decide)).mp y
    subst en
    show gr JMi 19 (nI n) = some (20 + (nI n).toNatClampNeg) ∧ 20 ≤ 20 + (nI n).toNatClampNeg ∧ 20 + (nI n).toNatClampNeg < 32
    rw [nI_clamp (by omega), ini_t n hlt]
    exact ⟨rfl, by omega, by omega⟩
  · obtain ⟨n, en, hn⟩ := nI_ex (x := i) (h := 12) x1 (Int32.le_of_lt x2) (by decide)
    obtain ⟨m, em, hm⟩ := nI_ex (x := j) (h := 12) y1 (Int32.le_of_lt y2) (by decide)
    subst en
    subst em
    have h : 20 + (nI n).toNatClampNeg = 20 + (nI m).toNatClampNeg := h
    rw [nI_clamp (by omega), nI_clamp (by omega)] at h
    rw [show n = m by omega]
  · rw [b1] at y
    exact absurd y (Int32.not_lt.mpr x)
