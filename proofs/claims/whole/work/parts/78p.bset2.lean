/-! PURE PART: set, the reference, and both together -/
abbrev kz (j : Int32) : Prop := j = 9 ∨ j = 10 ∨ j = 11 ∨ j = 12 ∨ j = 43 ∨ j = 44
theorem lp_110 {D : JM} (hr : RF (gr D)) {w p : Nat} (h8 : gi D 32 8 = nI w) (hw : w ≤ 58) (hp : 1 ≤ p ∧ p ≤ 21) : ∀ (n v : Nat), v ≤ w → w - v < n → f_X8_set_L110 n 32 (nI p) (nI v) (ow D 49 (nI (60 * p)) (nI (60 * p + v)) (fun j => gi D 39 (j - nI (60 * p)))) = f_X8_set_L144 32 (nI p) (ow D 49 (nI (60 * p)) (nI (60 * p + w)) (fun j => gi D 39 (j - nI (60 * p)))) := by
  intro n
  induction n with
  | zero => intro v _ h; omega
  | succ n ih =>
    intro v hv hn
    have hr1 : RF (gr (ow D 49 (nI (60 * p)) (nI (60 * p + v)) (fun j => gi D 39 (j - nI (60 * p))))) := hr
    have k8 : gi (ow D 49 (nI (60 * p)) (nI (60 * p + v)) (fun j => gi D 39 (j - nI (60 * p)))) 32 8 = nI w := by rw [gi_ow, if_neg (by omega), h8]
    rw [f_X8_set_L110, k8]
    by_cases e : v = w
    · subst e
      rw [if_neg Int32.lt_irrefl]
    · have k39 : gi (ow D 49 (nI (60 * p)) (nI (60 * p + v)) (fun j => gi D 39 (j - nI (60 * p)))) 39 (nI v) = (fun j => gi D 39 (j - nI (60 * p))) (nI (60 * p + v)) := by
        rw [gi_ow, if_neg (by omega)]
        show gi D 39 (nI v) = gi D 39 (nI (60 * p + v) - nI (60 * p))
        rw [pk_sub (by omega), show 60 * p + v - 60 * p = v by omega]
      have hix : 60 * nI p + nI v = nI (60 * p + v) := by rw [show (60 : Int32) = nI 60 from rfl, pk_mul, nI_add]
      rw [if_pos (nI_lt (by omega) (by omega)), hr1.r32_27, orf_e, hr1.r32_7, orf_e, ln_39, if_pos (show 0 ≤ nI v ∧ nI v < 300 from ⟨nI_pos' (by omega), nI_lt (b := 300) (by omega) (by decide)⟩), hix, ln_49, if_pos (show 0 ≤ nI (60 * p + v) ∧ nI (60 * p + v) < 1320 from ⟨nI_pos' (by omega), nI_lt (b := 1320) (by omega) (by decide)⟩), k39, sq_e, ow_si (by omega) (by omega), sv_e, nI_p1]
      exact ih (v + 1) (by omega) (by omega)
def stM (D : JM) (p w : Nat) : JM := si (si (ow D 49 (nI (60 * p)) (nI (60 * p + w)) (fun j => gi D 39 (j - nI (60 * p)))) 48 (nI p) (nI w)) 32 8 0
theorem mset_eq {D : JM} (hr : RF (gr D)) {i : Nat} (hi : i < 3) (hc : ICat D i) (ho : gi D 32 25 = nI i) {w : Nat} (hw : gi D 32 8 = nI w) (h3 : w ≤ 300) (hb : ∀ j : Nat, j < w → 0 ≤ gi D 39 (nI j) ∧ gi D 39 (nI j) ≤ 255) {T : Int32 → Int32} (hT : ∀ j : Nat, j < w → gi D 39 (nI j) = T (nI j)) {p : Nat} (hp : 1 ≤ p ∧ p ≤ 21) :
    (gi D (62 + 4 * i) (nI p) = -9 → f_X8_set 32 (nI p) D = some (-1, D)) ∧
    (gi D (62 + 4 * i) (nI p) ≠ -9 → ∃ E, gr E = gr D ∧ gn E = gn D ∧ (∀ k j, k ≠ 47 → ¬ (k = 32 ∧ kz j) → gi E k j = gi D k j) ∧ f_X8_set 32 (nI p) D = if cItem D i T (nI w) (nI p) 0 = .inl (nI w) then some (nI w, stM E p w) else some (-1, E)) := by
  have hpp : 1 ≤ nI p ∧ nI p ≤ 21 := ⟨nI_le (a := 1) hp.1 (by omega), nI_le (b := 21) hp.2 (by decide)⟩
  have hp0 : 0 ≤ nI p ∧ nI p ≤ 21 := ⟨nI_pos' (by omega), hpp.2⟩
  have l22 : 0 ≤ nI p ∧ nI p < 22 := ⟨hp0.1, nI_lt (b := 22) (by omega) (by decide)⟩
  obtain ⟨m1, m2, -, -⟩ := hc.mix hi hp0
  constructor
  · intro h9
    unfold f_X8_set
    rw [mPlace_eq, ob_e, decide_eq_true hpp, if_pos rfl, ho, if_neg (nI_pos (by omega)), hr.r32_2, orf_e, ln_34, if_pos m1, m2, if_pos h9]
  · intro h9
    generalize hA : si D 32 10 (nI w) = A
    have hgA : gr A = gr D := by rw [← hA]; rfl
    have kA : ∀ k j, ¬ (k = 32 ∧ j = 10) → gi A k j = gi D k j := fun k j a => by rw [← hA, gi_si, if_neg a]
    have hrA : RF (gr A) := by rw [hgA]; exact hr
    have hcA : ICat A i := hc.congr hgA (fun k j hd => kA k j (by unfold depCat at hd; omega))
    have hRd : RdD A T w := ⟨hrA, by rw [← hA, gi_si, if_pos ⟨rfl, rfl⟩], h3, fun j hj => by
      rw [kA 39 _ (by omega), ← hT j hj]
      exact ⟨rfl, hb j hj⟩⟩
    have hit := mitem_eq hRd (gi D 32 12) hi hcA hp0 (by rw [kA _ _ (by omega)]; exact h9) (x := 0) (by omega)
    rw [show nI 0 = 0 from rfl] at hit
    have hci : ∀ a, cItem A i T (nI w) (nI p) a = cItem D i T (nI w) (nI p) a := fun a => cItem_of (fun k j hk => kA k j (by omega)) _ _ _ a
    rw [hci] at hit
    have hst : si (si (si D 32 11 0) 32 9 0) 32 10 (nI w) = mdM A 0 0 (gi D 32 12) := by
      rw [← hA]
      refine JM_ext (fun k j => ?_) rfl rfl
      rw [gi_si, gi_si, gi_si, gi_md, gi_si]
      by_cases hk : k = 32
      · subst hk
        simp only [true_and]
        grind
      · simp only [hk, false_and, if_false]
    have h8s : gi (si (si D 32 11 0) 32 9 0) 32 8 = nI w := by rw [gi_si, if_neg (by decide), gi_si, if_neg (by decide), hw]
    have h25 : gi (mdM A 0 0 (gi D 32 12)) 32 25 = nI i := by rw [md_k (by decide), kA _ _ (by decide), ho]
    have hhead : f_X8_set 32 (nI p) D = ob (f_X8_readItem 32 (nI i) (nI p) (mdM A 0 0 (gi D 32 12))) fun _ M12 => if (gi M12 32 11) = 0 then (if (gi M12 32 9) = (gi M12 32 8) then (f_X8_set_L95 32 (nI p) (gi D 32 11) (1 : Int32) M12) else (f_X8_set_L94 32 (nI p) (gi D 32 11) M12)) else (f_X8_set_L94 32 (nI p) (gi D 32 11) M12) := by
      unfold f_X8_set
      rw [mPlace_eq, ob_e, decide_eq_true hpp, if_pos rfl, ho, if_neg (nI_pos (by omega)), hr.r32_2, orf_e, ln_34, if_pos m1, m2, if_neg h9, sv_e, sq_e, sq_e, h8s, sq_e, hst, h25]
    have hbad : ∀ (E : JM) (n f u : Int32), f_X8_set_L94 32 (nI p) (gi D 32 11) (mdM E n f u) = some (-1, mdM E n (gi D 32 11) u) := by
      intro E n f u
      unfold f_X8_set_L94 f_X8_set_L95
      rw [sv_e, md_f1, sq_e, if_pos rfl]
    have fr : ∀ (E : JM) (n f u : Int32), MB A E → gr (mdM E n f u) = gr D ∧ gn (mdM E n f u) = gn D ∧ ∀ k j, k ≠ 47 → ¬ (k = 32 ∧ kz j) → gi (mdM E n f u) k j = gi D k j := by
      intro E n f u hE
      refine ⟨?_, ?_, fun k j a b => ?_⟩
      · rw [Gr_md, hE.1, hgA]
      · rw [Gn_md, hE.2.1, ← hA]; rfl
      · rw [md_k (fun x => b ⟨x.1, by unfold kz; rcases x.2 with y | y | y <;> rw [y] <;> decide⟩), hE.2.2 k j a (fun x => b ⟨x.1, by unfold kz; rcases x.2 with y | y <;> rw [y] <;> decide⟩), kA k j (fun x => b ⟨x.1, by unfold kz; rw [x.2]; decide⟩)]
    rw [hhead]
    generalize hR : cItem D i T (nI w) (nI p) 0 = R at hit
    rcases R with a | ⟨f, u⟩
    · obtain ⟨E, e, hE⟩ := hit
      obtain ⟨e1, e2, e3⟩ := fr E a (gi D 32 11) (gi D 32 12) hE
      refine ⟨_, e1, e2, e3, ?_⟩
      have h8E : gi (mdM E a 0 (gi D 32 12)) 32 8 = nI w := by rw [(fr E a 0 (gi D 32 12) hE).2.2 32 8 (by decide) (by decide), hw]
      rw [e, ob_e, md11, if_pos rfl, md9, h8E]
      by_cases haw : a = nI w
      · subst haw
        rw [if_pos rfl, if_pos rfl]
        have hle := cItem_le hc h3 hp0 h9 (x := 0) (y := w) (by omega) (by omega) hR
        have h8e : gi (mdM E (nI w) (gi D 32 11) (gi D 32 12)) 32 8 = nI w := by rw [e3 32 8 (by decide) (by decide), hw]
        have hl := lp_110 (D := mdM E (nI w) (gi D 32 11) (gi D 32 12)) (by rw [e1]; exact hr) h8e (by omega) hp FU 0 (by omega) (by show _ < 4096; omega)
        rw [Nat.add_zero, ow_0] at hl
        unfold f_X8_set_L95
        rw [sv_e, md_f1, sq_e, if_neg (show ¬ (1 : Int32) = 0 by decide), sv_e]
        refine hl.trans ?_
        have hr2 : RF (gr (ow (mdM E (nI w) (gi D 32 11) (gi D 32 12)) 49 (nI (60 * p)) (nI (60 * p + w)) (fun j => gi (mdM E (nI w) (gi D 32 11) (gi D 32 12)) 39 (j - nI (60 * p))))) := by
          rw [Gr_ow, e1]; exact hr
        unfold f_X8_set_L144 stM
        rw [hr2.r32_26, orf_e, ln_48, if_pos l22, sq_e, sq_e, Gr_si, Gr_si, hr2.r32_26, orf_e, ln_48, if_pos l22, gi_ow (k' := 32), if_neg (by omega), h8e]
        congr 2
        rw [gi_si, if_neg (by omega), gi_si, if_pos ⟨rfl, rfl⟩]
      · rw [if_neg haw, if_neg (fun x => haw (Sum.inl.inj x)), hbad]
    · obtain ⟨hf, E, n, e, hE⟩ := hit
      obtain ⟨e1, e2, e3⟩ := fr E n (gi D 32 11) u hE
      refine ⟨_, e1, e2, e3, ?_⟩
      rw [e, ob_e, md11, if_neg hf, hbad, if_neg (fun x => by cases x)]
