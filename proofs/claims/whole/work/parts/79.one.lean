/-! the law's program answers 1 -/
theorem law_one (sx : Int32 → Int32) (sN : Int32) (h0 : 0 ≤ sN) (h1 : sN ≤ 2560) : ∃ M', f_L_law sx sN ((fun _ _ => 0, fun _ _ => none, 0) : JM) = some (1, M') := by
  have e1 := get_s (d := ((), JM0)) ini_1
  have e3 := get_s (d := ((), JM0)) ini_3
  have e1 : f_X7_init 0 (al JM0) = some ((), JMa) := e1
  have e3 : f_X8_init 32 (al JMa) = some ((), JMi) := e3
  obtain ⟨M', e⟩ := lp_law sx sN h0 h1 FU 0 JMi ini_inv (by decide) h0 (up_fu (by decide) (by grind))
  refine ⟨M', ?_⟩
  show f_L_law sx sN JM0 = _
  unfold f_L_law
  rw [show gn JM0 = 0 from rfl, if_pos (show shp 0 = (0, 7) from rfl), sq_e, e1, ob_e, ini_2, if_pos (show shp 32 = (0, 8) from rfl), sq_e, e3, ob_e, sv_e]
  exact e
