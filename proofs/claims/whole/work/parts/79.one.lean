/-- the law's program answers 1 -/
theorem law_one (sx : Int32 → Int32) (sN : Int32) (h0 : 0 ≤ sN) (h1 : sN ≤ 2560) : ∃ M', f_L_law sx sN ((fun _ _ => 0, fun _ _ => none, 0) : JM) = some (1, M') := sorry
