/-- WHAT IS OWED NOW: LawPure (part 12), a statement of functions alone -/
theorem i_vc : Claimed_1_1 ∧ Claimed_1_2 := i_vc_open sorry
