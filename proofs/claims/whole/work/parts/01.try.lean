theorem tz_1 : 1 + 1 = 2 := rfl
theorem i_vc : Claimed_1_1 ∧ Claimed_1_2 := sorry
