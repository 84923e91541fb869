/-! THE LAW'S RUN, from its entry to its end with true -/
theorem law_run {L : Nat} {xs : Nat → Int32} (hL : L ≤ 3072) : ∃ (d n0 n : Nat) (Mf : ZM), d ≤ 1000 ∧ zrunF (zrun d n0) (zcode 243) 0 n (zM0 L xs) 0 [zR 13 1, zU, zU, zU] [] [] = some (Mf, some (zI 1)) ∧ ztop Mf ≤ 600000 ∧ zsl Mf ≤ 7302250 := by
  obtain ⟨Mf, v, ⟨N, hN⟩, hv, h2, h3⟩ := st_run (xs := xs) hL op_house
  subst hv
  exact ⟨60, N, N, Mf, by omega, hN N N (Nat.le_refl _) (Nat.le_refl _), h2, h3⟩
