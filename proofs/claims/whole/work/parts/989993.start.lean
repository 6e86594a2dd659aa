-- THE START: cells
theorem i_s0 : gI σi 0 1 = 0 ∧ gI σi 160 2 = 0 ∧ gI σi 2 5 = gI σi 160 17 ∧ gR σi 0 3 = some 7 ∧ gR σi 0 4 = some 27 ∧ gR σi 60 1 = some 7 ∧ gI σi 160 18 = 0 ∧ gI σi 7 0 = 0 ∧ gI σi 170 0 = 0 ∧ gI σi 7 1 = 0 ∧ gI σi 171 0 = 0 ∧ gI σi 7 2 = 0 ∧ gI σi 175 0 = 0 ∧ gI σi 7 4 = 1 ∧ gI σi 184 0 = 1 ∧ gI σi 7 5 = gI σi 185 0 := by decide +kernel
theorem i_b : ∀ j, j < 2000 → gI σi 1 j = 0 := by decide +kernel
theorem i_s1 : gI σi 56 3 = 0 ∧ gI σi 198 15 = 0 ∧ gI σi 198 14 = gI σi 56 0 ∧ gI σi 198 16 = gI σi 56 2 ∧ gI σi 56 1 = 0 ∧ gI σi 70 2 = 0 ∧ gI σi 160 63 = 0 ∧ gI σi 70 1 = 0 ∧ gI σi 70 5 = 0 ∧ gI σi 0 15 = 0 ∧ gI σi 160 69 = 0 := by decide +kernel
theorem i_s2 : ∀ i, i < 3 → gI σi 210 i = 0 := by decide +kernel
theorem i_s3 : ∀ a ∈ D_vars, gI σi a.1 (a.2.2.getD 0) = 0 := by decide +kernel
theorem i_s4 : V_words σi := by
  unfold V_words
  decide +kernel
theorem i_s5 : gI σi 19 2 = 10 ∧ gI σi 22 0 = 0 ∧ gI σi 22 1 = 4 ∧ gI σi 22 2 = 6 ∧ gI σi 22 3 = 8 := by decide +kernel
theorem i_s6 : LawAt σi 19 dl0 := by
  unfold dl0
  simp only [LawAt]
  decide +kernel
theorem i_s7 : ∀ k, k < 4 → gI σi 186 k = 0 ∧ gI σi 187 k = 0 := by decide +kernel
