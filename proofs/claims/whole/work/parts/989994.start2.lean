-- THE START: what holds
def lwZ0 : LwT := fun _ => none
theorem i_LC : LwC σi 19 lwZ0 := by
  obtain ⟨h1, a0, a1, a2, a3⟩ := i_s5
  refine ⟨dl0, h1, by decide, i_s6, fun k hk => ?_⟩
  rcases (show k = 0 ∨ k = 1 ∨ k = 2 ∨ k = 3 by omega) with rfl | rfl | rfl | rfl
  · exact ⟨[], [(3, 0), (0, 1), (3, 0), (1, 6), (3, 0), (0, 0)], a0, rfl⟩
  · exact ⟨[(3, 0), (7, 0), (1, 2), (1, 1)], [(3, 0), (0, 1), (3, 0), (1, 6)], a1, rfl⟩
  · exact ⟨[(3, 0), (0, 0), (3, 0), (7, 0), (1, 2), (1, 1)], [(3, 0), (0, 1)], a2, rfl⟩
  · exact ⟨[(3, 0), (1, 6), (3, 0), (0, 0), (3, 0), (7, 0), (1, 2), (1, 1)], [], a3, rfl⟩
theorem i_LM : LwM σi 0 lwZ0 := by
  refine ⟨[], 0, trivial, by decide, by decide, fun k hk => ?_⟩
  show gI σi 186 (4 * 0 + k) = 0 ∧ gI σi 187 (4 * 0 + k) = 0
  rw [show 4 * 0 + k = k by omega]
  exact i_s7 k hk
theorem i_wf : wfT lwZ0 := fun k w h => by cases h
theorem i_IX : IX 4000 σi := by
  obtain ⟨b1, b2, b3, b4, b5, b6, b7, b8, b9, b10, b11, b12, b13, b14, b15, b16⟩ := i_s0
  obtain ⟨c1, c2, c3, c4, c5, c6, c7, c8, c9, c10, c11⟩ := i_s1
  refine ⟨⟨7, 0, 0, 0, 0, 0, ⟨0, by decide, b1, b2, fun j hj => absurd hj (Nat.not_lt_zero _)⟩, b3, ⟨Or.inl rfl, by decide, by decide, by decide, by decide, b4, b5, b6, b7, b8, b9, b10, b11, b12, b13, ⟨1, by decide, by decide, b14, b15⟩, b16, fun p hp => absurd hp (Nat.not_lt_zero _), fun w hw => absurd hw (Nat.not_lt_zero _)⟩, V_law_of (by decide) (Or.inl rfl) (by decide) b7 i_LC i_LM i_wf, ⟨by decide, c1, c2, c3, c4, ⟨0, by decide, c5, fun w hw => absurd hw (Nat.not_lt_zero _)⟩, fun w hw => absurd hw (Nat.not_lt_zero _), fun g hg => absurd hg (Nat.not_lt_zero _)⟩, ⟨0, 0, fun _ => 0, by decide, by decide, c6, c7, c8, fun i j _ hj => absurd hj (Nat.not_lt_zero _), fun j hj => absurd hj (Nat.not_lt_zero _)⟩, ⟨0, by decide, c9, fun i hi => ⟨?_, ?_⟩⟩, ⟨0, by decide, c10, c11, fun i hi => absurd hi (Nat.not_lt_zero _)⟩, fun a ha k hk => ?_⟩, i_s4, fun j hj => ⟨0, by decide, i_b j hj⟩, 7, 0, lwZ0, ⟨b4, b7, by decide, Or.inl rfl⟩, i_LC, i_LM, i_wf⟩
  · rw [i_s2 i hi, Nat.zero_testBit]; rfl
  · intro h; rw [Nat.zero_testBit] at h; cases h
  · have := i_s3 a ha
    rw [hk] at this
    exact this
