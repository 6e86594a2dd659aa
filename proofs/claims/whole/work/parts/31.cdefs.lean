def stL : List (Nat × Nat × Nat) := [(0, 0, 1), (0, 2, 2), (0, 5, 47), (0, 6, 49), (0, 7, 50), (0, 8, 56), (0, 9, 58), (0, 10, 60), (0, 11, 66), (0, 12, 70), (0, 13, 158), (0, 16, 159), (2, 0, 3), (2, 1, 4), (2, 2, 5), (2, 3, 6), (7, 6, 8), (7, 7, 9), (7, 8, 10), (7, 9, 11), (7, 10, 12), (7, 11, 13), (7, 12, 19), (7, 13, 24), (7, 14, 25), (7, 15, 26), (13, 0, 14), (13, 1, 15), (13, 2, 16), (13, 3, 17), (13, 4, 18), (19, 0, 20), (19, 1, 21), (19, 3, 22), (19, 4, 23), (27, 6, 28), (27, 7, 29), (27, 8, 30), (27, 9, 31), (27, 10, 32), (27, 11, 33), (27, 12, 39), (27, 13, 44), (27, 14, 45), (27, 15, 46), (33, 0, 34), (33, 1, 35), (33, 2, 36), (33, 3, 37), (33, 4, 38), (39, 0, 40), (39, 1, 41), (39, 3, 42), (39, 4, 43), (47, 0, 2), (47, 7, 48), (49, 0, 2), (50, 0, 51), (50, 1, 52), (50, 2, 53), (50, 3, 54), (50, 4, 55), (56, 4, 57), (58, 4, 59), (60, 0, 50), (60, 2, 61), (60, 3, 62), (60, 4, 63), (60, 5, 64), (60, 6, 65), (66, 0, 67), (66, 1, 68), (66, 2, 69), (70, 0, 71), (70, 3, 72), (70, 4, 73), (71, 0, 74), (71, 1, 76), (71, 2, 78), (71, 3, 80), (71, 4, 82), (71, 5, 84), (71, 6, 86), (71, 7, 88), (71, 8, 90), (71, 9, 92), (71, 10, 94), (71, 11, 96), (71, 12, 98), (71, 13, 100), (71, 14, 102), (71, 15, 104), (71, 16, 106), (71, 17, 108), (71, 18, 110), (71, 19, 112), (71, 20, 114), (71, 21, 116), (71, 22, 118), (71, 23, 120), (71, 24, 122), (71, 25, 124), (71, 26, 126), (71, 27, 128), (71, 28, 130), (71, 29, 132), (72, 0, 134), (72, 1, 142), (72, 2, 150), (73, 0, 136), (73, 1, 144), (73, 2, 152), (74, 4, 75), (76, 4, 77), (78, 4, 79), (80, 4, 81), (82, 4, 83), (84, 4, 85), (86, 4, 87), (88, 4, 89), (90, 4, 91), (92, 4, 93), (94, 4, 95), (96, 4, 97), (98, 4, 99), (100, 4, 101), (102, 4, 103), (104, 4, 105), (106, 4, 107), (108, 4, 109), (110, 4, 111), (112, 4, 113), (114, 4, 115), (116, 4, 117), (118, 4, 119), (120, 4, 121), (122, 4, 123), (124, 4, 125), (126, 4, 127), (128, 4, 129), (130, 4, 131), (132, 4, 133), (134, 4, 135), (136, 0, 137), (136, 1, 138), (136, 2, 139), (136, 3, 140), (136, 4, 141), (142, 4, 143), (144, 0, 145), (144, 1, 146), (144, 2, 147), (144, 3, 148), (144, 4, 149), (150, 4, 151), (152, 0, 153), (152, 1, 154), (152, 2, 155), (152, 3, 156), (152, 4, 157), (160, 1, 161), (160, 3, 162), (160, 5, 163), (160, 6, 164), (160, 7, 165), (160, 8, 166), (160, 9, 167), (160, 21, 168), (160, 22, 169), (160, 23, 170), (160, 24, 171), (160, 25, 172), (160, 26, 173), (160, 27, 174), (160, 28, 175), (160, 29, 176), (160, 30, 177), (160, 31, 178), (160, 32, 179), (160, 33, 180), (160, 34, 181), (160, 35, 182), (160, 36, 183), (160, 37, 184), (160, 38, 185), (160, 39, 186), (160, 40, 187), (160, 42, 188), (160, 43, 189), (160, 44, 190), (160, 45, 191), (160, 46, 192), (160, 48, 193), (160, 49, 194), (160, 50, 195), (160, 52, 196), (160, 53, 197), (160, 55, 198), (160, 56, 199), (160, 60, 200), (160, 61, 201), (160, 62, 202), (160, 64, 203), (160, 65, 204), (160, 66, 205), (160, 67, 206), (160, 68, 207), (160, 70, 208), (160, 71, 209), (160, 72, 210), (160, 73, 211)]
def z_k {β : Type} (r : Option Nat) (kl : Nat × Nat) (n : Nat) (k : Nat → Option β) : Option β := match r with
  | some t => if kd t = kl ∧ t < n then k t else none
  | none => none
theorem z_k_e {β : Type} {r : Option Nat} {kl : Nat × Nat} {n : Nat} {k : Nat → Option β} {y : β} (h : z_k r kl n k = some y) : ∃ t : Nat, r = some t ∧ kd t = kl ∧ t < n ∧ k t = some y := by
  cases r with
  | none => cases h
  | some t =>
    unfold z_k at h
    dsimp only at h
    by_cases hc : kd t = kl ∧ t < n
    · rw [if_pos hc] at h
      exact ⟨t, rfl, hc.1, hc.2, h⟩
    · rw [if_neg hc] at h; cases h
def z_e {β : Type} (r : Option Nat) (t : Nat) (x : Option β) : Option β := if r = some t then x else none
theorem z_e_e {β : Type} {r : Option Nat} {t : Nat} {x : Option β} {y : β} (h : z_e r t x = some y) : r = some t ∧ x = some y := by
  unfold z_e at h
  by_cases hc : r = some t
  · rw [if_pos hc] at h; exact ⟨hc, h⟩
  · rw [if_neg hc] at h; cases h
def eqF (q : Nat) : Nat → Bool := fun id => id == q
theorem eqF_self (q : Nat) : eqF q q = true := beq_self_eq_true q
theorem stc_bd {ci k : Nat} {q : Bool × Nat} (h : stc ci k = some q) : ci < 12 ∧ k < 80 := by
  unfold stc at h
  split at h <;> first | exact ⟨by decide, by decide⟩ | cases h
theorem st_bd {id k t : Nat} (h : st id k = some t) : id < 212 ∧ k < 80 := by
  unfold st at h
  by_cases h1 : id = 71
  · rw [if_pos h1] at h
    by_cases h2 : k < 30
    · omega
    · rw [if_neg h2] at h; cases h
  · rw [if_neg h1] at h
    by_cases h3 : id = 72
    · rw [if_pos h3] at h
      by_cases h2 : k < 3
      · omega
      · rw [if_neg h2] at h; cases h
    · rw [if_neg h3] at h
      by_cases h4 : id = 73
      · rw [if_pos h4] at h
        by_cases h2 : k < 3
        · omega
        · rw [if_neg h2] at h; cases h
      · rw [if_neg h4] at h
        cases hs : stc (kd id).1 k with
        | none => rw [hs] at h; cases h
        | some q =>
          obtain ⟨b1, b2⟩ := stc_bd hs
          exact ⟨kd_lt rfl (by omega), b2⟩
def stOK (id k : Nat) : Bool := match st id k with
  | some t => stL.contains (id, k, t)
  | none => true
theorem stOK_all : (List.range 212).all (fun id => (List.range 80).all (fun k => stOK id k)) = true := by decide +kernel
theorem st_in {id k t : Nat} (h : st id k = some t) : (id, k, t) ∈ stL := by
  obtain ⟨h1, h2⟩ := st_bd h
  have h3 := List.all_eq_true.mp (List.all_eq_true.mp stOK_all id (List.mem_range.mpr h1)) k (List.mem_range.mpr h2)
  unfold stOK at h3
  rw [h] at h3
  exact List.contains_iff_mem.mp h3
def rfB (σ : Mm) : Bool := stL.all (fun q => gR σ q.1 q.2.1 == some q.2.2)
theorem rfB_e {σ : Mm} (h : rfB σ = true) : Rf tt σ := by
  intro id k t _ ht
  have := List.all_eq_true.mp h _ (st_in ht)
  simpa using this
def rfO (σ : Mm) (o : Nat) : Bool := (List.range 80).all (fun k => match st o k with | some t => gR σ o k == some t | none => true)
theorem rfO_e {σ : Mm} {o : Nat} (h : rfO σ o = true) : Rf (eqF o) σ := by
  intro id k t hf ht
  have e : id = o := by simpa [eqF] using hf
  subst e
  have h1 := List.all_eq_true.mp h k (List.mem_range.mpr (st_bd ht).2)
  rw [ht] at h1
  simpa using h1
theorem Rp_F {G : Gp} {n : Nat} {F F1 : Nat → Bool} {σ : Mm} {s : State} {H : Heap} {locs : List Loc} (h : Rp G n F σ s H locs) (hF : Rf F1 σ) : Rp G n F1 σ s H locs := ⟨h.1, h.2.1, h.2.2.1, hF⟩
theorem Rp_ff {G : Gp} {n : Nat} {F : Nat → Bool} {σ : Mm} {s : State} {H : Heap} {locs : List Loc} (h : Rp G n F σ s H locs) : Rp G n ff σ s H locs := Rp_F h (fun _ _ _ hf _ => by cases hf)

