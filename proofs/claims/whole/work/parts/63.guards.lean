-- GUARDS: numbers of plots, people, witnesses, givings, years
def isN (x : Int32) (n : Nat) : Prop := ∃ w : Nat, w < n ∧ x = nI w
theorem isN_not {x : Int32} {n : Nat} (hn : n < 2 ^ 31) (h : ¬ isN x n) : x < 0 ∨ nI n ≤ x := by
  rcases pk_ix x hn with a | a | ⟨j, a, b⟩
  · exact Or.inl a
  · exact Or.inr a
  · exact absurd ⟨j, a, b⟩ h
theorem m1_lt {n : Nat} (hn : n < 2 ^ 30) {x : Int32} : (nI n - (1 : Int32)) < x ↔ nI n ≤ x := by
  have e : (nI n - (1 : Int32)).toInt = (n : Int) - 1 := pk_sub_toInt (a := n) (b := 1) (by omega) (by decide)
  rw [Int32.lt_iff_toInt_lt, Int32.le_iff_toInt_le, e, nI_toInt (by omega)]
  omega
theorem in_t {N : Nat} {x : Int32} {n : Nat} (hn : n < 2 ^ 30) {σ : Mm} (h : isN x n) : f11_in N x 0 (nI n - (1 : Int32)) σ = some (1, σ) := by
  obtain ⟨w, hw, rfl⟩ := h
  have h1 : ¬ nI w < 0 := nI_pos (by omega)
  have h2 : ¬ (nI n - (1 : Int32)) < nI w := by rw [m1_lt hn, nI_leI (by omega) (by omega)]; omega
  unfold f11_in
  rw [if_neg h1, if_neg h2]
theorem in_f {N : Nat} {x : Int32} {n : Nat} (hn : n < 2 ^ 30) {σ : Mm} (h : ¬ isN x n) : f11_in N x 0 (nI n - (1 : Int32)) σ = some (0, σ) := by
  unfold f11_in
  rcases isN_not (by omega) h with a | a
  · rw [if_pos a]
  · by_cases c : x < 0
    · rw [if_pos c]
    · rw [if_neg c, if_pos ((m1_lt hn).mpr a)]
theorem isZ_1 : isZ 1 = true := rfl
theorem isZ_0 : isZ 0 = true := rfl
theorem in_15 : inB 15 117 = true := rfl
theorem z_r_some {β : Type} {t ci : Nat} {k : Nat → Option β} (h : (kd t).1 = ci) : z_r (some t) ci k = k t := by
  show (if (kd t).1 = ci then k t else none) = k t
  rw [if_pos h]
theorem z_b_some {α β : Type} {r : α} {τ : Mm} {k : α → Mm → Option β} : z_b (some (r, τ)) k = k r τ := rfl
theorem z_l_eq {α β : Type} {v : α} {k : α → β} : z_l v k = k v := rfl
theorem kd_land {o : Nat} (h : o = 7 ∨ o = 27) : (kd o).1 = 3 := by
  rcases h with rfl | rfl
  · exact kh_7
  · exact kh_27
theorem noPlot_t {N : Nat} {σ : Mm} {o v P Q W : Nat} (hv : V_land σ o v P Q W) {x : Int32} (h : isN x Q) : f10_noPlot N x σ = some (0, σ) := by
  obtain ⟨h1, h2, h3, h4, h5, h6, h7, h8, h9, h10, h11, h12, h13, h14, h15, -⟩ := hv
  obtain ⟨w, hw, rfl⟩ := h
  have g1 : ¬ nI w < 0 := nI_pos (by omega)
  have g2 : nI w < nI Q := nI_lt hw (by omega)
  unfold f10_noPlot
  rw [if_neg g1, h6, z_r_some (kd_land h1), h12, if_pos g2]
theorem noPlot_f {N : Nat} {σ : Mm} {o v P Q W : Nat} (hv : V_land σ o v P Q W) {x : Int32} (h : ¬ isN x Q) : f10_noPlot N x σ = some (1, σ) := by
  obtain ⟨h1, h2, h3, h4, h5, h6, h7, h8, h9, h10, h11, h12, h13, h14, h15, -⟩ := hv
  unfold f10_noPlot
  by_cases g1 : x < 0
  · rw [if_pos g1]
  · have g2 : ¬ x < nI Q := by
      rcases isN_not (by omega) h with a | a
      · exact absurd a g1
      · rw [Int32.lt_iff_toInt_lt]
        rw [Int32.le_iff_toInt_le] at a
        omega
    rw [if_neg g1, h6, z_r_some (kd_land h1), h12, if_neg g2]
theorem isPlot_t {N : Nat} {σ : Mm} {o v P Q W : Nat} (hv : V_land σ o v P Q W) {x : Int32} (h : isN x Q) : f11_isPlot N x σ = some (1, σ) := by
  obtain ⟨h1, h2, h3, h4, h5, h6, h7, h8, h9, h10, h11, h12, h13, h14, h15, -⟩ := hv
  have e : ix (nI v) = v := nI_clamp (by omega)
  unfold f11_isPlot
  rw [h9, zc_t (in_i0 h2 (by decide)), e, h13, in_t (by omega) h, z_b_some, zc_t isZ_1]
theorem isPlot_f {N : Nat} {σ : Mm} {o v P Q W : Nat} (hv : V_land σ o v P Q W) {x : Int32} (h : ¬ isN x Q) : f11_isPlot N x σ = some (0, σ) := by
  obtain ⟨h1, h2, h3, h4, h5, h6, h7, h8, h9, h10, h11, h12, h13, h14, h15, -⟩ := hv
  have e : ix (nI v) = v := nI_clamp (by omega)
  unfold f11_isPlot
  rw [h9, zc_t (in_i0 h2 (by decide)), e, h13, in_f (by omega) h, z_b_some, zc_t isZ_0]
theorem noPerson_t {N : Nat} {σ : Mm} {o v P Q W : Nat} (hv : V_land σ o v P Q W) {x : Int32} (h : isN x P) : f10_noPerson N x σ = some (0, σ) := by
  obtain ⟨h1, h2, h3, h4, h5, h6, h7, h8, h9, h10, h11, h12, h13, h14, h15, -⟩ := hv
  obtain ⟨w, hw, rfl⟩ := h
  have g1 : ¬ nI w < 0 := nI_pos (by omega)
  have g2 : nI w < nI P := nI_lt hw (by omega)
  unfold f10_noPerson
  rw [if_neg g1, h6, z_r_some (kd_land h1), h10, if_pos g2]
theorem noPerson_f {N : Nat} {σ : Mm} {o v P Q W : Nat} (hv : V_land σ o v P Q W) {x : Int32} (h : ¬ isN x P) : f10_noPerson N x σ = some (1, σ) := by
  obtain ⟨h1, h2, h3, h4, h5, h6, h7, h8, h9, h10, h11, h12, h13, h14, h15, -⟩ := hv
  unfold f10_noPerson
  by_cases g1 : x < 0
  · rw [if_pos g1]
  · have g2 : ¬ x < nI P := by
      rcases isN_not (by omega) h with a | a
      · exact absurd a g1
      · rw [Int32.lt_iff_toInt_lt]
        rw [Int32.le_iff_toInt_le] at a
        omega
    rw [if_neg g1, h6, z_r_some (kd_land h1), h10, if_neg g2]
theorem isPerson_t {N : Nat} {σ : Mm} {o v P Q W : Nat} (hv : V_land σ o v P Q W) {x : Int32} (h : isN x P) : f11_isPerson N x σ = some (1, σ) := by
  obtain ⟨h1, h2, h3, h4, h5, h6, h7, h8, h9, h10, h11, h12, h13, h14, h15, -⟩ := hv
  have e : ix (nI v) = v := nI_clamp (by omega)
  unfold f11_isPerson
  rw [h9, zc_t (in_i0 h2 (by decide)), e, h11, in_t (by omega) h, z_b_some, zc_t isZ_1]
theorem isPerson_f {N : Nat} {σ : Mm} {o v P Q W : Nat} (hv : V_land σ o v P Q W) {x : Int32} (h : ¬ isN x P) : f11_isPerson N x σ = some (0, σ) := by
  obtain ⟨h1, h2, h3, h4, h5, h6, h7, h8, h9, h10, h11, h12, h13, h14, h15, -⟩ := hv
  have e : ix (nI v) = v := nI_clamp (by omega)
  unfold f11_isPerson
  rw [h9, zc_t (in_i0 h2 (by decide)), e, h11, in_f (by omega) h, z_b_some, zc_t isZ_0]
theorem noWitness_t {N : Nat} {σ : Mm} {o v P Q W : Nat} (hv : V_land σ o v P Q W) {x : Int32} (h : isN x W) : f10_noWitness N x σ = some (0, σ) := by
  obtain ⟨h1, h2, h3, h4, h5, h6, h7, h8, h9, h10, h11, h12, h13, h14, h15, -⟩ := hv
  obtain ⟨w, hw, rfl⟩ := h
  have g1 : ¬ nI w < 0 := nI_pos (by omega)
  have g2 : nI w < nI W := nI_lt hw (by omega)
  unfold f10_noWitness
  rw [if_neg g1, h6, z_r_some (kd_land h1), h14, if_pos g2]
theorem noWitness_f {N : Nat} {σ : Mm} {o v P Q W : Nat} (hv : V_land σ o v P Q W) {x : Int32} (h : ¬ isN x W) : f10_noWitness N x σ = some (1, σ) := by
  obtain ⟨h1, h2, h3, h4, h5, h6, h7, h8, h9, h10, h11, h12, h13, h14, h15, -⟩ := hv
  unfold f10_noWitness
  by_cases g1 : x < 0
  · rw [if_pos g1]
  · have g2 : ¬ x < nI W := by
      rcases isN_not (by omega) h with a | a
      · exact absurd a g1
      · rw [Int32.lt_iff_toInt_lt]
        rw [Int32.le_iff_toInt_le] at a
        omega
    rw [if_neg g1, h6, z_r_some (kd_land h1), h14, if_neg g2]
theorem isWitness_t {N : Nat} {σ : Mm} {o v P Q W : Nat} (hv : V_land σ o v P Q W) {x : Int32} (h : isN x W) : f11_isWitness N x σ = some (1, σ) := by
  obtain ⟨h1, h2, h3, h4, h5, h6, h7, h8, h9, h10, h11, h12, h13, h14, h15, -⟩ := hv
  have e : ix (nI v) = v := nI_clamp (by omega)
  unfold f11_isWitness
  rw [h9, zc_t (in_i0 h2 (by decide)), e, h15, in_t (by omega) h, z_b_some, zc_t isZ_1]
theorem isWitness_f {N : Nat} {σ : Mm} {o v P Q W : Nat} (hv : V_land σ o v P Q W) {x : Int32} (h : ¬ isN x W) : f11_isWitness N x σ = some (0, σ) := by
  obtain ⟨h1, h2, h3, h4, h5, h6, h7, h8, h9, h10, h11, h12, h13, h14, h15, -⟩ := hv
  have e : ix (nI v) = v := nI_clamp (by omega)
  unfold f11_isWitness
  rw [h9, zc_t (in_i0 h2 (by decide)), e, h15, in_f (by omega) h, z_b_some, zc_t isZ_0]
theorem noGiving_t {N : Nat} {σ : Mm} {P Q W n : Nat} (hv : V_now σ P Q W n) {x : Int32} (h : isN x n) : f10_noGiving N x σ = some (0, σ) := by
  obtain ⟨h1, h2, h3, -⟩ := hv
  obtain ⟨w, hw, rfl⟩ := h
  have g1 : ¬ nI w < 0 := nI_pos (by omega)
  have g2 : nI w < nI n := nI_lt hw (by omega)
  unfold f10_noGiving
  rw [if_neg g1, h2, if_pos g2]
theorem noGiving_f {N : Nat} {σ : Mm} {P Q W n : Nat} (hv : V_now σ P Q W n) {x : Int32} (h : ¬ isN x n) : f10_noGiving N x σ = some (1, σ) := by
  obtain ⟨h1, h2, h3, -⟩ := hv
  unfold f10_noGiving
  by_cases g1 : x < 0
  · rw [if_pos g1]
  · have g2 : ¬ x < nI n := by
      rcases isN_not (by omega) h with a | a
      · exact absurd a g1
      · rw [Int32.lt_iff_toInt_lt]
        rw [Int32.le_iff_toInt_le] at a
        omega
    rw [if_neg g1, h2, if_neg g2]
theorem isGiving_t {N : Nat} {σ : Mm} {P Q W n : Nat} (hv : V_now σ P Q W n) {x : Int32} (h : isN x n) : f11_isGiving N x σ = some (1, σ) := by
  obtain ⟨h1, h2, h3, -⟩ := hv
  have e : ix (15 : Int32) = 15 := rfl
  unfold f11_isGiving
  rw [zc_t in_15, e, h3, in_t (by omega) h, z_b_some, zc_t isZ_1]
theorem isGiving_f {N : Nat} {σ : Mm} {P Q W n : Nat} (hv : V_now σ P Q W n) {x : Int32} (h : ¬ isN x n) : f11_isGiving N x σ = some (0, σ) := by
  obtain ⟨h1, h2, h3, -⟩ := hv
  have e : ix (15 : Int32) = 15 := rfl
  unfold f11_isGiving
  rw [zc_t in_15, e, h3, in_f (by omega) h, z_b_some, zc_t isZ_0]
theorem pr_forget {N : Nat} : ∀ (σ : Mm), Inv N σ → ∃ (r : Int32) (σ1 σ2 : Mm), f10_forget N σ = some (r, σ1) ∧ f11_forget N σ1 = some (r, σ2) ∧ Inv N σ2 := by
  intro σ hI
  obtain ⟨o, v, P, Q, W, n, h1, h2, h3, h4, h5, h6, h7, ⟨t, a1, a2, a3, a4⟩, h9⟩ := id hI
  refine ⟨nI t, sI σ 0 15 0, sI (sI σ 0 15 0) 160 69 0, ?_, ?_, o, v, P, Q, W, n, h1.eq (EqOn.wI2 (by decide) (by decide)), h2.eq (EqOn.wI2 (by decide) (by decide)), h3.eq (EqOn.wI2 (by decide) (by decide)), h4.eq (EqOn.wI2 (by decide) (by decide)) (EqOn.wI2 (by decide) (by decide)), h5.eq (EqOn.wI2 (by decide) (by decide)), h6.eq (EqOn.wI2 (by decide) (by decide)), h7.eq (EqOn.wI2 (by decide) (by decide)), ⟨0, by decide, ?_, ?_, fun i hi => absurd hi (Nat.not_lt_zero i)⟩, h9.eq (EqOn.wI2 (by decide) (by decide))⟩
  · simp [f10_forget, z_l, a2]
  · simp [f11_forget, z_l, gI_s, a3]
  · simp [gI_s]
    rfl
  · simp [gI_s]
    rfl
