-- ROWS FILLED BY LOOPS
theorem Mm_ext {σ τ : Mm} (h1 : σ.1 = τ.1) (h2 : σ.2 = τ.2) : σ = τ := Prod.ext h1 h2
theorem sIr_self {σ : Mm} {a : Nat} {f : Nat → Int32} (h : ∀ j, f j = gI σ a j) : sIr σ a f = σ := by
  refine Mm_ext ?_ rfl
  funext b
  by_cases e : b = a
  · subst e
    funext j
    simp [sIr]
    exact h j
  · simp [sIr, e]
theorem sIr_sI {σ : Mm} {a k : Nat} {v : Int32} {f : Nat → Int32} : sIr (sI σ a k v) a f = sIr σ a f := by
  refine Mm_ext ?_ rfl
  funext b
  by_cases e : b = a
  · simp [sIr, e]
  · simp [sIr, sI, e]
theorem sIr_cong {σ : Mm} {a : Nat} {f g : Nat → Int32} (h : ∀ j, f j = g j) : sIr σ a f = sIr σ a g := by
  rw [show f = g from funext h]
theorem gI_r {σ : Mm} {a b j : Nat} {f : Nat → Int32} : gI (sIr σ a f) b j = if b = a then f j else gI σ b j := by
  unfold gI sIr
  dsimp only
  by_cases h : b = a
  · simp [h]
  · simp [h]
theorem gR_r {σ : Mm} {a b j : Nat} {f : Nat → Int32} : gR (sIr σ a f) b j = gR σ b j := rfl
theorem copies_loop {N : Nat} : ∀ (fu i : Nat) (σ : Mm), i ≤ 117 → 117 - i < fu → f11_copies_2 N fu (nI i) σ = f11_copies_26 N (sIr σ 199 (fun j => if i ≤ j ∧ j < 117 then gI σ 198 j else gI σ 199 j)) := by
  intro fu
  induction fu with
  | zero => intro i σ h1 h2; omega
  | succ fu ih =>
    intro i σ h1 h2
    rw [f11_copies_2]
    by_cases c : i = 117
    · subst c
      rw [if_pos (by decide), sIr_self (fun j => by rw [if_neg (by omega)])]
    · have c2 : ¬ (117 : Int32) ≤ nI i := by
        rw [show (117 : Int32) = nI 117 from rfl, nI_leI (by decide) (by omega)]; omega
      have e : ix (nI i) = i := nI_clamp (by omega)
      rw [if_neg c2, zc_t (in_i0 (by omega) (by decide)), zc_t (in_i0 (by omega) (by decide)), z_l_eq, z_l_eq, e, nI_1, ih (i + 1) _ (by omega) (by omega), sIr_sI]
      congr 1
      refine sIr_cong fun j => ?_
      by_cases hj : j = i
      · subst hj
        rw [if_neg (by omega), if_pos (by omega), gI_s, if_pos ⟨rfl, rfl⟩]
      · by_cases hk : i + 1 ≤ j ∧ j < 117
        · rw [if_pos hk, if_pos (by omega), gI_s, if_neg (by omega)]
        · rw [if_neg hk, if_neg (by omega), gI_s, if_neg (by omega)]
theorem copies_spec {N : Nat} (hN : 118 ≤ N) {σ : Mm} {o v P Q W : Nat} (hv : V_land σ o v P Q W) : ∃ τ : Mm, f11_copies N σ = some ((), τ) ∧ (∀ j, j < 117 → gI τ 199 j = gI σ 198 j) ∧ gI τ 160 57 = gI σ 185 v ∧ gI τ 160 58 = 0 ∧ gI τ 160 59 = 0 ∧ Same wr11_copies σ τ := by
  obtain ⟨h1, h2, h3, h4, h5, h6, h7, h8, h9, -⟩ := hv
  have e : ix (nI v) = v := nI_clamp (by omega)
  have hrun : ∃ τ : Mm, f11_copies N σ = some ((), τ) ∧ (∀ j, j < 117 → gI τ 199 j = gI σ 198 j) ∧ gI τ 160 57 = gI σ 185 v ∧ gI τ 160 58 = 0 ∧ gI τ 160 59 = 0 := by
    unfold f11_copies
    rw [show (0 : Int32) = nI 0 from rfl, copies_loop N 0 σ (by omega) (by omega)]
    unfold f11_copies_26
    have e2 : gI (sIr σ 199 (fun j => if 0 ≤ j ∧ j < 117 then gI σ 198 j else gI σ 199 j)) 160 18 = nI v := by rw [gI_r, if_neg (by decide)]; exact h9
    rw [e2, zc_t (in_i0 h2 (by decide)), e]
    refine ⟨_, rfl, ?_, ?_, ?_, ?_⟩
    · intro j hj
      simp [gI_s, gI_r, hj]
    · simp [gI_s, gI_r]
    · simp [gI_s, gI_r]
      rfl
    · simp [gI_s, gI_r]
      rfl
  obtain ⟨τ, a, b⟩ := hrun
  exact ⟨τ, a, b.1, b.2.1, b.2.2.1, b.2.2.2, fr11_copies N a⟩
theorem looks_loop {N : Nat} : ∀ (fu i : Nat) (σ : Mm), i ≤ 9 → 9 - i < fu → f11_looks_2 N fu (nI i) σ = f11_looks_21 N (sIr σ 196 (fun j => if i ≤ j ∧ j < 9 then 0 else gI σ 196 j)) := by
  intro fu
  induction fu with
  | zero => intro i σ h1 h2; omega
  | succ fu ih =>
    intro i σ h1 h2
    rw [f11_looks_2]
    by_cases c : i = 9
    · subst c
      rw [if_pos (by decide), sIr_self (fun j => by rw [if_neg (by omega)])]
    · have c2 : ¬ (9 : Int32) ≤ nI i := by
        rw [show (9 : Int32) = nI 9 from rfl, nI_leI (by decide) (by omega)]; omega
      have e : ix (nI i) = i := nI_clamp (by omega)
      rw [if_neg c2, zc_t (in_i0 (by omega) (by decide)), z_l_eq, z_l_eq, e, nI_1, ih (i + 1) _ (by omega) (by omega), sIr_sI]
      congr 1
      refine sIr_cong fun j => ?_
      by_cases hj : j = i
      · subst hj
        rw [if_neg (by omega), if_pos (by omega), gI_s, if_pos ⟨rfl, rfl⟩]
      · by_cases hk : i + 1 ≤ j ∧ j < 9
        · rw [if_pos hk, if_pos (by omega)]
        · rw [if_neg hk, if_neg (by omega), gI_s, if_neg (by omega)]
/-- looks(): all variables are 0, but the year -/
theorem looks_spec {N : Nat} (hN : 118 ≤ N) {σ : Mm} : ∃ τ : Mm, f11_looks N σ = some ((), τ) ∧ (∀ j, j < 9 → gI τ 196 j = if j = 3 then gI σ 199 14 else 0) ∧ Same wr11_looks σ τ := by
  have hrun : ∃ τ : Mm, f11_looks N σ = some ((), τ) ∧ (∀ j, j < 9 → gI τ 196 j = if j = 3 then gI σ 199 14 else 0) := by
    unfold f11_looks
    rw [show (0 : Int32) = nI 0 from rfl, looks_loop N 0 σ (by omega) (by omega)]
    unfold f11_looks_21
    rw [zc_t (b := inB 14 117) rfl, zc_t (b := inB 3 9) rfl]
    refine ⟨_, rfl, fun j hj => ?_⟩
    have e3 : ix (3 : Int32) = 3 := rfl
    have e14 : ix (14 : Int32) = 14 := rfl
    simp only [gI_s, gI_r, e3, e14]
    by_cases c : j = 3
    · simp [c]
    · simp [c, hj]
      rfl
  obtain ⟨τ, a, b⟩ := hrun
  exact ⟨τ, a, b, fr11_looks N a⟩
