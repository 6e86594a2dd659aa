-- the laws: what each tells, by both
def D_lawC : Wr := [(19, 4, none), (39, 4, none)]
def D_lawM : Wr := [(186, 9, none), (160, 1, some 18)]
def dfl (k : Nat) (f : Nat → Int32) : Int32 := if k = 0 then f 1 - f 2 else if k = 1 then 0 else if k = 2 then f 6 else 1
def V_law (N : Nat) (σ : Mm) (o : Nat) : Prop := ∀ k, k < 4 → ∃ F : (Nat → Int32) → Int32, (∀ f g : Nat → Int32, (∀ j, j < 9 → f j = g j) → F f = F g) ∧
  (∀ τ : Mm, EqOn D_lawC σ τ → ∀ vr, kd vr = (13, 9) → ∃ τ1 : Mm, f4_answer N (o + 12) vr (nI k) τ = some (F (gI τ vr), τ1)) ∧
  (∀ τ : Mm, EqOn D_lawM σ τ → ∃ τ1 : Mm, f11_lawTells N (nI k) (dfl k (gI τ 196)) τ = some (F (gI τ 196), τ1))
theorem V_law.eq {N : Nat} {σ τ : Mm} {o : Nat} (h : EqOn D_lawC σ τ) (h2 : EqOn D_lawM σ τ) (hv : V_law N σ o) : V_law N τ o := by
  intro k hk
  obtain ⟨F, h1, h3, h4⟩ := hv k hk
  exact ⟨F, h1, fun υ hu => h3 υ (h.tr hu), fun υ hu => h4 υ (h2.tr hu)⟩
-- the rows of variables: places that are never written
def D_vars : Wr := [(61, 1, some 6), (61, 1, some 7), (61, 1, some 8), (62, 1, some 2), (62, 1, some 5), (62, 1, some 6), (62, 1, some 7), (62, 1, some 8), (63, 1, some 0), (63, 1, some 1), (63, 1, some 2), (63, 1, some 4), (63, 1, some 5), (64, 1, some 0), (64, 1, some 1), (64, 1, some 2), (64, 1, some 4), (64, 1, some 5), (64, 1, some 6)]
def V_vars (σ : Mm) : Prop := ∀ a ∈ D_vars, ∀ k, a.2.2 = some k → gI σ a.1 k = 0
theorem V_vars.eq {σ τ : Mm} (h : EqOn D_vars σ τ) (hv : V_vars σ) : V_vars τ := by
  intro a ha k hk
  have hn : a.2.1 = 1 := (by decide : ∀ a ∈ D_vars, a.2.1 = 1) a ha
  rw [h.I ⟨a, ha, ⟨Nat.le_refl _, by omega⟩, Or.inr hk⟩]
  exact hv a ha k hk
/-- all data cells -/
def D_all : Wr := D_vars ++ (D_tape ++ (D_place ++ (D_land ++ (D_lawC ++ (D_lawM ++ (D_now ++ (D_undo ++ (D_slot ++ D_told))))))))
def InvP (N : Nat) (σ : Mm) (o v P Q W n : Nat) : Prop := V_tape σ ∧ V_place σ ∧ V_land σ o v P Q W ∧ V_law N σ o ∧ V_now σ P Q W n ∧ V_undo σ P Q W n ∧ V_slot σ P Q W ∧ V_told σ W ∧ V_vars σ
def Inv (N : Nat) (σ : Mm) : Prop := ∃ o v P Q W n : Nat, InvP N σ o v P Q W n
theorem InvP.eq {N : Nat} {σ τ : Mm} {o v P Q W n : Nat} (h : EqOn D_all σ τ) (hv : InvP N σ o v P Q W n) : InvP N τ o v P Q W n := by
  obtain ⟨h1, h2, h3, h4, h5, h6, h7, h8, h9⟩ := hv
  exact ⟨h1.eq (h.sub (by decide)), h2.eq (h.sub (by decide)), h3.eq (h.sub (by decide)), h4.eq (h.sub (by decide)) (h.sub (by decide)), h5.eq (h.sub (by decide)), h6.eq (h.sub (by decide)), h7.eq (h.sub (by decide)), h8.eq (h.sub (by decide)), h9.eq (h.sub (by decide))⟩
theorem Inv.eq {N : Nat} {σ τ : Mm} (h : EqOn D_all σ τ) (hv : Inv N σ) : Inv N τ := by
  obtain ⟨o, v, P, Q, W, n, hv⟩ := hv
  exact ⟨o, v, P, Q, W, n, hv.eq h⟩
/-- a call that writes no data cell keeps the invariant -/
theorem Inv.keep {N : Nat} {L : Wr} {σ τ : Mm} (hs : Same L σ τ) (hd : offL L D_all = true) (hv : Inv N σ) : Inv N τ := hv.eq (hs.on hd)
-- the first pairs
theorem pr_place {N : Nat} : ∀ (σ : Mm), Inv N σ → ∃ (r : Int32) (σ1 σ2 : Mm), f10_place N σ = some (r, σ1) ∧ f11_place N σ1 = some (r, σ2) ∧ Inv N σ2 := by
  intro σ hI
  obtain ⟨o, v, P, Q, W, n, h⟩ := id hI
  refine ⟨gI σ 160 17, σ, σ, ?_, rfl, hI⟩
  have h2 : gI σ 2 5 = gI σ 160 17 := h.2.1
  rw [← h2]
  rfl
theorem gI_s {σ : Mm} {a k b j : Nat} {v : Int32} : gI (sI σ a k v) b j = if b = a ∧ j = k then v else gI σ b j := by
  unfold gI sI
  dsimp only
  by_cases h1 : b = a
  · subst h1
    by_cases h2 : j = k
    · simp [upd, h2]
    · simp [upd, h2]
  · simp [h1]
theorem gR_s {σ : Mm} {a k b j : Nat} {v : Int32} : gR (sI σ a k v) b j = gR σ b j := rfl
theorem gL_s {σ : Mm} {a k b j : Nat} {v : Int32} : gL (sI σ a k v) b j = gL σ b j := rfl
/-- a write outside of D -/
theorem EqOn.wI {D : Wr} {σ : Mm} {a k : Nat} {v : Int32} (hd : offL [(a, 1, some k)] D = true) : EqOn D σ (sI σ a k v) := Same.on (Same_sI (i := 0) rfl) hd
theorem EqOn.wI2 {D : Wr} {σ : Mm} {a k b j : Nat} {v w : Int32} (hd : offL [(a, 1, some k)] D = true) (hd2 : offL [(b, 1, some j)] D = true) : EqOn D σ (sI (sI σ a k v) b j w) := (EqOn.wI hd).tr (EqOn.wI hd2)
def D_x (D : Wr) (L : Wr) : Prop := offL L D = true
theorem pr_back {N : Nat} : ∀ (x1 : Int32) (σ : Mm), Inv N σ → ∃ (r : Int32) (σ1 σ2 : Mm), f10_back N x1 σ = some (r, σ1) ∧ f11_back N x1 σ1 = some (r, σ2) ∧ Inv N σ2 := by
  intro x σ hI
  obtain ⟨o, v, P, Q, W, n, ⟨m, g1, g2, g3, g4⟩, h2, h3, h4, h5, h6, h7, h8, h9⟩ := id hI
  by_cases c1 : x < 0
  · refine ⟨-1, σ, σ, ?_, ?_, hI⟩
    · simp [f10_back, c1]
    · simp [f11_back, c1]
  by_cases c2 : x ≤ gI σ 0 1
  · have c3 : x ≤ gI σ 160 2 := by rw [g3, ← g2]; exact c2
    refine ⟨gI σ 0 1 - x, sI σ 0 1 (gI σ 0 1 - x), sI (sI σ 0 1 (gI σ 0 1 - x)) 160 2 (gI σ 160 2 - x), ?_, ?_, ?_⟩
    · simp [f10_back, c1, c2, z_l, gI_s]
    · have c4 : x ≤ nI m := by rw [← g2]; exact c2
      simp [f11_back, c1, c4, z_l, gI_s, g2, g3]
    · obtain ⟨j, hj, rfl⟩ := nI_of c1
      have hjm : j ≤ m := by rw [g2, nI_leI hj (by omega)] at c2; exact c2
      refine ⟨o, v, P, Q, W, n, ⟨m - j, by omega, ?_, ?_, ?_⟩, h2.eq (EqOn.wI2 (by decide) (by decide)), h3.eq (EqOn.wI2 (by decide) (by decide)), h4.eq (EqOn.wI2 (by decide) (by decide)) (EqOn.wI2 (by decide) (by decide)), h5.eq (EqOn.wI2 (by decide) (by decide)), h6.eq (EqOn.wI2 (by decide) (by decide)), h7.eq (EqOn.wI2 (by decide) (by decide)), h8.eq (EqOn.wI2 (by decide) (by decide)), h9.eq (EqOn.wI2 (by decide) (by decide))⟩
      · simp [gI_s, g2, pk_sub hjm]
      · simp [gI_s, g3, pk_sub hjm]
      · intro i hi
        simp [gI_s]
        exact g4 i (by omega)
  · have c3 : ¬ x ≤ gI σ 160 2 := by rw [g3, ← g2]; exact c2
    refine ⟨-1, σ, σ, ?_, ?_, hI⟩
    · simp [f10_back, c1, c2]
    · simp [f11_back, c1, c3]
