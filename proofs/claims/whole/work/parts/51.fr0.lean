-- FRAMES: atoms (first cell, how many cells, a place or all places)
abbrev Wr : Type := List (Nat × Nat × Option Nat)
def wIn (L : Wr) (id k : Nat) : Prop := ∃ a ∈ L, (a.1 ≤ id ∧ id < a.1 + a.2.1) ∧ (a.2.2 = none ∨ a.2.2 = some k)
/-- nothing but the cells of L has changed -/
def Same (L : Wr) (σ τ : Mm) : Prop := ∀ id k, ¬ wIn L id k → gI τ id k = gI σ id k ∧ gL τ id k = gL σ id k ∧ gR τ id k = gR σ id k
theorem Same.rf {L : Wr} {σ : Mm} : Same L σ σ := fun _ _ _ => ⟨rfl, rfl, rfl⟩
theorem Same.tr {L : Wr} {σ τ υ : Mm} (h : Same L σ τ) (h2 : Same L τ υ) : Same L σ υ := fun id k hn => by
  obtain ⟨a, b, c⟩ := h id k hn
  obtain ⟨a2, b2, c2⟩ := h2 id k hn
  exact ⟨a2.trans a, b2.trans b, c2.trans c⟩
theorem Same.mono {L L' : Wr} {σ τ : Mm} (h : Same L σ τ) (hs : ∀ a ∈ L, a ∈ L') : Same L' σ τ := fun id k hn => h id k fun ⟨a, ha, hb⟩ => hn ⟨a, hs a ha, hb⟩
theorem Same.nil {L : Wr} {σ τ : Mm} (h : Same [] σ τ) : Same L σ τ := h.mono (fun _ h => by cases h)
theorem Same.big {L L' : Wr} {σ τ : Mm} (h : Same L σ τ) (hs : ∀ a ∈ L, ∃ b ∈ L', b.1 ≤ a.1 ∧ a.1 + a.2.1 ≤ b.1 + b.2.1 ∧ (b.2.2 = none ∨ b.2.2 = a.2.2)) : Same L' σ τ := fun id k hn => h id k fun ⟨a, ha, hb, hc⟩ => by
  obtain ⟨b, hb1, hb2, hb3, hb4⟩ := hs a ha
  refine hn ⟨b, hb1, by omega, ?_⟩
  rcases hb4 with e | e
  · exact Or.inl e
  · rw [e]; exact hc
theorem wsub {L L' : Wr} (is : List Nat) (h : is.map (fun i => L'[i]?) = L.map some) : ∀ a ∈ L, a ∈ L' := by
  intro a ha
  have h1 : some a ∈ is.map (fun i => L'[i]?) := by rw [h]; exact List.mem_map.mpr ⟨a, ha, rfl⟩
  obtain ⟨i, -, hi⟩ := List.mem_map.mp h1
  exact List.mem_of_getElem? hi
theorem wIn_at {L : Wr} {i id k : Nat} {o : Option Nat} (h : L[i]? = some (id, 1, o)) (ho : o = none ∨ o = some k) : wIn L id k := ⟨_, List.mem_of_getElem? h, ⟨Nat.le_refl _, Nat.lt_succ_self _⟩, ho⟩
theorem Same_sI {L : Wr} {i : Nat} {σ : Mm} {a k : Nat} {v : Int32} (h : L[i]? = some (a, 1, some k)) : Same L σ (sI σ a k v) := by
  intro id j hn
  refine ⟨?_, rfl, rfl⟩
  unfold gI sI
  dsimp only
  by_cases e : id = a
  · subst e
    by_cases e2 : j = k
    · subst e2
      exact absurd (wIn_at h (Or.inr rfl)) hn
    · simp [upd, e2]
  · rw [if_neg e]
theorem Same_sIe {L : Wr} {i : Nat} {σ : Mm} {a k : Nat} {v : Int32} (h : L[i]? = some (a, 1, none)) : Same L σ (sI σ a k v) := by
  intro id j hn
  refine ⟨?_, rfl, rfl⟩
  unfold gI sI
  dsimp only
  by_cases e : id = a
  · subst e
    exact absurd (wIn_at h (Or.inl rfl)) hn
  · rw [if_neg e]
theorem Same_sIr {L : Wr} {i : Nat} {σ : Mm} {a : Nat} {f : Nat → Int32} (h : L[i]? = some (a, 1, none)) : Same L σ (sIr σ a f) := by
  intro id j hn
  refine ⟨?_, rfl, rfl⟩
  unfold gI sIr
  dsimp only
  by_cases e : id = a
  · subst e
    exact absurd (wIn_at h (Or.inl rfl)) hn
  · rw [if_neg e]
theorem Same_sLr {L : Wr} {i : Nat} {σ : Mm} {a k : Nat} {v : Int64} (h : L[i]? = some (a, 1, none)) : Same L σ (sL σ a k v) := by
  intro id j hn
  refine ⟨rfl, ?_, rfl⟩
  unfold gL sL
  dsimp only
  by_cases e : id = a
  · subst e
    exact absurd (wIn_at h (Or.inl rfl)) hn
  · rw [if_neg e]
theorem Same_sR {L : Wr} {i : Nat} {σ : Mm} {a k : Nat} {v : Option Nat} (h : L[i]? = some (a, 1, some k)) : Same L σ (sR σ a k v) := by
  intro id j hn
  refine ⟨rfl, rfl, ?_⟩
  unfold gR sR
  dsimp only
  by_cases e : id = a
  · subst e
    by_cases e2 : j = k
    · subst e2
      exact absurd (wIn_at h (Or.inr rfl)) hn
    · simp [va_up, e2]
  · rw [if_neg e]
theorem z_l_x {α β : Type} {v : α} {k : α → β} {z : β} (h : z_l v k = z) : ∃ x, x = v ∧ k x = z := ⟨v, rfl, h⟩
theorem z_if {β : Type} {c : Prop} [Decidable c] {x y z : β} (h : (if c then x else y) = z) : x = z ∨ y = z := by
  by_cases hc : c
  · rw [if_pos hc] at h; exact Or.inl h
  · rw [if_neg hc] at h; exact Or.inr h
theorem kdo_3 {t : Nat} (h : (kd t).1 = 3) : t = 7 ∨ t = 27 := (by decide +kernel : ∀ t, t < 212 → (kd t).1 = 3 → t = 7 ∨ t = 27) t (kd_lt h (by decide)) h
theorem kdo_4 {t : Nat} (h : (kd t).1 = 4) : t = 19 ∨ t = 39 := (by decide +kernel : ∀ t, t < 212 → (kd t).1 = 4 → t = 19 ∨ t = 39) t (kd_lt h (by decide)) h

def wrJ_fill (o0 : Nat) : Wr := [(o0, 1, none)]
set_option maxHeartbeats 4000000 in
theorem frJ_fill_5 (N : Nat) {o0 : Nat} {x1 : Int32} {x3 : Int32} {σ0 : Mm} {u0 : Unit} : ∀ (fu : Nat) (x2 : Int32) (σ : Mm), fJ_fill_5 N o0 x1 x3 fu x2 σ = some (u0, σ0) → Same (wrJ_fill o0) σ σ0 := by
  intro fu
  induction fu with
  | zero =>
    intro x2 σ hf
    rw [fJ_fill_5] at hf
    cases hf
  | succ fu ih =>
    intro x2 σ hf
    rw [fJ_fill_5] at hf
    have hS : Same (wrJ_fill o0) σ σ := Same.rf
    rcases z_if hf with hf | hf
    · obtain ⟨-, rfl⟩ := Prod.mk.inj (Option.some.inj hf)
      exact hS
    · obtain ⟨-, hf⟩ := z_c_e hf
      obtain ⟨σ_1, eσ_1, hf⟩ := z_l_x hf
      have hS := hS.tr (υ := σ_1) (by rw [eσ_1]; exact Same_sIe (i := 0) rfl)
      obtain ⟨x2_2, ex2_2, hf⟩ := z_l_x hf
      exact hS.tr (ih x2_2 σ_1 hf)
set_option maxHeartbeats 4000000 in
theorem frJ_fill (N : Nat) {o0 : Nat} {x1 : Int32} {σ σ0 : Mm} {u0 : Unit} (hf : fJ_fill N o0 x1 σ = some (u0, σ0)) : Same (wrJ_fill o0) σ σ0 := by
  unfold fJ_fill at hf
  have hS : Same (wrJ_fill o0) σ σ := Same.rf
  exact hS.tr (frJ_fill_5 N  N (0 : Int32) σ hf)
