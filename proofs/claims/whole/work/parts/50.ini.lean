/-- both objects made -/
def iniR (N : Nat) : Option (Unit × Mm) := z_l (clr σz 0) fun σ1 => z_b (f10_init N σ1) fun _ σ2 => z_l (clr σ2 160) fun σ3 => f11_init N σ3
theorem ini_some : (iniR 4000).isSome = true := by decide +kernel
def σi : Mm := ((iniR 4000).getD ((), σz)).2
theorem ini_get {α : Type} {x : Option (Unit × α)} {d : Unit × α} (h : x.isSome = true) : x = some ((), (x.getD d).2) := by
  cases x with
  | none => cases h
  | some q => rfl
theorem ini_eq : iniR 4000 = some ((), σi) := ini_get ini_some
theorem start_N {N L : Nat} {xs : Nat → Int32} {σ0 σ : Mm} (e : iniR N = some ((), σ)) (h : fL_18 N L xs N (0 : Int32) σ = some (1, σ0)) : fL_start N L xs = some (1, σ0) := by
  unfold iniR at e
  unfold fL_start
  obtain ⟨u2, σ2, h2, e⟩ := z_b_e (z_l_e rfl e)
  have e3 : f11_init N (clr σ2 160) = some ((), σ) := z_l_e rfl e
  simp only [z_l, h2, z_b, e3]
  exact h
theorem start_of {L : Nat} {xs : Nat → Int32} {σ0 : Mm} (h : fL_18 4000 L xs 4000 (0 : Int32) σi = some (1, σ0)) : ∃ (N : Nat) (σ0 : Mm), fL_start N L xs = some (1, σ0) := ⟨4000, σ0, start_N ini_eq h⟩
