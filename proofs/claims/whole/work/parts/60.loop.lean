theorem zc_t {β : Type} {b : Bool} {x : Option β} (h : b = true) : z_c b x = x := by unfold z_c; rw [if_pos h]
theorem in_ix {i j L : Nat} (h : i + j < L) (hL : L < 2 ^ 31) : inB (nI i + nI j) L = true := by
  rw [nI_add]
  unfold inB
  rw [nI_clamp (by omega)]
  have h1 : ¬ nI (i + j) < 0 := nI_pos (by omega)
  have h2 : ¬ L ≤ i + j := by omega
  simp [h1, h2]
theorem in_i0 {i L : Nat} (h : i < L) (hL : L < 2 ^ 31) : inB (nI i) L = true := by
  unfold inB
  rw [nI_clamp (by omega)]
  have h1 : ¬ nI i < 0 := nI_pos (by omega)
  have h2 : ¬ L ≤ i := by omega
  simp [h1, h2]
theorem lc_feed {Inv : Mm → Prop} {N : Nat} (hp : ∀ (x1 : Int32), ∀ (x2 : Int32), ∀ (x3 : Int32), ∀ (x4 : Int32), ∀ (x5 : Int32), ∀ (σ : Mm), Inv σ → ∃ (r : Int32) (σ1 σ2 : Mm), f10_feed N x1 x2 x3 x4 x5 σ = some (r, σ1) ∧ f11_feed N x1 x2 x3 x4 x5 σ1 = some (r, σ2) ∧ Inv σ2) {L : Nat} {xs : Nat → Int32} {x3 : Int32} {k18 : Int32 → Mm → Option (Int32 × Mm)} {σ : Mm} (h1 : inB (x3 + (1 : Int32)) L = true) (h2 : inB (x3 + (2 : Int32)) L = true) (h3 : inB (x3 + (3 : Int32)) L = true) (h4 : inB (x3 + (4 : Int32)) L = true) (h5 : inB (x3 + (5 : Int32)) L = true) (hI : Inv σ) : ∃ σ1 : Mm, Inv σ1 ∧ fL_200 N k18 L xs x3 σ = k18 (x3 + 6) σ1 := by
  obtain ⟨r, τ1, τ2, e1, e2, hI⟩ := hp (xs (ix (x3 + (1 : Int32)))) (xs (ix (x3 + (2 : Int32)))) (xs (ix (x3 + (3 : Int32)))) (xs (ix (x3 + (4 : Int32)))) (xs (ix (x3 + (5 : Int32)))) σ hI
  refine ⟨τ2, hI, ?_⟩
  simp [fL_200, fL_1326, z_c, z_b, z_l, h1, h2, h3, h4, h5, e1, e2]
theorem lc_back {Inv : Mm → Prop} {N : Nat} (hp : ∀ (x1 : Int32), ∀ (σ : Mm), Inv σ → ∃ (r : Int32) (σ1 σ2 : Mm), f10_back N x1 σ = some (r, σ1) ∧ f11_back N x1 σ1 = some (r, σ2) ∧ Inv σ2) {L : Nat} {xs : Nat → Int32} {x3 : Int32} {k18 : Int32 → Mm → Option (Int32 × Mm)} {σ : Mm} (h1 : inB (x3 + (1 : Int32)) L = true) (h2 : inB (x3 + (2 : Int32)) L = true) (h3 : inB (x3 + (3 : Int32)) L = true) (h4 : inB (x3 + (4 : Int32)) L = true) (h5 : inB (x3 + (5 : Int32)) L = true) (hI : Inv σ) : ∃ σ1 : Mm, Inv σ1 ∧ fL_263 N k18 L xs x3 σ = k18 (x3 + 6) σ1 := by
  obtain ⟨r, τ1, τ2, e1, e2, hI⟩ := hp (xs (ix (x3 + (1 : Int32)))) σ hI
  refine ⟨τ2, hI, ?_⟩
  simp [fL_263, fL_1326, z_c, z_b, z_l, h1, h2, h3, h4, h5, e1, e2]
theorem lc_read {Inv : Mm → Prop} {N : Nat} (hp : ∀ (σ : Mm), Inv σ → ∃ (r : Int32) (σ1 σ2 : Mm), f10_read N  σ = some (r, σ1) ∧ f11_read N  σ1 = some (r, σ2) ∧ Inv σ2) {L : Nat} {xs : Nat → Int32} {x3 : Int32} {k18 : Int32 → Mm → Option (Int32 × Mm)} {σ : Mm} (h1 : inB (x3 + (1 : Int32)) L = true) (h2 : inB (x3 + (2 : Int32)) L = true) (h3 : inB (x3 + (3 : Int32)) L = true) (h4 : inB (x3 + (4 : Int32)) L = true) (h5 : inB (x3 + (5 : Int32)) L = true) (hI : Inv σ) : ∃ σ1 : Mm, Inv σ1 ∧ fL_286 N k18 L xs x3 σ = k18 (x3 + 6) σ1 := by
  obtain ⟨r, τ1, τ2, e1, e2, hI⟩ := hp  σ hI
  refine ⟨τ2, hI, ?_⟩
  simp [fL_286, fL_1326, z_c, z_b, z_l, h1, h2, h3, h4, h5, e1, e2]
theorem lc_place {Inv : Mm → Prop} {N : Nat} (hp : ∀ (σ : Mm), Inv σ → ∃ (r : Int32) (σ1 σ2 : Mm), f10_place N  σ = some (r, σ1) ∧ f11_place N  σ1 = some (r, σ2) ∧ Inv σ2) {L : Nat} {xs : Nat → Int32} {x3 : Int32} {k18 : Int32 → Mm → Option (Int32 × Mm)} {σ : Mm} (h1 : inB (x3 + (1 : Int32)) L = true) (h2 : inB (x3 + (2 : Int32)) L = true) (h3 : inB (x3 + (3 : Int32)) L = true) (h4 : inB (x3 + (4 : Int32)) L = true) (h5 : inB (x3 + (5 : Int32)) L = true) (hI : Inv σ) : ∃ σ1 : Mm, Inv σ1 ∧ fL_299 N k18 L xs x3 σ = k18 (x3 + 6) σ1 := by
  obtain ⟨r, τ1, τ2, e1, e2, hI⟩ := hp  σ hI
  refine ⟨τ2, hI, ?_⟩
  simp [fL_299, fL_1326, z_c, z_b, z_l, h1, h2, h3, h4, h5, e1, e2]
theorem lc_plot {Inv : Mm → Prop} {N : Nat} (hp : ∀ (x1 : Int32), ∀ (x2 : Int32), ∀ (σ : Mm), Inv σ → ∃ (r : Int32) (σ1 σ2 : Mm), f10_plot N x1 x2 σ = some (r, σ1) ∧ f11_plot N x1 x2 σ1 = some (r, σ2) ∧ Inv σ2) {L : Nat} {xs : Nat → Int32} {x3 : Int32} {k18 : Int32 → Mm → Option (Int32 × Mm)} {σ : Mm} (h1 : inB (x3 + (1 : Int32)) L = true) (h2 : inB (x3 + (2 : Int32)) L = true) (h3 : inB (x3 + (3 : Int32)) L = true) (h4 : inB (x3 + (4 : Int32)) L = true) (h5 : inB (x3 + (5 : Int32)) L = true) (hI : Inv σ) : ∃ σ1 : Mm, Inv σ1 ∧ fL_312 N k18 L xs x3 σ = k18 (x3 + 6) σ1 := by
  obtain ⟨r, τ1, τ2, e1, e2, hI⟩ := hp (xs (ix (x3 + (1 : Int32)))) (xs (ix (x3 + (2 : Int32)))) σ hI
  refine ⟨τ2, hI, ?_⟩
  simp [fL_312, fL_1326, z_c, z_b, z_l, h1, h2, h3, h4, h5, e1, e2]
theorem lc_witness {Inv : Mm → Prop} {N : Nat} (hp : ∀ (x1 : Int32), ∀ (x2 : Int32), ∀ (σ : Mm), Inv σ → ∃ (r : Int32) (σ1 σ2 : Mm), f10_witness N x1 x2 σ = some (r, σ1) ∧ f11_witness N x1 x2 σ1 = some (r, σ2) ∧ Inv σ2) {L : Nat} {xs : Nat → Int32} {x3 : Int32} {k18 : Int32 → Mm → Option (Int32 × Mm)} {σ : Mm} (h1 : inB (x3 + (1 : Int32)) L = true) (h2 : inB (x3 + (2 : Int32)) L = true) (h3 : inB (x3 + (3 : Int32)) L = true) (h4 : inB (x3 + (4 : Int32)) L = true) (h5 : inB (x3 + (5 : Int32)) L = true) (hI : Inv σ) : ∃ σ1 : Mm, Inv σ1 ∧ fL_345 N k18 L xs x3 σ = k18 (x3 + 6) σ1 := by
  obtain ⟨r, τ1, τ2, e1, e2, hI⟩ := hp (xs (ix (x3 + (1 : Int32)))) (xs (ix (x3 + (2 : Int32)))) σ hI
  refine ⟨τ2, hI, ?_⟩
  simp [fL_345, fL_1326, z_c, z_b, z_l, h1, h2, h3, h4, h5, e1, e2]
theorem lc_giving {Inv : Mm → Prop} {N : Nat} (hp : ∀ (x1 : Int32), ∀ (x2 : Int32), ∀ (σ : Mm), Inv σ → ∃ (r : Int32) (σ1 σ2 : Mm), f10_giving N x1 x2 σ = some (r, σ1) ∧ f11_giving N x1 x2 σ1 = some (r, σ2) ∧ Inv σ2) {L : Nat} {xs : Nat → Int32} {x3 : Int32} {k18 : Int32 → Mm → Option (Int32 × Mm)} {σ : Mm} (h1 : inB (x3 + (1 : Int32)) L = true) (h2 : inB (x3 + (2 : Int32)) L = true) (h3 : inB (x3 + (3 : Int32)) L = true) (h4 : inB (x3 + (4 : Int32)) L = true) (h5 : inB (x3 + (5 : Int32)) L = true) (hI : Inv σ) : ∃ σ1 : Mm, Inv σ1 ∧ fL_378 N k18 L xs x3 σ = k18 (x3 + 6) σ1 := by
  obtain ⟨r, τ1, τ2, e1, e2, hI⟩ := hp (xs (ix (x3 + (1 : Int32)))) (xs (ix (x3 + (2 : Int32)))) σ hI
  refine ⟨τ2, hI, ?_⟩
  simp [fL_378, fL_1326, z_c, z_b, z_l, h1, h2, h3, h4, h5, e1, e2]
theorem lc_give {Inv : Mm → Prop} {N : Nat} (hp : ∀ (x1 : Int32), ∀ (x2 : Int32), ∀ (x3 : Int32), ∀ (x4 : Int32), ∀ (σ : Mm), Inv σ → ∃ (r : Int32) (σ1 σ2 : Mm), f10_give N x1 x2 x3 x4 σ = some (r, σ1) ∧ f11_give N x1 x2 x3 x4 σ1 = some (r, σ2) ∧ Inv σ2) {L : Nat} {xs : Nat → Int32} {x3 : Int32} {k18 : Int32 → Mm → Option (Int32 × Mm)} {σ : Mm} (h1 : inB (x3 + (1 : Int32)) L = true) (h2 : inB (x3 + (2 : Int32)) L = true) (h3 : inB (x3 + (3 : Int32)) L = true) (h4 : inB (x3 + (4 : Int32)) L = true) (h5 : inB (x3 + (5 : Int32)) L = true) (hI : Inv σ) : ∃ σ1 : Mm, Inv σ1 ∧ fL_411 N k18 L xs x3 σ = k18 (x3 + 6) σ1 := by
  obtain ⟨r, τ1, τ2, e1, e2, hI⟩ := hp (xs (ix (x3 + (1 : Int32)))) (xs (ix (x3 + (2 : Int32)))) (xs (ix (x3 + (3 : Int32)))) (xs (ix (x3 + (4 : Int32)))) σ hI
  refine ⟨τ2, hI, ?_⟩
  simp [fL_411, fL_1326, z_c, z_b, z_l, h1, h2, h3, h4, h5, e1, e2]
theorem lc_unsay {Inv : Mm → Prop} {N : Nat} (hp : ∀ (x1 : Int32), ∀ (x2 : Int32), ∀ (σ : Mm), Inv σ → (x2 = 0 ∨ x2 = 1) → ∃ (r : Int32) (σ1 σ2 : Mm), f10_unsay N x1 x2 σ = some (r, σ1) ∧ f11_unsay N x1 x2 σ1 = some (r, σ2) ∧ Inv σ2) {L : Nat} {xs : Nat → Int32} {x3 : Int32} {k18 : Int32 → Mm → Option (Int32 × Mm)} {σ : Mm} (h1 : inB (x3 + (1 : Int32)) L = true) (h2 : inB (x3 + (2 : Int32)) L = true) (h3 : inB (x3 + (3 : Int32)) L = true) (h4 : inB (x3 + (4 : Int32)) L = true) (h5 : inB (x3 + (5 : Int32)) L = true) (hI : Inv σ) : ∃ σ1 : Mm, Inv σ1 ∧ fL_464 N k18 L xs x3 σ = k18 (x3 + 6) σ1 := by
  by_cases c0 : (xs (ix (x3 + (2 : Int32)))) = 0
  · obtain ⟨r, τ1, τ2, e1, e2, hI⟩ := hp (xs (ix (x3 + (1 : Int32)))) 0 σ hI (Or.inl rfl)
    refine ⟨τ2, hI, ?_⟩
    simp [fL_464, fL_483, fL_505, fL_1326, z_c, z_b, z_l, h1, h2, h3, h4, h5, c0, e1, e2]
  · obtain ⟨r, τ1, τ2, e1, e2, hI⟩ := hp (xs (ix (x3 + (1 : Int32)))) 1 σ hI (Or.inr rfl)
    refine ⟨τ2, hI, ?_⟩
    simp [fL_464, fL_483, fL_505, fL_1326, z_c, z_b, z_l, h1, h2, h3, h4, h5, c0, e1, e2]
theorem lc_years {Inv : Mm → Prop} {N : Nat} (hp : ∀ (x1 : Int32), ∀ (σ : Mm), Inv σ → ∃ (r : Int32) (σ1 σ2 : Mm), f10_years N x1 σ = some (r, σ1) ∧ f11_years N x1 σ1 = some (r, σ2) ∧ Inv σ2) {L : Nat} {xs : Nat → Int32} {x3 : Int32} {k18 : Int32 → Mm → Option (Int32 × Mm)} {σ : Mm} (h1 : inB (x3 + (1 : Int32)) L = true) (h2 : inB (x3 + (2 : Int32)) L = true) (h3 : inB (x3 + (3 : Int32)) L = true) (h4 : inB (x3 + (4 : Int32)) L = true) (h5 : inB (x3 + (5 : Int32)) L = true) (hI : Inv σ) : ∃ σ1 : Mm, Inv σ1 ∧ fL_513 N k18 L xs x3 σ = k18 (x3 + 6) σ1 := by
  obtain ⟨r, τ1, τ2, e1, e2, hI⟩ := hp (xs (ix (x3 + (1 : Int32)))) σ hI
  refine ⟨τ2, hI, ?_⟩
  simp [fL_513, fL_1326, z_c, z_b, z_l, h1, h2, h3, h4, h5, e1, e2]
theorem lc_undo {Inv : Mm → Prop} {N : Nat} (hp : ∀ (σ : Mm), Inv σ → ∃ (r : Int32) (σ1 σ2 : Mm), f10_undo N  σ = some (r, σ1) ∧ f11_undo N  σ1 = some (r, σ2) ∧ Inv σ2) {L : Nat} {xs : Nat → Int32} {x3 : Int32} {k18 : Int32 → Mm → Option (Int32 × Mm)} {σ : Mm} (h1 : inB (x3 + (1 : Int32)) L = true) (h2 : inB (x3 + (2 : Int32)) L = true) (h3 : inB (x3 + (3 : Int32)) L = true) (h4 : inB (x3 + (4 : Int32)) L = true) (h5 : inB (x3 + (5 : Int32)) L = true) (hI : Inv σ) : ∃ σ1 : Mm, Inv σ1 ∧ fL_536 N k18 L xs x3 σ = k18 (x3 + 6) σ1 := by
  obtain ⟨r, τ1, τ2, e1, e2, hI⟩ := hp  σ hI
  refine ⟨τ2, hI, ?_⟩
  simp [fL_536, fL_1326, z_c, z_b, z_l, h1, h2, h3, h4, h5, e1, e2]
theorem lc_lasts {Inv : Mm → Prop} {N : Nat} (hp : ∀ (x1 : Int32), ∀ (σ : Mm), Inv σ → ∃ (r : Int32) (σ1 σ2 : Mm), f10_lasts N x1 σ = some (r, σ1) ∧ f11_lasts N x1 σ1 = some (r, σ2) ∧ Inv σ2) {L : Nat} {xs : Nat → Int32} {x3 : Int32} {k18 : Int32 → Mm → Option (Int32 × Mm)} {σ : Mm} (h1 : inB (x3 + (1 : Int32)) L = true) (h2 : inB (x3 + (2 : Int32)) L = true) (h3 : inB (x3 + (3 : Int32)) L = true) (h4 : inB (x3 + (4 : Int32)) L = true) (h5 : inB (x3 + (5 : Int32)) L = true) (hI : Inv σ) : ∃ σ1 : Mm, Inv σ1 ∧ fL_549 N k18 L xs x3 σ = k18 (x3 + 6) σ1 := by
  obtain ⟨r, τ1, τ2, e1, e2, hI⟩ := hp (xs (ix (x3 + (1 : Int32)))) σ hI
  refine ⟨τ2, hI, ?_⟩
  simp [fL_549, fL_1326, z_c, z_b, z_l, h1, h2, h3, h4, h5, e1, e2]
theorem lc_book {Inv : Mm → Prop} {N : Nat} (hp : ∀ (σ : Mm), Inv σ → ∃ (r : Int32) (σ1 σ2 : Mm), f10_book N  σ = some (r, σ1) ∧ f11_book N  σ1 = some (r, σ2) ∧ Inv σ2) {L : Nat} {xs : Nat → Int32} {x3 : Int32} {k18 : Int32 → Mm → Option (Int32 × Mm)} {σ : Mm} (h1 : inB (x3 + (1 : Int32)) L = true) (h2 : inB (x3 + (2 : Int32)) L = true) (h3 : inB (x3 + (3 : Int32)) L = true) (h4 : inB (x3 + (4 : Int32)) L = true) (h5 : inB (x3 + (5 : Int32)) L = true) (hI : Inv σ) : ∃ σ1 : Mm, Inv σ1 ∧ fL_572 N k18 L xs x3 σ = k18 (x3 + 6) σ1 := by
  obtain ⟨r, τ1, τ2, e1, e2, hI⟩ := hp  σ hI
  refine ⟨τ2, hI, ?_⟩
  simp [fL_572, fL_1326, z_c, z_b, z_l, h1, h2, h3, h4, h5, e1, e2]
theorem lc_hangs {Inv : Mm → Prop} {N : Nat} (hp : ∀ (x1 : Int32), ∀ (σ : Mm), Inv σ → ∃ (r : Int32) (σ1 σ2 : Mm), f10_hangs N x1 σ = some (r, σ1) ∧ f11_hangs N x1 σ1 = some (r, σ2) ∧ Inv σ2) {L : Nat} {xs : Nat → Int32} {x3 : Int32} {k18 : Int32 → Mm → Option (Int32 × Mm)} {σ : Mm} (h1 : inB (x3 + (1 : Int32)) L = true) (h2 : inB (x3 + (2 : Int32)) L = true) (h3 : inB (x3 + (3 : Int32)) L = true) (h4 : inB (x3 + (4 : Int32)) L = true) (h5 : inB (x3 + (5 : Int32)) L = true) (hI : Inv σ) : ∃ σ1 : Mm, Inv σ1 ∧ fL_585 N k18 L xs x3 σ = k18 (x3 + 6) σ1 := by
  obtain ⟨r, τ1, τ2, e1, e2, hI⟩ := hp (xs (ix (x3 + (1 : Int32)))) σ hI
  refine ⟨τ2, hI, ?_⟩
  simp [fL_585, fL_1326, z_c, z_b, z_l, h1, h2, h3, h4, h5, e1, e2]
theorem lc_cover {Inv : Mm → Prop} {N : Nat} (hp : ∀ (x1 : Int32), ∀ (x2 : Int32), ∀ (σ : Mm), Inv σ → ∃ (r : Int32) (σ1 σ2 : Mm), f10_cover N x1 x2 σ = some (r, σ1) ∧ f11_cover N x1 x2 σ1 = some (r, σ2) ∧ Inv σ2) {L : Nat} {xs : Nat → Int32} {x3 : Int32} {k18 : Int32 → Mm → Option (Int32 × Mm)} {σ : Mm} (h1 : inB (x3 + (1 : Int32)) L = true) (h2 : inB (x3 + (2 : Int32)) L = true) (h3 : inB (x3 + (3 : Int32)) L = true) (h4 : inB (x3 + (4 : Int32)) L = true) (h5 : inB (x3 + (5 : Int32)) L = true) (hI : Inv σ) : ∃ σ1 : Mm, Inv σ1 ∧ fL_608 N k18 L xs x3 σ = k18 (x3 + 6) σ1 := by
  obtain ⟨r, τ1, τ2, e1, e2, hI⟩ := hp (xs (ix (x3 + (1 : Int32)))) (xs (ix (x3 + (2 : Int32)))) σ hI
  refine ⟨τ2, hI, ?_⟩
  simp [fL_608, fL_1326, z_c, z_b, z_l, h1, h2, h3, h4, h5, e1, e2]
theorem lc_walk {Inv : Mm → Prop} {N : Nat} (hp : ∀ (x1 : Int32), ∀ (x2 : Int32), ∀ (σ : Mm), Inv σ → ∃ (r : Int32) (σ1 σ2 : Mm), f10_walk N x1 x2 σ = some (r, σ1) ∧ f11_walk N x1 x2 σ1 = some (r, σ2) ∧ Inv σ2) {L : Nat} {xs : Nat → Int32} {x3 : Int32} {k18 : Int32 → Mm → Option (Int32 × Mm)} {σ : Mm} (h1 : inB (x3 + (1 : Int32)) L = true) (h2 : inB (x3 + (2 : Int32)) L = true) (h3 : inB (x3 + (3 : Int32)) L = true) (h4 : inB (x3 + (4 : Int32)) L = true) (h5 : inB (x3 + (5 : Int32)) L = true) (hI : Inv σ) : ∃ σ1 : Mm, Inv σ1 ∧ fL_641 N k18 L xs x3 σ = k18 (x3 + 6) σ1 := by
  obtain ⟨r, τ1, τ2, e1, e2, hI⟩ := hp (xs (ix (x3 + (1 : Int32)))) (xs (ix (x3 + (2 : Int32)))) σ hI
  refine ⟨τ2, hI, ?_⟩
  simp [fL_641, fL_1326, z_c, z_b, z_l, h1, h2, h3, h4, h5, e1, e2]
theorem lc_asks {Inv : Mm → Prop} {N : Nat} (hp : ∀ (x1 : Int32), ∀ (σ : Mm), Inv σ → ∃ (r : Int32) (σ1 σ2 : Mm), f10_asks N x1 σ = some (r, σ1) ∧ f11_asks N x1 σ1 = some (r, σ2) ∧ Inv σ2) {L : Nat} {xs : Nat → Int32} {x3 : Int32} {k18 : Int32 → Mm → Option (Int32 × Mm)} {σ : Mm} (h1 : inB (x3 + (1 : Int32)) L = true) (h2 : inB (x3 + (2 : Int32)) L = true) (h3 : inB (x3 + (3 : Int32)) L = true) (h4 : inB (x3 + (4 : Int32)) L = true) (h5 : inB (x3 + (5 : Int32)) L = true) (hI : Inv σ) : ∃ σ1 : Mm, Inv σ1 ∧ fL_674 N k18 L xs x3 σ = k18 (x3 + 6) σ1 := by
  obtain ⟨r, τ1, τ2, e1, e2, hI⟩ := hp (xs (ix (x3 + (1 : Int32)))) σ hI
  refine ⟨τ2, hI, ?_⟩
  simp [fL_674, fL_1326, z_c, z_b, z_l, h1, h2, h3, h4, h5, e1, e2]
theorem lc_round {Inv : Mm → Prop} {N : Nat} (hp : ∀ (x1 : Int32), ∀ (x2 : Int32), ∀ (σ : Mm), Inv σ → ∃ (r : Int32) (σ1 σ2 : Mm), f10_round N x1 x2 σ = some (r, σ1) ∧ f11_round N x1 x2 σ1 = some (r, σ2) ∧ Inv σ2) {L : Nat} {xs : Nat → Int32} {x3 : Int32} {k18 : Int32 → Mm → Option (Int32 × Mm)} {σ : Mm} (h1 : inB (x3 + (1 : Int32)) L = true) (h2 : inB (x3 + (2 : Int32)) L = true) (h3 : inB (x3 + (3 : Int32)) L = true) (h4 : inB (x3 + (4 : Int32)) L = true) (h5 : inB (x3 + (5 : Int32)) L = true) (hI : Inv σ) : ∃ σ1 : Mm, Inv σ1 ∧ fL_697 N k18 L xs x3 σ = k18 (x3 + 6) σ1 := by
  obtain ⟨r, τ1, τ2, e1, e2, hI⟩ := hp (xs (ix (x3 + (1 : Int32)))) (xs (ix (x3 + (2 : Int32)))) σ hI
  refine ⟨τ2, hI, ?_⟩
  simp [fL_697, fL_1326, z_c, z_b, z_l, h1, h2, h3, h4, h5, e1, e2]
theorem lc_has {Inv : Mm → Prop} {N : Nat} (hp : ∀ (x1 : Int32), ∀ (x2 : Int32), ∀ (σ : Mm), Inv σ → ∃ (r : Int32) (σ1 σ2 : Mm), f10_has N x1 x2 σ = some (r, σ1) ∧ f11_has N x1 x2 σ1 = some (r, σ2) ∧ Inv σ2) {L : Nat} {xs : Nat → Int32} {x3 : Int32} {k18 : Int32 → Mm → Option (Int32 × Mm)} {σ : Mm} (h1 : inB (x3 + (1 : Int32)) L = true) (h2 : inB (x3 + (2 : Int32)) L = true) (h3 : inB (x3 + (3 : Int32)) L = true) (h4 : inB (x3 + (4 : Int32)) L = true) (h5 : inB (x3 + (5 : Int32)) L = true) (hI : Inv σ) : ∃ σ1 : Mm, Inv σ1 ∧ fL_730 N k18 L xs x3 σ = k18 (x3 + 6) σ1 := by
  obtain ⟨r, τ1, τ2, e1, e2, hI⟩ := hp (xs (ix (x3 + (1 : Int32)))) (xs (ix (x3 + (2 : Int32)))) σ hI
  refine ⟨τ2, hI, ?_⟩
  simp [fL_730, fL_1326, z_c, z_b, z_l, h1, h2, h3, h4, h5, e1, e2]
theorem lc_within {Inv : Mm → Prop} {N : Nat} (hp : ∀ (x1 : Int32), ∀ (x2 : Int32), ∀ (σ : Mm), Inv σ → ∃ (r : Int32) (σ1 σ2 : Mm), f10_within N x1 x2 σ = some (r, σ1) ∧ f11_within N x1 x2 σ1 = some (r, σ2) ∧ Inv σ2) {L : Nat} {xs : Nat → Int32} {x3 : Int32} {k18 : Int32 → Mm → Option (Int32 × Mm)} {σ : Mm} (h1 : inB (x3 + (1 : Int32)) L = true) (h2 : inB (x3 + (2 : Int32)) L = true) (h3 : inB (x3 + (3 : Int32)) L = true) (h4 : inB (x3 + (4 : Int32)) L = true) (h5 : inB (x3 + (5 : Int32)) L = true) (hI : Inv σ) : ∃ σ1 : Mm, Inv σ1 ∧ fL_763 N k18 L xs x3 σ = k18 (x3 + 6) σ1 := by
  obtain ⟨r, τ1, τ2, e1, e2, hI⟩ := hp (xs (ix (x3 + (1 : Int32)))) (xs (ix (x3 + (2 : Int32)))) σ hI
  refine ⟨τ2, hI, ?_⟩
  simp [fL_763, fL_1326, z_c, z_b, z_l, h1, h2, h3, h4, h5, e1, e2]
theorem lc_rich {Inv : Mm → Prop} {N : Nat} (hp : ∀ (x1 : Int32), ∀ (x2 : Int32), ∀ (σ : Mm), Inv σ → ∃ (r : Int32) (σ1 σ2 : Mm), f10_rich N x1 x2 σ = some (r, σ1) ∧ f11_rich N x1 x2 σ1 = some (r, σ2) ∧ Inv σ2) {L : Nat} {xs : Nat → Int32} {x3 : Int32} {k18 : Int32 → Mm → Option (Int32 × Mm)} {σ : Mm} (h1 : inB (x3 + (1 : Int32)) L = true) (h2 : inB (x3 + (2 : Int32)) L = true) (h3 : inB (x3 + (3 : Int32)) L = true) (h4 : inB (x3 + (4 : Int32)) L = true) (h5 : inB (x3 + (5 : Int32)) L = true) (hI : Inv σ) : ∃ σ1 : Mm, Inv σ1 ∧ fL_796 N k18 L xs x3 σ = k18 (x3 + 6) σ1 := by
  obtain ⟨r, τ1, τ2, e1, e2, hI⟩ := hp (xs (ix (x3 + (1 : Int32)))) (xs (ix (x3 + (2 : Int32)))) σ hI
  refine ⟨τ2, hI, ?_⟩
  simp [fL_796, fL_1326, z_c, z_b, z_l, h1, h2, h3, h4, h5, e1, e2]
theorem lc_chain {Inv : Mm → Prop} {N : Nat} (hp : ∀ (x1 : Int32), ∀ (x2 : Int32), ∀ (σ : Mm), Inv σ → ∃ (r : Int32) (σ1 σ2 : Mm), f10_chain N x1 x2 σ = some (r, σ1) ∧ f11_chain N x1 x2 σ1 = some (r, σ2) ∧ Inv σ2) {L : Nat} {xs : Nat → Int32} {x3 : Int32} {k18 : Int32 → Mm → Option (Int32 × Mm)} {σ : Mm} (h1 : inB (x3 + (1 : Int32)) L = true) (h2 : inB (x3 + (2 : Int32)) L = true) (h3 : inB (x3 + (3 : Int32)) L = true) (h4 : inB (x3 + (4 : Int32)) L = true) (h5 : inB (x3 + (5 : Int32)) L = true) (hI : Inv σ) : ∃ σ1 : Mm, Inv σ1 ∧ fL_829 N k18 L xs x3 σ = k18 (x3 + 6) σ1 := by
  obtain ⟨r, τ1, τ2, e1, e2, hI⟩ := hp (xs (ix (x3 + (1 : Int32)))) (xs (ix (x3 + (2 : Int32)))) σ hI
  refine ⟨τ2, hI, ?_⟩
  simp [fL_829, fL_1326, z_c, z_b, z_l, h1, h2, h3, h4, h5, e1, e2]
theorem lc_idle {Inv : Mm → Prop} {N : Nat} (hp : ∀ (x1 : Int32), ∀ (σ : Mm), Inv σ → ∃ (r : Int32) (σ1 σ2 : Mm), f10_idle N x1 σ = some (r, σ1) ∧ f11_idle N x1 σ1 = some (r, σ2) ∧ Inv σ2) {L : Nat} {xs : Nat → Int32} {x3 : Int32} {k18 : Int32 → Mm → Option (Int32 × Mm)} {σ : Mm} (h1 : inB (x3 + (1 : Int32)) L = true) (h2 : inB (x3 + (2 : Int32)) L = true) (h3 : inB (x3 + (3 : Int32)) L = true) (h4 : inB (x3 + (4 : Int32)) L = true) (h5 : inB (x3 + (5 : Int32)) L = true) (hI : Inv σ) : ∃ σ1 : Mm, Inv σ1 ∧ fL_862 N k18 L xs x3 σ = k18 (x3 + 6) σ1 := by
  obtain ⟨r, τ1, τ2, e1, e2, hI⟩ := hp (xs (ix (x3 + (1 : Int32)))) σ hI
  refine ⟨τ2, hI, ?_⟩
  simp [fL_862, fL_1326, z_c, z_b, z_l, h1, h2, h3, h4, h5, e1, e2]
theorem lc_eldest {Inv : Mm → Prop} {N : Nat} (hp : ∀ (x1 : Int32), ∀ (σ : Mm), Inv σ → ∃ (r : Int32) (σ1 σ2 : Mm), f10_eldest N x1 σ = some (r, σ1) ∧ f11_eldest N x1 σ1 = some (r, σ2) ∧ Inv σ2) {L : Nat} {xs : Nat → Int32} {x3 : Int32} {k18 : Int32 → Mm → Option (Int32 × Mm)} {σ : Mm} (h1 : inB (x3 + (1 : Int32)) L = true) (h2 : inB (x3 + (2 : Int32)) L = true) (h3 : inB (x3 + (3 : Int32)) L = true) (h4 : inB (x3 + (4 : Int32)) L = true) (h5 : inB (x3 + (5 : Int32)) L = true) (hI : Inv σ) : ∃ σ1 : Mm, Inv σ1 ∧ fL_885 N k18 L xs x3 σ = k18 (x3 + 6) σ1 := by
  obtain ⟨r, τ1, τ2, e1, e2, hI⟩ := hp (xs (ix (x3 + (1 : Int32)))) σ hI
  refine ⟨τ2, hI, ?_⟩
  simp [fL_885, fL_1326, z_c, z_b, z_l, h1, h2, h3, h4, h5, e1, e2]
theorem lc_lapse {Inv : Mm → Prop} {N : Nat} (hp : ∀ (x1 : Int32), ∀ (σ : Mm), Inv σ → ∃ (r : Int32) (σ1 σ2 : Mm), f10_lapse N x1 σ = some (r, σ1) ∧ f11_lapse N x1 σ1 = some (r, σ2) ∧ Inv σ2) {L : Nat} {xs : Nat → Int32} {x3 : Int32} {k18 : Int32 → Mm → Option (Int32 × Mm)} {σ : Mm} (h1 : inB (x3 + (1 : Int32)) L = true) (h2 : inB (x3 + (2 : Int32)) L = true) (h3 : inB (x3 + (3 : Int32)) L = true) (h4 : inB (x3 + (4 : Int32)) L = true) (h5 : inB (x3 + (5 : Int32)) L = true) (hI : Inv σ) : ∃ σ1 : Mm, Inv σ1 ∧ fL_908 N k18 L xs x3 σ = k18 (x3 + 6) σ1 := by
  obtain ⟨r, τ1, τ2, e1, e2, hI⟩ := hp (xs (ix (x3 + (1 : Int32)))) σ hI
  refine ⟨τ2, hI, ?_⟩
  simp [fL_908, fL_1326, z_c, z_b, z_l, h1, h2, h3, h4, h5, e1, e2]
theorem lc_passes {Inv : Mm → Prop} {N : Nat} (hp : ∀ (x1 : Int32), ∀ (σ : Mm), Inv σ → ∃ (r : Int32) (σ1 σ2 : Mm), f10_passes N x1 σ = some (r, σ1) ∧ f11_passes N x1 σ1 = some (r, σ2) ∧ Inv σ2) {L : Nat} {xs : Nat → Int32} {x3 : Int32} {k18 : Int32 → Mm → Option (Int32 × Mm)} {σ : Mm} (h1 : inB (x3 + (1 : Int32)) L = true) (h2 : inB (x3 + (2 : Int32)) L = true) (h3 : inB (x3 + (3 : Int32)) L = true) (h4 : inB (x3 + (4 : Int32)) L = true) (h5 : inB (x3 + (5 : Int32)) L = true) (hI : Inv σ) : ∃ σ1 : Mm, Inv σ1 ∧ fL_931 N k18 L xs x3 σ = k18 (x3 + 6) σ1 := by
  obtain ⟨r, τ1, τ2, e1, e2, hI⟩ := hp (xs (ix (x3 + (1 : Int32)))) σ hI
  refine ⟨τ2, hI, ?_⟩
  simp [fL_931, fL_1326, z_c, z_b, z_l, h1, h2, h3, h4, h5, e1, e2]
theorem lc_weakest {Inv : Mm → Prop} {N : Nat} (hp : ∀ (x1 : Int32), ∀ (σ : Mm), Inv σ → ∃ (r : Int32) (σ1 σ2 : Mm), f10_weakest N x1 σ = some (r, σ1) ∧ f11_weakest N x1 σ1 = some (r, σ2) ∧ Inv σ2) {L : Nat} {xs : Nat → Int32} {x3 : Int32} {k18 : Int32 → Mm → Option (Int32 × Mm)} {σ : Mm} (h1 : inB (x3 + (1 : Int32)) L = true) (h2 : inB (x3 + (2 : Int32)) L = true) (h3 : inB (x3 + (3 : Int32)) L = true) (h4 : inB (x3 + (4 : Int32)) L = true) (h5 : inB (x3 + (5 : Int32)) L = true) (hI : Inv σ) : ∃ σ1 : Mm, Inv σ1 ∧ fL_954 N k18 L xs x3 σ = k18 (x3 + 6) σ1 := by
  obtain ⟨r, τ1, τ2, e1, e2, hI⟩ := hp (xs (ix (x3 + (1 : Int32)))) σ hI
  refine ⟨τ2, hI, ?_⟩
  simp [fL_954, fL_1326, z_c, z_b, z_l, h1, h2, h3, h4, h5, e1, e2]
theorem lc_ownerIn {Inv : Mm → Prop} {N : Nat} (hp : ∀ (x1 : Int32), ∀ (x2 : Int32), ∀ (σ : Mm), Inv σ → ∃ (r : Int32) (σ1 σ2 : Mm), f10_ownerIn N x1 x2 σ = some (r, σ1) ∧ f11_ownerIn N x1 x2 σ1 = some (r, σ2) ∧ Inv σ2) {L : Nat} {xs : Nat → Int32} {x3 : Int32} {k18 : Int32 → Mm → Option (Int32 × Mm)} {σ : Mm} (h1 : inB (x3 + (1 : Int32)) L = true) (h2 : inB (x3 + (2 : Int32)) L = true) (h3 : inB (x3 + (3 : Int32)) L = true) (h4 : inB (x3 + (4 : Int32)) L = true) (h5 : inB (x3 + (5 : Int32)) L = true) (hI : Inv σ) : ∃ σ1 : Mm, Inv σ1 ∧ fL_977 N k18 L xs x3 σ = k18 (x3 + 6) σ1 := by
  obtain ⟨r, τ1, τ2, e1, e2, hI⟩ := hp (xs (ix (x3 + (1 : Int32)))) (xs (ix (x3 + (2 : Int32)))) σ hI
  refine ⟨τ2, hI, ?_⟩
  simp [fL_977, fL_1326, z_c, z_b, z_l, h1, h2, h3, h4, h5, e1, e2]
theorem lc_then {Inv : Mm → Prop} {N : Nat} (hp : ∀ (x1 : Int32), ∀ (x2 : Int32), ∀ (x3 : Int32), ∀ (σ : Mm), Inv σ → ∃ (r : Int32) (σ1 σ2 : Mm), f10_then N x1 x2 x3 σ = some (r, σ1) ∧ f11_then N x1 x2 x3 σ1 = some (r, σ2) ∧ Inv σ2) {L : Nat} {xs : Nat → Int32} {x3 : Int32} {k18 : Int32 → Mm → Option (Int32 × Mm)} {σ : Mm} (h1 : inB (x3 + (1 : Int32)) L = true) (h2 : inB (x3 + (2 : Int32)) L = true) (h3 : inB (x3 + (3 : Int32)) L = true) (h4 : inB (x3 + (4 : Int32)) L = true) (h5 : inB (x3 + (5 : Int32)) L = true) (hI : Inv σ) : ∃ σ1 : Mm, Inv σ1 ∧ fL_1010 N k18 L xs x3 σ = k18 (x3 + 6) σ1 := by
  obtain ⟨r, τ1, τ2, e1, e2, hI⟩ := hp (xs (ix (x3 + (1 : Int32)))) (xs (ix (x3 + (2 : Int32)))) (xs (ix (x3 + (3 : Int32)))) σ hI
  refine ⟨τ2, hI, ?_⟩
  simp [fL_1010, fL_1326, z_c, z_b, z_l, h1, h2, h3, h4, h5, e1, e2]
theorem lc_swearIn {Inv : Mm → Prop} {N : Nat} (hp : ∀ (x1 : Int32), ∀ (x2 : Int32), ∀ (σ : Mm), Inv σ → ∃ (r : Int32) (σ1 σ2 : Mm), f10_swearIn N x1 x2 σ = some (r, σ1) ∧ f11_swearIn N x1 x2 σ1 = some (r, σ2) ∧ Inv σ2) {L : Nat} {xs : Nat → Int32} {x3 : Int32} {k18 : Int32 → Mm → Option (Int32 × Mm)} {σ : Mm} (h1 : inB (x3 + (1 : Int32)) L = true) (h2 : inB (x3 + (2 : Int32)) L = true) (h3 : inB (x3 + (3 : Int32)) L = true) (h4 : inB (x3 + (4 : Int32)) L = true) (h5 : inB (x3 + (5 : Int32)) L = true) (hI : Inv σ) : ∃ σ1 : Mm, Inv σ1 ∧ fL_1053 N k18 L xs x3 σ = k18 (x3 + 6) σ1 := by
  obtain ⟨r, τ1, τ2, e1, e2, hI⟩ := hp (xs (ix (x3 + (1 : Int32)))) (xs (ix (x3 + (2 : Int32)))) σ hI
  refine ⟨τ2, hI, ?_⟩
  simp [fL_1053, fL_1326, z_c, z_b, z_l, h1, h2, h3, h4, h5, e1, e2]
theorem lc_year {Inv : Mm → Prop} {N : Nat} (hp : ∀ (x1 : Int32), ∀ (x2 : Int32), ∀ (x3 : Int32), ∀ (x4 : Int32), ∀ (σ : Mm), Inv σ → ∃ (r : Int32) (σ1 σ2 : Mm), f10_year N x1 x2 x3 x4 σ = some (r, σ1) ∧ f11_year N x1 x2 x3 x4 σ1 = some (r, σ2) ∧ Inv σ2) {L : Nat} {xs : Nat → Int32} {x3 : Int32} {k18 : Int32 → Mm → Option (Int32 × Mm)} {σ : Mm} (h1 : inB (x3 + (1 : Int32)) L = true) (h2 : inB (x3 + (2 : Int32)) L = true) (h3 : inB (x3 + (3 : Int32)) L = true) (h4 : inB (x3 + (4 : Int32)) L = true) (h5 : inB (x3 + (5 : Int32)) L = true) (hI : Inv σ) : ∃ σ1 : Mm, Inv σ1 ∧ fL_1086 N k18 L xs x3 σ = k18 (x3 + 6) σ1 := by
  obtain ⟨r, τ1, τ2, e1, e2, hI⟩ := hp (xs (ix (x3 + (1 : Int32)))) (xs (ix (x3 + (2 : Int32)))) (xs (ix (x3 + (3 : Int32)))) (xs (ix (x3 + (4 : Int32)))) σ hI
  refine ⟨τ2, hI, ?_⟩
  simp [fL_1086, fL_1326, z_c, z_b, z_l, h1, h2, h3, h4, h5, e1, e2]
theorem lc_tell {Inv : Mm → Prop} {N : Nat} (hp : ∀ (x1 : Int32), ∀ (x2 : Int32), ∀ (σ : Mm), Inv σ → (x2 = 0 ∨ x2 = 1) → ∃ (r : Int32) (σ1 σ2 : Mm), f10_tell N x1 x2 σ = some (r, σ1) ∧ f11_tell N x1 x2 σ1 = some (r, σ2) ∧ Inv σ2) {L : Nat} {xs : Nat → Int32} {x3 : Int32} {k18 : Int32 → Mm → Option (Int32 × Mm)} {σ : Mm} (h1 : inB (x3 + (1 : Int32)) L = true) (h2 : inB (x3 + (2 : Int32)) L = true) (h3 : inB (x3 + (3 : Int32)) L = true) (h4 : inB (x3 + (4 : Int32)) L = true) (h5 : inB (x3 + (5 : Int32)) L = true) (hI : Inv σ) : ∃ σ1 : Mm, Inv σ1 ∧ fL_1139 N k18 L xs x3 σ = k18 (x3 + 6) σ1 := by
  by_cases c0 : (xs (ix (x3 + (2 : Int32)))) = 0
  · obtain ⟨r, τ1, τ2, e1, e2, hI⟩ := hp (xs (ix (x3 + (1 : Int32)))) 0 σ hI (Or.inl rfl)
    refine ⟨τ2, hI, ?_⟩
    simp [fL_1139, fL_1158, fL_1180, fL_1326, z_c, z_b, z_l, h1, h2, h3, h4, h5, c0, e1, e2]
  · obtain ⟨r, τ1, τ2, e1, e2, hI⟩ := hp (xs (ix (x3 + (1 : Int32)))) 1 σ hI (Or.inr rfl)
    refine ⟨τ2, hI, ?_⟩
    simp [fL_1139, fL_1158, fL_1180, fL_1326, z_c, z_b, z_l, h1, h2, h3, h4, h5, c0, e1, e2]
theorem lc_forget {Inv : Mm → Prop} {N : Nat} (hp : ∀ (σ : Mm), Inv σ → ∃ (r : Int32) (σ1 σ2 : Mm), f10_forget N  σ = some (r, σ1) ∧ f11_forget N  σ1 = some (r, σ2) ∧ Inv σ2) {L : Nat} {xs : Nat → Int32} {x3 : Int32} {k18 : Int32 → Mm → Option (Int32 × Mm)} {σ : Mm} (h1 : inB (x3 + (1 : Int32)) L = true) (h2 : inB (x3 + (2 : Int32)) L = true) (h3 : inB (x3 + (3 : Int32)) L = true) (h4 : inB (x3 + (4 : Int32)) L = true) (h5 : inB (x3 + (5 : Int32)) L = true) (hI : Inv σ) : ∃ σ1 : Mm, Inv σ1 ∧ fL_1188 N k18 L xs x3 σ = k18 (x3 + 6) σ1 := by
  obtain ⟨r, τ1, τ2, e1, e2, hI⟩ := hp  σ hI
  refine ⟨τ2, hI, ?_⟩
  simp [fL_1188, fL_1326, z_c, z_b, z_l, h1, h2, h3, h4, h5, e1, e2]
theorem lc_which {Inv : Mm → Prop} {N : Nat} (hp : ∀ (x1 : Int32), ∀ (x2 : Int32), ∀ (σ : Mm), Inv σ → ∃ (r : Int32) (σ1 σ2 : Mm), f10_which N x1 x2 σ = some (r, σ1) ∧ f11_which N x1 x2 σ1 = some (r, σ2) ∧ Inv σ2) {L : Nat} {xs : Nat → Int32} {x3 : Int32} {k18 : Int32 → Mm → Option (Int32 × Mm)} {σ : Mm} (h1 : inB (x3 + (1 : Int32)) L = true) (h2 : inB (x3 + (2 : Int32)) L = true) (h3 : inB (x3 + (3 : Int32)) L = true) (h4 : inB (x3 + (4 : Int32)) L = true) (h5 : inB (x3 + (5 : Int32)) L = true) (hI : Inv σ) : ∃ σ1 : Mm, Inv σ1 ∧ fL_1201 N k18 L xs x3 σ = k18 (x3 + 6) σ1 := by
  obtain ⟨r, τ1, τ2, e1, e2, hI⟩ := hp (xs (ix (x3 + (1 : Int32)))) (xs (ix (x3 + (2 : Int32)))) σ hI
  refine ⟨τ2, hI, ?_⟩
  simp [fL_1201, fL_1326, z_c, z_b, z_l, h1, h2, h3, h4, h5, e1, e2]
theorem lc_ask {Inv : Mm → Prop} {N : Nat} (hp : ∀ (x1 : Int32), ∀ (σ : Mm), Inv σ → ∃ (r : Int32) (σ1 σ2 : Mm), f10_ask N x1 σ = some (r, σ1) ∧ f11_ask N x1 σ1 = some (r, σ2) ∧ Inv σ2) {L : Nat} {xs : Nat → Int32} {x3 : Int32} {k18 : Int32 → Mm → Option (Int32 × Mm)} {σ : Mm} (h1 : inB (x3 + (1 : Int32)) L = true) (h2 : inB (x3 + (2 : Int32)) L = true) (h3 : inB (x3 + (3 : Int32)) L = true) (h4 : inB (x3 + (4 : Int32)) L = true) (h5 : inB (x3 + (5 : Int32)) L = true) (hI : Inv σ) : ∃ σ1 : Mm, Inv σ1 ∧ fL_1234 N k18 L xs x3 σ = k18 (x3 + 6) σ1 := by
  obtain ⟨r, τ1, τ2, e1, e2, hI⟩ := hp (xs (ix (x3 + (1 : Int32)))) σ hI
  refine ⟨τ2, hI, ?_⟩
  simp [fL_1234, fL_1326, z_c, z_b, z_l, h1, h2, h3, h4, h5, e1, e2]
theorem lc_hold {Inv : Mm → Prop} {N : Nat} (hp : ∀ (x1 : Int32), ∀ (σ : Mm), Inv σ → ∃ (r : Int32) (σ1 σ2 : Mm), f10_hold N x1 σ = some (r, σ1) ∧ f11_hold N x1 σ1 = some (r, σ2) ∧ Inv σ2) {L : Nat} {xs : Nat → Int32} {x3 : Int32} {k18 : Int32 → Mm → Option (Int32 × Mm)} {σ : Mm} (h1 : inB (x3 + (1 : Int32)) L = true) (h2 : inB (x3 + (2 : Int32)) L = true) (h3 : inB (x3 + (3 : Int32)) L = true) (h4 : inB (x3 + (4 : Int32)) L = true) (h5 : inB (x3 + (5 : Int32)) L = true) (hI : Inv σ) : ∃ σ1 : Mm, Inv σ1 ∧ fL_1257 N k18 L xs x3 σ = k18 (x3 + 6) σ1 := by
  obtain ⟨r, τ1, τ2, e1, e2, hI⟩ := hp (xs (ix (x3 + (1 : Int32)))) σ hI
  refine ⟨τ2, hI, ?_⟩
  simp [fL_1257, fL_1326, z_c, z_b, z_l, h1, h2, h3, h4, h5, e1, e2]
theorem lc_restore {Inv : Mm → Prop} {N : Nat} (hp : ∀ (x1 : Int32), ∀ (σ : Mm), Inv σ → ∃ (r : Int32) (σ1 σ2 : Mm), f10_restore N x1 σ = some (r, σ1) ∧ f11_restore N x1 σ1 = some (r, σ2) ∧ Inv σ2) {L : Nat} {xs : Nat → Int32} {x3 : Int32} {k18 : Int32 → Mm → Option (Int32 × Mm)} {σ : Mm} (h1 : inB (x3 + (1 : Int32)) L = true) (h2 : inB (x3 + (2 : Int32)) L = true) (h3 : inB (x3 + (3 : Int32)) L = true) (h4 : inB (x3 + (4 : Int32)) L = true) (h5 : inB (x3 + (5 : Int32)) L = true) (hI : Inv σ) : ∃ σ1 : Mm, Inv σ1 ∧ fL_1280 N k18 L xs x3 σ = k18 (x3 + 6) σ1 := by
  obtain ⟨r, τ1, τ2, e1, e2, hI⟩ := hp (xs (ix (x3 + (1 : Int32)))) σ hI
  refine ⟨τ2, hI, ?_⟩
  simp [fL_1280, fL_1326, z_c, z_b, z_l, h1, h2, h3, h4, h5, e1, e2]
theorem lc_count {Inv : Mm → Prop} {N : Nat} (hp : ∀ (x1 : Int32), ∀ (σ : Mm), Inv σ → ∃ (r : Int32) (σ1 σ2 : Mm), f10_count N x1 σ = some (r, σ1) ∧ f11_count N x1 σ1 = some (r, σ2) ∧ Inv σ2) {L : Nat} {xs : Nat → Int32} {x3 : Int32} {k18 : Int32 → Mm → Option (Int32 × Mm)} {σ : Mm} (h1 : inB (x3 + (1 : Int32)) L = true) (h2 : inB (x3 + (2 : Int32)) L = true) (h3 : inB (x3 + (3 : Int32)) L = true) (h4 : inB (x3 + (4 : Int32)) L = true) (h5 : inB (x3 + (5 : Int32)) L = true) (hI : Inv σ) : ∃ σ1 : Mm, Inv σ1 ∧ fL_1303 N k18 L xs x3 σ = k18 (x3 + 6) σ1 := by
  obtain ⟨r, τ1, τ2, e1, e2, hI⟩ := hp (xs (ix (x3 + (1 : Int32)))) σ hI
  refine ⟨τ2, hI, ?_⟩
  simp [fL_1303, fL_1326, z_c, z_b, z_l, h1, h2, h3, h4, h5, e1, e2]
set_option maxHeartbeats 4000000 in
theorem law_main {Inv : Mm → Prop} {N : Nat}
    (hp_feed : ∀ (x1 : Int32), ∀ (x2 : Int32), ∀ (x3 : Int32), ∀ (x4 : Int32), ∀ (x5 : Int32), ∀ (σ : Mm), Inv σ → ∃ (r : Int32) (σ1 σ2 : Mm), f10_feed N x1 x2 x3 x4 x5 σ = some (r, σ1) ∧ f11_feed N x1 x2 x3 x4 x5 σ1 = some (r, σ2) ∧ Inv σ2)
    (hp_back : ∀ (x1 : Int32), ∀ (σ : Mm), Inv σ → ∃ (r : Int32) (σ1 σ2 : Mm), f10_back N x1 σ = some (r, σ1) ∧ f11_back N x1 σ1 = some (r, σ2) ∧ Inv σ2)
    (hp_read : ∀ (σ : Mm), Inv σ → ∃ (r : Int32) (σ1 σ2 : Mm), f10_read N  σ = some (r, σ1) ∧ f11_read N  σ1 = some (r, σ2) ∧ Inv σ2)
    (hp_place : ∀ (σ : Mm), Inv σ → ∃ (r : Int32) (σ1 σ2 : Mm), f10_place N  σ = some (r, σ1) ∧ f11_place N  σ1 = some (r, σ2) ∧ Inv σ2)
    (hp_plot : ∀ (x1 : Int32), ∀ (x2 : Int32), ∀ (σ : Mm), Inv σ → ∃ (r : Int32) (σ1 σ2 : Mm), f10_plot N x1 x2 σ = some (r, σ1) ∧ f11_plot N x1 x2 σ1 = some (r, σ2) ∧ Inv σ2)
    (hp_witness : ∀ (x1 : Int32), ∀ (x2 : Int32), ∀ (σ : Mm), Inv σ → ∃ (r : Int32) (σ1 σ2 : Mm), f10_witness N x1 x2 σ = some (r, σ1) ∧ f11_witness N x1 x2 σ1 = some (r, σ2) ∧ Inv σ2)
    (hp_giving : ∀ (x1 : Int32), ∀ (x2 : Int32), ∀ (σ : Mm), Inv σ → ∃ (r : Int32) (σ1 σ2 : Mm), f10_giving N x1 x2 σ = some (r, σ1) ∧ f11_giving N x1 x2 σ1 = some (r, σ2) ∧ Inv σ2)
    (hp_give : ∀ (x1 : Int32), ∀ (x2 : Int32), ∀ (x3 : Int32), ∀ (x4 : Int32), ∀ (σ : Mm), Inv σ → ∃ (r : Int32) (σ1 σ2 : Mm), f10_give N x1 x2 x3 x4 σ = some (r, σ1) ∧ f11_give N x1 x2 x3 x4 σ1 = some (r, σ2) ∧ Inv σ2)
    (hp_unsay : ∀ (x1 : Int32), ∀ (x2 : Int32), ∀ (σ : Mm), Inv σ → (x2 = 0 ∨ x2 = 1) → ∃ (r : Int32) (σ1 σ2 : Mm), f10_unsay N x1 x2 σ = some (r, σ1) ∧ f11_unsay N x1 x2 σ1 = some (r, σ2) ∧ Inv σ2)
    (hp_years : ∀ (x1 : Int32), ∀ (σ : Mm), Inv σ → ∃ (r : Int32) (σ1 σ2 : Mm), f10_years N x1 σ = some (r, σ1) ∧ f11_years N x1 σ1 = some (r, σ2) ∧ Inv σ2)
    (hp_undo : ∀ (σ : Mm), Inv σ → ∃ (r : Int32) (σ1 σ2 : Mm), f10_undo N  σ = some (r, σ1) ∧ f11_undo N  σ1 = some (r, σ2) ∧ Inv σ2)
    (hp_lasts : ∀ (x1 : Int32), ∀ (σ : Mm), Inv σ → ∃ (r : Int32) (σ1 σ2 : Mm), f10_lasts N x1 σ = some (r, σ1) ∧ f11_lasts N x1 σ1 = some (r, σ2) ∧ Inv σ2)
    (hp_book : ∀ (σ : Mm), Inv σ → ∃ (r : Int32) (σ1 σ2 : Mm), f10_book N  σ = some (r, σ1) ∧ f11_book N  σ1 = some (r, σ2) ∧ Inv σ2)
    (hp_hangs : ∀ (x1 : Int32), ∀ (σ : Mm), Inv σ → ∃ (r : Int32) (σ1 σ2 : Mm), f10_hangs N x1 σ = some (r, σ1) ∧ f11_hangs N x1 σ1 = some (r, σ2) ∧ Inv σ2)
    (hp_cover : ∀ (x1 : Int32), ∀ (x2 : Int32), ∀ (σ : Mm), Inv σ → ∃ (r : Int32) (σ1 σ2 : Mm), f10_cover N x1 x2 σ = some (r, σ1) ∧ f11_cover N x1 x2 σ1 = some (r, σ2) ∧ Inv σ2)
    (hp_walk : ∀ (x1 : Int32), ∀ (x2 : Int32), ∀ (σ : Mm), Inv σ → ∃ (r : Int32) (σ1 σ2 : Mm), f10_walk N x1 x2 σ = some (r, σ1) ∧ f11_walk N x1 x2 σ1 = some (r, σ2) ∧ Inv σ2)
    (hp_asks : ∀ (x1 : Int32), ∀ (σ : Mm), Inv σ → ∃ (r : Int32) (σ1 σ2 : Mm), f10_asks N x1 σ = some (r, σ1) ∧ f11_asks N x1 σ1 = some (r, σ2) ∧ Inv σ2)
    (hp_round : ∀ (x1 : Int32), ∀ (x2 : Int32), ∀ (σ : Mm), Inv σ → ∃ (r : Int32) (σ1 σ2 : Mm), f10_round N x1 x2 σ = some (r, σ1) ∧ f11_round N x1 x2 σ1 = some (r, σ2) ∧ Inv σ2)
    (hp_has : ∀ (x1 : Int32), ∀ (x2 : Int32), ∀ (σ : Mm), Inv σ → ∃ (r : Int32) (σ1 σ2 : Mm), f10_has N x1 x2 σ = some (r, σ1) ∧ f11_has N x1 x2 σ1 = some (r, σ2) ∧ Inv σ2)
    (hp_within : ∀ (x1 : Int32), ∀ (x2 : Int32), ∀ (σ : Mm), Inv σ → ∃ (r : Int32) (σ1 σ2 : Mm), f10_within N x1 x2 σ = some (r, σ1) ∧ f11_within N x1 x2 σ1 = some (r, σ2) ∧ Inv σ2)
    (hp_rich : ∀ (x1 : Int32), ∀ (x2 : Int32), ∀ (σ : Mm), Inv σ → ∃ (r : Int32) (σ1 σ2 : Mm), f10_rich N x1 x2 σ = some (r, σ1) ∧ f11_rich N x1 x2 σ1 = some (r, σ2) ∧ Inv σ2)
    (hp_chain : ∀ (x1 : Int32), ∀ (x2 : Int32), ∀ (σ : Mm), Inv σ → ∃ (r : Int32) (σ1 σ2 : Mm), f10_chain N x1 x2 σ = some (r, σ1) ∧ f11_chain N x1 x2 σ1 = some (r, σ2) ∧ Inv σ2)
    (hp_idle : ∀ (x1 : Int32), ∀ (σ : Mm), Inv σ → ∃ (r : Int32) (σ1 σ2 : Mm), f10_idle N x1 σ = some (r, σ1) ∧ f11_idle N x1 σ1 = some (r, σ2) ∧ Inv σ2)
    (hp_eldest : ∀ (x1 : Int32), ∀ (σ : Mm), Inv σ → ∃ (r : Int32) (σ1 σ2 : Mm), f10_eldest N x1 σ = some (r, σ1) ∧ f11_eldest N x1 σ1 = some (r, σ2) ∧ Inv σ2)
    (hp_lapse : ∀ (x1 : Int32), ∀ (σ : Mm), Inv σ → ∃ (r : Int32) (σ1 σ2 : Mm), f10_lapse N x1 σ = some (r, σ1) ∧ f11_lapse N x1 σ1 = some (r, σ2) ∧ Inv σ2)
    (hp_passes : ∀ (x1 : Int32), ∀ (σ : Mm), Inv σ → ∃ (r : Int32) (σ1 σ2 : Mm), f10_passes N x1 σ = some (r, σ1) ∧ f11_passes N x1 σ1 = some (r, σ2) ∧ Inv σ2)
    (hp_weakest : ∀ (x1 : Int32), ∀ (σ : Mm), Inv σ → ∃ (r : Int32) (σ1 σ2 : Mm), f10_weakest N x1 σ = some (r, σ1) ∧ f11_weakest N x1 σ1 = some (r, σ2) ∧ Inv σ2)
    (hp_ownerIn : ∀ (x1 : Int32), ∀ (x2 : Int32), ∀ (σ : Mm), Inv σ → ∃ (r : Int32) (σ1 σ2 : Mm), f10_ownerIn N x1 x2 σ = some (r, σ1) ∧ f11_ownerIn N x1 x2 σ1 = some (r, σ2) ∧ Inv σ2)
    (hp_then : ∀ (x1 : Int32), ∀ (x2 : Int32), ∀ (x3 : Int32), ∀ (σ : Mm), Inv σ → ∃ (r : Int32) (σ1 σ2 : Mm), f10_then N x1 x2 x3 σ = some (r, σ1) ∧ f11_then N x1 x2 x3 σ1 = some (r, σ2) ∧ Inv σ2)
    (hp_swearIn : ∀ (x1 : Int32), ∀ (x2 : Int32), ∀ (σ : Mm), Inv σ → ∃ (r : Int32) (σ1 σ2 : Mm), f10_swearIn N x1 x2 σ = some (r, σ1) ∧ f11_swearIn N x1 x2 σ1 = some (r, σ2) ∧ Inv σ2)
    (hp_year : ∀ (x1 : Int32), ∀ (x2 : Int32), ∀ (x3 : Int32), ∀ (x4 : Int32), ∀ (σ : Mm), Inv σ → ∃ (r : Int32) (σ1 σ2 : Mm), f10_year N x1 x2 x3 x4 σ = some (r, σ1) ∧ f11_year N x1 x2 x3 x4 σ1 = some (r, σ2) ∧ Inv σ2)
    (hp_tell : ∀ (x1 : Int32), ∀ (x2 : Int32), ∀ (σ : Mm), Inv σ → (x2 = 0 ∨ x2 = 1) → ∃ (r : Int32) (σ1 σ2 : Mm), f10_tell N x1 x2 σ = some (r, σ1) ∧ f11_tell N x1 x2 σ1 = some (r, σ2) ∧ Inv σ2)
    (hp_forget : ∀ (σ : Mm), Inv σ → ∃ (r : Int32) (σ1 σ2 : Mm), f10_forget N  σ = some (r, σ1) ∧ f11_forget N  σ1 = some (r, σ2) ∧ Inv σ2)
    (hp_which : ∀ (x1 : Int32), ∀ (x2 : Int32), ∀ (σ : Mm), Inv σ → ∃ (r : Int32) (σ1 σ2 : Mm), f10_which N x1 x2 σ = some (r, σ1) ∧ f11_which N x1 x2 σ1 = some (r, σ2) ∧ Inv σ2)
    (hp_ask : ∀ (x1 : Int32), ∀ (σ : Mm), Inv σ → ∃ (r : Int32) (σ1 σ2 : Mm), f10_ask N x1 σ = some (r, σ1) ∧ f11_ask N x1 σ1 = some (r, σ2) ∧ Inv σ2)
    (hp_hold : ∀ (x1 : Int32), ∀ (σ : Mm), Inv σ → ∃ (r : Int32) (σ1 σ2 : Mm), f10_hold N x1 σ = some (r, σ1) ∧ f11_hold N x1 σ1 = some (r, σ2) ∧ Inv σ2)
    (hp_restore : ∀ (x1 : Int32), ∀ (σ : Mm), Inv σ → ∃ (r : Int32) (σ1 σ2 : Mm), f10_restore N x1 σ = some (r, σ1) ∧ f11_restore N x1 σ1 = some (r, σ2) ∧ Inv σ2)
    (hp_count : ∀ (x1 : Int32), ∀ (σ : Mm), Inv σ → ∃ (r : Int32) (σ1 σ2 : Mm), f10_count N x1 σ = some (r, σ1) ∧ f11_count N x1 σ1 = some (r, σ2) ∧ Inv σ2)
    {L : Nat} {xs : Nat → Int32} (hL : L ≤ 3072) : ∀ (fu i : Nat) (σ : Mm), Inv σ → L + 6 < 6 * fu + i → i ≤ L + 6 → ∃ σ0 : Mm, fL_18 N L xs fu (nI i) σ = some (1, σ0) := by
  intro fu
  induction fu with
  | zero =>
    intro i σ hI h1 h2
    exact absurd h1 (by omega)
  | succ fu ih =>
    intro i σ hI h1 h2
    rw [fL_18]
    have e6 : (Int32.ofNat L - (6 : Int32)).toInt = (L : Int) - 6 := pk_sub_toInt (a := L) (b := 6) (by omega) (by decide)
    have ei : (nI i).toInt = (i : Int) := nI_toInt (by omega)
    by_cases hc : (Int32.ofNat L - (6 : Int32)) < nI i
    · exact ⟨σ, by rw [if_pos hc]⟩
    rw [if_neg hc]
    have hi : i + 6 ≤ L := by
      rw [Int32.lt_iff_toInt_lt, e6, ei] at hc
      omega
    rw [zc_t (in_i0 (by omega) (by omega))]
    have g1 : inB (nI i + (1 : Int32)) L = true := in_ix (j := 1) (by omega) (by omega)
    have g2 : inB (nI i + (2 : Int32)) L = true := in_ix (j := 2) (by omega) (by omega)
    have g3 : inB (nI i + (3 : Int32)) L = true := in_ix (j := 3) (by omega) (by omega)
    have g4 : inB (nI i + (4 : Int32)) L = true := in_ix (j := 4) (by omega) (by omega)
    have g5 : inB (nI i + (5 : Int32)) L = true := in_ix (j := 5) (by omega) (by omega)
    have en : nI i + 6 = nI (i + 6) := nI_add i 6
    have go : ∀ σ1 : Mm, Inv σ1 → ∃ σ0 : Mm, fL_18 N L xs fu (nI i + 6) σ1 = some (1, σ0) := fun σ1 h => by rw [en]; exact ih (i + 6) σ1 h (by omega) (by omega)
    by_cases c0 : (xs (ix (nI i)) &&& (63 : Int32)) = (0 : Int32)
    · rw [if_pos c0]
      obtain ⟨σ1, h, e⟩ := lc_feed (k18 := fun x3 σ => fL_18 N L xs fu x3 σ) hp_feed g1 g2 g3 g4 g5 hI
      rw [e]
      exact go σ1 h
    rw [if_neg c0]
    by_cases c1 : (xs (ix (nI i)) &&& (63 : Int32)) = (1 : Int32)
    · rw [if_pos c1]
      obtain ⟨σ1, h, e⟩ := lc_back (k18 := fun x3 σ => fL_18 N L xs fu x3 σ) hp_back g1 g2 g3 g4 g5 hI
      rw [e]
      exact go σ1 h
    rw [if_neg c1]
    by_cases c2 : (xs (ix (nI i)) &&& (63 : Int32)) = (2 : Int32)
    · rw [if_pos c2]
      obtain ⟨σ1, h, e⟩ := lc_read (k18 := fun x3 σ => fL_18 N L xs fu x3 σ) hp_read g1 g2 g3 g4 g5 hI
      rw [e]
      exact go σ1 h
    rw [if_neg c2]
    by_cases c3 : (xs (ix (nI i)) &&& (63 : Int32)) = (3 : Int32)
    · rw [if_pos c3]
      obtain ⟨σ1, h, e⟩ := lc_place (k18 := fun x3 σ => fL_18 N L xs fu x3 σ) hp_place g1 g2 g3 g4 g5 hI
      rw [e]
      exact go σ1 h
    rw [if_neg c3]
    by_cases c4 : (xs (ix (nI i)) &&& (63 : Int32)) = (4 : Int32)
    · rw [if_pos c4]
      obtain ⟨σ1, h, e⟩ := lc_plot (k18 := fun x3 σ => fL_18 N L xs fu x3 σ) hp_plot g1 g2 g3 g4 g5 hI
      rw [e]
      exact go σ1 h
    rw [if_neg c4]
    by_cases c5 : (xs (ix (nI i)) &&& (63 : Int32)) = (5 : Int32)
    · rw [if_pos c5]
      obtain ⟨σ1, h, e⟩ := lc_witness (k18 := fun x3 σ => fL_18 N L xs fu x3 σ) hp_witness g1 g2 g3 g4 g5 hI
      rw [e]
      exact go σ1 h
    rw [if_neg c5]
    by_cases c6 : (xs (ix (nI i)) &&& (63 : Int32)) = (6 : Int32)
    · rw [if_pos c6]
      obtain ⟨σ1, h, e⟩ := lc_giving (k18 := fun x3 σ => fL_18 N L xs fu x3 σ) hp_giving g1 g2 g3 g4 g5 hI
      rw [e]
      exact go σ1 h
    rw [if_neg c6]
    by_cases c7 : (xs (ix (nI i)) &&& (63 : Int32)) = (7 : Int32)
    · rw [if_pos c7]
      obtain ⟨σ1, h, e⟩ := lc_give (k18 := fun x3 σ => fL_18 N L xs fu x3 σ) hp_give g1 g2 g3 g4 g5 hI
      rw [e]
      exact go σ1 h
    rw [if_neg c7]
    by_cases c8 : (xs (ix (nI i)) &&& (63 : Int32)) = (8 : Int32)
    · rw [if_pos c8]
      obtain ⟨σ1, h, e⟩ := lc_unsay (k18 := fun x3 σ => fL_18 N L xs fu x3 σ) hp_unsay g1 g2 g3 g4 g5 hI
      rw [e]
      exact go σ1 h
    rw [if_neg c8]
    by_cases c9 : (xs (ix (nI i)) &&& (63 : Int32)) = (9 : Int32)
    · rw [if_pos c9]
      obtain ⟨σ1, h, e⟩ := lc_years (k18 := fun x3 σ => fL_18 N L xs fu x3 σ) hp_years g1 g2 g3 g4 g5 hI
      rw [e]
      exact go σ1 h
    rw [if_neg c9]
    by_cases c10 : (xs (ix (nI i)) &&& (63 : Int32)) = (10 : Int32)
    · rw [if_pos c10]
      obtain ⟨σ1, h, e⟩ := lc_undo (k18 := fun x3 σ => fL_18 N L xs fu x3 σ) hp_undo g1 g2 g3 g4 g5 hI
      rw [e]
      exact go σ1 h
    rw [if_neg c10]
    by_cases c11 : (xs (ix (nI i)) &&& (63 : Int32)) = (11 : Int32)
    · rw [if_pos c11]
      obtain ⟨σ1, h, e⟩ := lc_lasts (k18 := fun x3 σ => fL_18 N L xs fu x3 σ) hp_lasts g1 g2 g3 g4 g5 hI
      rw [e]
      exact go σ1 h
    rw [if_neg c11]
    by_cases c12 : (xs (ix (nI i)) &&& (63 : Int32)) = (12 : Int32)
    · rw [if_pos c12]
      obtain ⟨σ1, h, e⟩ := lc_book (k18 := fun x3 σ => fL_18 N L xs fu x3 σ) hp_book g1 g2 g3 g4 g5 hI
      rw [e]
      exact go σ1 h
    rw [if_neg c12]
    by_cases c13 : (xs (ix (nI i)) &&& (63 : Int32)) = (13 : Int32)
    · rw [if_pos c13]
      obtain ⟨σ1, h, e⟩ := lc_hangs (k18 := fun x3 σ => fL_18 N L xs fu x3 σ) hp_hangs g1 g2 g3 g4 g5 hI
      rw [e]
      exact go σ1 h
    rw [if_neg c13]
    by_cases c14 : (xs (ix (nI i)) &&& (63 : Int32)) = (14 : Int32)
    · rw [if_pos c14]
      obtain ⟨σ1, h, e⟩ := lc_cover (k18 := fun x3 σ => fL_18 N L xs fu x3 σ) hp_cover g1 g2 g3 g4 g5 hI
      rw [e]
      exact go σ1 h
    rw [if_neg c14]
    by_cases c15 : (xs (ix (nI i)) &&& (63 : Int32)) = (15 : Int32)
    · rw [if_pos c15]
      obtain ⟨σ1, h, e⟩ := lc_walk (k18 := fun x3 σ => fL_18 N L xs fu x3 σ) hp_walk g1 g2 g3 g4 g5 hI
      rw [e]
      exact go σ1 h
    rw [if_neg c15]
    by_cases c16 : (xs (ix (nI i)) &&& (63 : Int32)) = (16 : Int32)
    · rw [if_pos c16]
      obtain ⟨σ1, h, e⟩ := lc_asks (k18 := fun x3 σ => fL_18 N L xs fu x3 σ) hp_asks g1 g2 g3 g4 g5 hI
      rw [e]
      exact go σ1 h
    rw [if_neg c16]
    by_cases c17 : (xs (ix (nI i)) &&& (63 : Int32)) = (17 : Int32)
    · rw [if_pos c17]
      obtain ⟨σ1, h, e⟩ := lc_round (k18 := fun x3 σ => fL_18 N L xs fu x3 σ) hp_round g1 g2 g3 g4 g5 hI
      rw [e]
      exact go σ1 h
    rw [if_neg c17]
    by_cases c18 : (xs (ix (nI i)) &&& (63 : Int32)) = (18 : Int32)
    · rw [if_pos c18]
      obtain ⟨σ1, h, e⟩ := lc_has (k18 := fun x3 σ => fL_18 N L xs fu x3 σ) hp_has g1 g2 g3 g4 g5 hI
      rw [e]
      exact go σ1 h
    rw [if_neg c18]
    by_cases c19 : (xs (ix (nI i)) &&& (63 : Int32)) = (19 : Int32)
    · rw [if_pos c19]
      obtain ⟨σ1, h, e⟩ := lc_within (k18 := fun x3 σ => fL_18 N L xs fu x3 σ) hp_within g1 g2 g3 g4 g5 hI
      rw [e]
      exact go σ1 h
    rw [if_neg c19]
    by_cases c20 : (xs (ix (nI i)) &&& (63 : Int32)) = (20 : Int32)
    · rw [if_pos c20]
      obtain ⟨σ1, h, e⟩ := lc_rich (k18 := fun x3 σ => fL_18 N L xs fu x3 σ) hp_rich g1 g2 g3 g4 g5 hI
      rw [e]
      exact go σ1 h
    rw [if_neg c20]
    by_cases c21 : (xs (ix (nI i)) &&& (63 : Int32)) = (21 : Int32)
    · rw [if_pos c21]
      obtain ⟨σ1, h, e⟩ := lc_chain (k18 := fun x3 σ => fL_18 N L xs fu x3 σ) hp_chain g1 g2 g3 g4 g5 hI
      rw [e]
      exact go σ1 h
    rw [if_neg c21]
    by_cases c22 : (xs (ix (nI i)) &&& (63 : Int32)) = (22 : Int32)
    · rw [if_pos c22]
      obtain ⟨σ1, h, e⟩ := lc_idle (k18 := fun x3 σ => fL_18 N L xs fu x3 σ) hp_idle g1 g2 g3 g4 g5 hI
      rw [e]
      exact go σ1 h
    rw [if_neg c22]
    by_cases c23 : (xs (ix (nI i)) &&& (63 : Int32)) = (23 : Int32)
    · rw [if_pos c23]
      obtain ⟨σ1, h, e⟩ := lc_eldest (k18 := fun x3 σ => fL_18 N L xs fu x3 σ) hp_eldest g1 g2 g3 g4 g5 hI
      rw [e]
      exact go σ1 h
    rw [if_neg c23]
    by_cases c24 : (xs (ix (nI i)) &&& (63 : Int32)) = (24 : Int32)
    · rw [if_pos c24]
      obtain ⟨σ1, h, e⟩ := lc_lapse (k18 := fun x3 σ => fL_18 N L xs fu x3 σ) hp_lapse g1 g2 g3 g4 g5 hI
      rw [e]
      exact go σ1 h
    rw [if_neg c24]
    by_cases c25 : (xs (ix (nI i)) &&& (63 : Int32)) = (25 : Int32)
    · rw [if_pos c25]
      obtain ⟨σ1, h, e⟩ := lc_passes (k18 := fun x3 σ => fL_18 N L xs fu x3 σ) hp_passes g1 g2 g3 g4 g5 hI
      rw [e]
      exact go σ1 h
    rw [if_neg c25]
    by_cases c26 : (xs (ix (nI i)) &&& (63 : Int32)) = (26 : Int32)
    · rw [if_pos c26]
      obtain ⟨σ1, h, e⟩ := lc_weakest (k18 := fun x3 σ => fL_18 N L xs fu x3 σ) hp_weakest g1 g2 g3 g4 g5 hI
      rw [e]
      exact go σ1 h
    rw [if_neg c26]
    by_cases c27 : (xs (ix (nI i)) &&& (63 : Int32)) = (27 : Int32)
    · rw [if_pos c27]
      obtain ⟨σ1, h, e⟩ := lc_ownerIn (k18 := fun x3 σ => fL_18 N L xs fu x3 σ) hp_ownerIn g1 g2 g3 g4 g5 hI
      rw [e]
      exact go σ1 h
    rw [if_neg c27]
    by_cases c28 : (xs (ix (nI i)) &&& (63 : Int32)) = (28 : Int32)
    · rw [if_pos c28]
      obtain ⟨σ1, h, e⟩ := lc_then (k18 := fun x3 σ => fL_18 N L xs fu x3 σ) hp_then g1 g2 g3 g4 g5 hI
      rw [e]
      exact go σ1 h
    rw [if_neg c28]
    by_cases c29 : (xs (ix (nI i)) &&& (63 : Int32)) = (29 : Int32)
    · rw [if_pos c29]
      obtain ⟨σ1, h, e⟩ := lc_swearIn (k18 := fun x3 σ => fL_18 N L xs fu x3 σ) hp_swearIn g1 g2 g3 g4 g5 hI
      rw [e]
      exact go σ1 h
    rw [if_neg c29]
    by_cases c30 : (xs (ix (nI i)) &&& (63 : Int32)) = (30 : Int32)
    · rw [if_pos c30]
      obtain ⟨σ1, h, e⟩ := lc_year (k18 := fun x3 σ => fL_18 N L xs fu x3 σ) hp_year g1 g2 g3 g4 g5 hI
      rw [e]
      exact go σ1 h
    rw [if_neg c30]
    by_cases c31 : (xs (ix (nI i)) &&& (63 : Int32)) = (31 : Int32)
    · rw [if_pos c31]
      obtain ⟨σ1, h, e⟩ := lc_tell (k18 := fun x3 σ => fL_18 N L xs fu x3 σ) hp_tell g1 g2 g3 g4 g5 hI
      rw [e]
      exact go σ1 h
    rw [if_neg c31]
    by_cases c32 : (xs (ix (nI i)) &&& (63 : Int32)) = (32 : Int32)
    · rw [if_pos c32]
      obtain ⟨σ1, h, e⟩ := lc_forget (k18 := fun x3 σ => fL_18 N L xs fu x3 σ) hp_forget g1 g2 g3 g4 g5 hI
      rw [e]
      exact go σ1 h
    rw [if_neg c32]
    by_cases c33 : (xs (ix (nI i)) &&& (63 : Int32)) = (33 : Int32)
    · rw [if_pos c33]
      obtain ⟨σ1, h, e⟩ := lc_which (k18 := fun x3 σ => fL_18 N L xs fu x3 σ) hp_which g1 g2 g3 g4 g5 hI
      rw [e]
      exact go σ1 h
    rw [if_neg c33]
    by_cases c34 : (xs (ix (nI i)) &&& (63 : Int32)) = (34 : Int32)
    · rw [if_pos c34]
      obtain ⟨σ1, h, e⟩ := lc_ask (k18 := fun x3 σ => fL_18 N L xs fu x3 σ) hp_ask g1 g2 g3 g4 g5 hI
      rw [e]
      exact go σ1 h
    rw [if_neg c34]
    by_cases c35 : (xs (ix (nI i)) &&& (63 : Int32)) = (35 : Int32)
    · rw [if_pos c35]
      obtain ⟨σ1, h, e⟩ := lc_hold (k18 := fun x3 σ => fL_18 N L xs fu x3 σ) hp_hold g1 g2 g3 g4 g5 hI
      rw [e]
      exact go σ1 h
    rw [if_neg c35]
    by_cases c36 : (xs (ix (nI i)) &&& (63 : Int32)) = (36 : Int32)
    · rw [if_pos c36]
      obtain ⟨σ1, h, e⟩ := lc_restore (k18 := fun x3 σ => fL_18 N L xs fu x3 σ) hp_restore g1 g2 g3 g4 g5 hI
      rw [e]
      exact go σ1 h
    rw [if_neg c36]
    by_cases c37 : (xs (ix (nI i)) &&& (63 : Int32)) = (37 : Int32)
    · rw [if_pos c37]
      obtain ⟨σ1, h, e⟩ := lc_count (k18 := fun x3 σ => fL_18 N L xs fu x3 σ) hp_count g1 g2 g3 g4 g5 hI
      rw [e]
      exact go σ1 h
    rw [if_neg c37]
    exact go σ hI
