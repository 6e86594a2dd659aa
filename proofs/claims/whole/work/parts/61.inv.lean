-- THE INVARIANT between the class's cells and the reference's
def disj (a b : Nat × Nat × Option Nat) : Bool := decide (a.1 + a.2.1 ≤ b.1) || decide (b.1 + b.2.1 ≤ a.1) || (match a.2.2, b.2.2 with | some x, some y => decide (x ≠ y) | _, _ => false)
def offL (L D : Wr) : Bool := L.all (fun a => D.all (fun b => disj a b))
/-- the cells of D hold the same -/
def EqOn (D : Wr) (σ τ : Mm) : Prop := ∀ id k, wIn D id k → gI τ id k = gI σ id k ∧ gL τ id k = gL σ id k ∧ gR τ id k = gR σ id k
theorem EqOn.rf {D : Wr} {σ : Mm} : EqOn D σ σ := fun _ _ _ => ⟨rfl, rfl, rfl⟩
theorem EqOn.tr {D : Wr} {σ τ υ : Mm} (h : EqOn D σ τ) (h2 : EqOn D τ υ) : EqOn D σ υ := fun id k hn => by
  obtain ⟨a, b, c⟩ := h id k hn
  obtain ⟨a2, b2, c2⟩ := h2 id k hn
  exact ⟨a2.trans a, b2.trans b, c2.trans c⟩
theorem EqOn.sym {D : Wr} {σ τ : Mm} (h : EqOn D σ τ) : EqOn D τ σ := fun id k hn => by
  obtain ⟨a, b, c⟩ := h id k hn
  exact ⟨a.symm, b.symm, c.symm⟩
theorem EqOn.sub {D D' : Wr} {σ τ : Mm} (h : EqOn D σ τ) (hs : ∀ a ∈ D', a ∈ D) : EqOn D' σ τ := fun id k ⟨a, ha, hb⟩ => h id k ⟨a, hs a ha, hb⟩
theorem Same.on {L D : Wr} {σ τ : Mm} (h : Same L σ τ) (hd : offL L D = true) : EqOn D σ τ := by
  intro id k hi
  refine h id k fun ⟨a, ha, ha1, ha2⟩ => ?_
  obtain ⟨b, hb, hb1, hb2⟩ := hi
  have h1 := List.all_eq_true.mp (List.all_eq_true.mp hd a ha) b hb
  unfold disj at h1
  simp only [Bool.or_eq_true, decide_eq_true_eq] at h1
  rcases h1 with (h1 | h1) | h1
  · omega
  · omega
  · rcases ha2 with e | e <;> rcases hb2 with e2 | e2 <;> rw [e, e2] at h1 <;> simp at h1
theorem EqOn.I {D : Wr} {σ τ : Mm} (h : EqOn D σ τ) {id k : Nat} (hi : wIn D id k) : gI τ id k = gI σ id k := (h id k hi).1
theorem EqOn.R {D : Wr} {σ τ : Mm} (h : EqOn D σ τ) {id k : Nat} (hi : wIn D id k) : gR τ id k = gR σ id k := (h id k hi).2.2
theorem wIn_r {D : Wr} (i : Nat) {id n : Nat} (h : D[i]? = some (id, n, none)) {j : Nat} (h1 : id ≤ j) (h2 : j < id + n) {k : Nat} : wIn D j k := ⟨_, List.mem_of_getElem? h, ⟨h1, h2⟩, Or.inl rfl⟩
theorem wIn_s {D : Wr} (i : Nat) {id k : Nat} (h : D[i]? = some (id, 1, some k)) : wIn D id k := ⟨_, List.mem_of_getElem? h, ⟨Nat.le_refl _, Nat.lt_succ_self _⟩, Or.inr rfl⟩
-- the tape
def D_tape : Wr := [(0, 1, some 1), (160, 1, some 2), (1, 1, none), (161, 1, none)]
def V_tape (σ : Mm) : Prop := ∃ n : Nat, n ≤ 2000 ∧ gI σ 0 1 = nI n ∧ gI σ 160 2 = nI n ∧ ∀ j, j < n → gI σ 1 j = gI σ 161 j
theorem V_tape.eq {σ τ : Mm} (h : EqOn D_tape σ τ) (hv : V_tape σ) : V_tape τ := by
  obtain ⟨n, h1, h2, h3, h4⟩ := hv
  refine ⟨n, h1, ?_, ?_, fun j hj => ?_⟩
  · rw [h.I (wIn_s 0 rfl)]; exact h2
  · rw [h.I (wIn_s 1 rfl)]; exact h3
  · rw [h.I (wIn_r 2 rfl (by decide) (by decide)), h.I (wIn_r 3 rfl (by decide) (by decide))]; exact h4 j hj
-- the fault's place
def D_place : Wr := [(2, 1, some 5), (160, 1, some 17)]
def V_place (σ : Mm) : Prop := gI σ 2 5 = gI σ 160 17
theorem V_place.eq {σ τ : Mm} (h : EqOn D_place σ τ) (hv : V_place σ) : V_place τ := by
  unfold V_place at *
  rw [h.I (wIn_s 0 rfl), h.I (wIn_s 1 rfl)]; exact hv
-- the land: o its object, v the reference's side, P people, Q plots, W witnesses
def D_land : Wr := [(7, 6, none), (27, 6, none), (0, 1, some 3), (0, 1, some 4), (60, 1, some 1), (160, 1, some 18), (170, 6, none), (177, 1, none), (184, 2, none)]
def V_land (σ : Mm) (o v P Q W : Nat) : Prop :=
  (o = 7 ∨ o = 27) ∧ v < 2 ∧ P ≤ 6 ∧ Q ≤ 7 ∧ W ≤ 7 ∧ gR σ 0 3 = some o ∧ gR σ 0 4 = some (34 - o) ∧ gR σ 60 1 = some o ∧ gI σ 160 18 = nI v ∧
  gI σ o 0 = nI P ∧ gI σ 170 v = nI P ∧ gI σ o 1 = nI Q ∧ gI σ 171 v = nI Q ∧ gI σ o 2 = nI W ∧ gI σ 175 v = nI W ∧
  (∃ n : Nat, 1 ≤ n ∧ n ≤ 4 ∧ gI σ o 4 = nI n ∧ gI σ 184 v = nI n) ∧ gI σ o 5 = gI σ 185 v ∧
  (∀ p, p < Q → (∃ x : Nat, x ≤ 9 ∧ gI σ (o + 1) p = nI x ∧ gI σ 172 (7 * v + p) = nI x) ∧ (∃ x : Nat, x ≤ 9 ∧ gI σ (o + 2) p = nI x ∧ gI σ 173 (7 * v + p) = nI x) ∧ (∃ a : Nat, a < P ∧ gI σ (o + 3) p = nI a ∧ gI σ 174 (7 * v + p) = nI a)) ∧
  (∀ w, w < W → gI σ (o + 5) w = gI σ 177 (7 * v + w))
theorem V_land.eq {σ τ : Mm} {o v P Q W : Nat} (h : EqOn D_land σ τ) (hv : V_land σ o v P Q W) : V_land τ o v P Q W := by
  obtain ⟨h1, h2, h3, h4, h5, h6, h7, h8, h9, h10, h11, h12, h13, h14, h15, h16, h17, h18, h19⟩ := hv
  have ho : ∀ d k, d < 6 → gI τ (o + d) k = gI σ (o + d) k := by
    intro d k hd
    rcases h1 with rfl | rfl
    · exact h.I (wIn_r 0 rfl (by omega) (by omega))
    · exact h.I (wIn_r 1 rfl (by omega) (by omega))
  have hm : ∀ d k, 170 ≤ d → d < 176 → gI τ d k = gI σ d k := fun d k a b => h.I (wIn_r 6 rfl a b)
  have o0 : ∀ k, gI τ o k = gI σ o k := fun k => ho 0 k (by decide)
  refine ⟨h1, h2, h3, h4, h5, ?_, ?_, ?_, ?_, ?_, ?_, ?_, ?_, ?_, ?_, ?_, ?_, ?_, ?_⟩
  · rw [h.R (wIn_s 2 rfl)]; exact h6
  · rw [h.R (wIn_s 3 rfl)]; exact h7
  · rw [h.R (wIn_s 4 rfl)]; exact h8
  · rw [h.I (wIn_s 5 rfl)]; exact h9
  · rw [o0]; exact h10
  · rw [hm _ _ (by decide) (by decide)]; exact h11
  · rw [o0]; exact h12
  · rw [hm _ _ (by decide) (by decide)]; exact h13
  · rw [o0]; exact h14
  · rw [hm _ _ (by decide) (by decide)]; exact h15
  · obtain ⟨n, a, b, c, d⟩ := h16
    exact ⟨n, a, b, by rw [o0]; exact c, by rw [h.I (wIn_r 8 rfl (by decide) (by decide))]; exact d⟩
  · rw [o0, h.I (wIn_r 8 rfl (by decide) (by decide))]; exact h17
  · intro p hp
    obtain ⟨⟨x, a1, a2, a3⟩, ⟨y, b1, b2, b3⟩, ⟨z, c1, c2, c3⟩⟩ := h18 p hp
    exact ⟨⟨x, a1, by rw [ho _ _ (by decide)]; exact a2, by rw [hm _ _ (by decide) (by decide)]; exact a3⟩, ⟨y, b1, by rw [ho _ _ (by decide)]; exact b2, by rw [hm _ _ (by decide) (by decide)]; exact b3⟩, ⟨z, c1, by rw [ho _ _ (by decide)]; exact c2, by rw [hm _ _ (by decide) (by decide)]; exact c3⟩⟩
  · intro w hw
    rw [ho _ _ (by decide), h.I (wIn_r 7 rfl (by decide) (by decide))]; exact h19 w hw
-- a moment with its givings, and a row of the reference
def Snap (P Q W n : Nat) (yr al un ng : Int32) (age gp gf gt gb gw row : Nat → Int32) : Prop :=
  n ≤ 20 ∧ ng = nI n ∧ row 15 = nI n ∧ row 14 = yr ∧ row 16 = un ∧
  (∃ s : Nat, s < 2 ^ W ∧ al = nI s ∧ ∀ w, w < W → row (7 + w) = if s.testBit w then 1 else 0) ∧
  (∀ w, w < W → ∃ a : Nat, a ≤ 999 ∧ age w = nI a ∧ row w = nI a) ∧
  (∀ g, g < n → (∃ x : Nat, x < Q ∧ gp g = nI x ∧ row (17 + g) = nI x) ∧ (∃ x : Nat, x < P ∧ gf g = nI x ∧ row (37 + g) = nI x) ∧ (∃ x : Nat, x < P ∧ gt g = nI x ∧ row (57 + g) = nI x) ∧ gb g = row (77 + g) ∧ (∃ x : Nat, x < 2 ^ W ∧ gw g = nI x ∧ row (97 + g) = nI x))
/-- the moment at cell m with the givings at cell g, by the row f -/
def SnapAt (σ : Mm) (P Q W n m g : Nat) (f : Nat → Int32) : Prop := Snap P Q W n (gI σ m 0) (gI σ m 1) (gI σ m 2) (gI σ m 3) (gI σ (m + 1)) (gI σ (g + 1)) (gI σ (g + 2)) (gI σ (g + 3)) (gI σ (g + 4)) (gI σ (g + 5)) f
def D_now : Wr := [(50, 8, none), (198, 1, none)]
def V_now (σ : Mm) (P Q W n : Nat) : Prop := SnapAt σ P Q W n 56 50 (gI σ 198)
theorem gI_row {σ τ : Mm} {id : Nat} (h : ∀ k, gI τ id k = gI σ id k) : gI τ id = gI σ id := funext h
theorem V_now.eq {σ τ : Mm} {P Q W n : Nat} (h : EqOn D_now σ τ) (hv : V_now σ P Q W n) : V_now τ P Q W n := by
  have ho : ∀ d, 50 ≤ d → d < 58 → gI τ d = gI σ d := fun d a b => gI_row fun k => h.I (wIn_r 0 rfl a b)
  have e : gI τ 198 = gI σ 198 := gI_row fun k => h.I (wIn_r 1 rfl (by decide) (by decide))
  unfold V_now SnapAt at *
  rw [e, ho 56 (by decide) (by decide), ho (56 + 1) (by decide) (by decide), ho (50 + 1) (by decide) (by decide), ho (50 + 2) (by decide) (by decide), ho (50 + 3) (by decide) (by decide), ho (50 + 4) (by decide) (by decide), ho (50 + 5) (by decide) (by decide)]
  exact hv
-- what can be undone
def D_undo : Wr := [(70, 1, some 1), (70, 1, some 2), (160, 1, some 63), (74, 60, none), (50, 6, none), (203, 1, none)]
def V_undo (σ : Mm) (P Q W n : Nat) : Prop := ∃ (u nx : Nat) (ns : Nat → Nat), u ≤ 30 ∧ nx < 30 ∧ gI σ 70 2 = nI u ∧ gI σ 160 63 = nI u ∧ gI σ 70 1 = nI nx ∧ (∀ i j, i ≤ j → j < u → ns i ≤ ns j) ∧ ∀ j, j < u → ns j ≤ n ∧ SnapAt σ P Q W (ns j) (74 + 2 * ((nx + 30 - u + j) % 30)) 50 (fun k => gI σ 203 (117 * j + k))
theorem V_undo.eq {σ τ : Mm} {P Q W n : Nat} (h : EqOn D_undo σ τ) (hv : V_undo σ P Q W n) : V_undo τ P Q W n := by
  obtain ⟨u, nx, ns, h1, h2, h3, h4, h5, h6, h7⟩ := hv
  refine ⟨u, nx, ns, h1, h2, ?_, ?_, ?_, h6, fun j hj => ⟨(h7 j hj).1, ?_⟩⟩
  · rw [h.I (wIn_s 1 rfl)]; exact h3
  · rw [h.I (wIn_s 2 rfl)]; exact h4
  · rw [h.I (wIn_s 0 rfl)]; exact h5
  · have hm : ∀ d, 74 ≤ d → d < 134 → gI τ d = gI σ d := fun d a b => gI_row fun k => h.I (wIn_r 3 rfl a b)
    have hg : ∀ d, 50 ≤ d → d < 56 → gI τ d = gI σ d := fun d a b => gI_row fun k => h.I (wIn_r 4 rfl a b)
    have hh : ∀ k, gI τ 203 k = gI σ 203 k := fun k => h.I (wIn_r 5 rfl (by decide) (by decide))
    have := (h7 j hj).2
    unfold SnapAt at *
    have hb : (nx + 30 - u + j) % 30 < 30 := Nat.mod_lt _ (by decide)
    rw [hm _ (by omega) (by omega), hm _ (by omega) (by omega), hg _ (by decide) (by decide), hg _ (by decide) (by decide), hg _ (by decide) (by decide), hg _ (by decide) (by decide), hg _ (by decide) (by decide)]
    simp only [hh]
    exact this
-- the slots
def D_slot : Wr := [(70, 1, some 5), (134, 24, none), (210, 2, none)]
def V_slot (σ : Mm) (P Q W : Nat) : Prop := ∃ s : Nat, s < 8 ∧ gI σ 70 5 = nI s ∧ ∀ i, i < 3 → gI σ 210 i = (if s.testBit i then 1 else 0) ∧ (s.testBit i = true → ∃ n : Nat, SnapAt σ P Q W n (134 + 8 * i) (136 + 8 * i) (fun k => gI σ 211 (117 * i + k)))
theorem V_slot.eq {σ τ : Mm} {P Q W : Nat} (h : EqOn D_slot σ τ) (hv : V_slot σ P Q W) : V_slot τ P Q W := by
  obtain ⟨s, h1, h2, h3⟩ := hv
  have hm : ∀ d, 134 ≤ d → d < 158 → gI τ d = gI σ d := fun d a b => gI_row fun k => h.I (wIn_r 1 rfl a b)
  have hh : ∀ d k, 210 ≤ d → d < 212 → gI τ d k = gI σ d k := fun d k a b => h.I (wIn_r 2 rfl a b)
  refine ⟨s, h1, by rw [h.I (wIn_s 0 rfl)]; exact h2, fun i hi => ⟨by rw [hh _ _ (by decide) (by decide)]; exact (h3 i hi).1, fun hb => ?_⟩⟩
  obtain ⟨n, hn⟩ := (h3 i hi).2 hb
  refine ⟨n, ?_⟩
  unfold SnapAt at *
  rw [hm _ (by omega) (by omega), hm _ (by omega) (by omega), hm _ (by omega) (by omega), hm _ (by omega) (by omega), hm _ (by omega) (by omega), hm _ (by omega) (by omega), hm _ (by omega) (by omega)]
  simp only [hh 211 _ (by decide) (by decide)]
  exact hn
-- what is told
def D_told : Wr := [(0, 1, some 14), (0, 1, some 15), (160, 1, some 69), (158, 1, none), (208, 2, none)]
def V_told (σ : Mm) (W : Nat) : Prop := ∃ t : Nat, t ≤ 20 ∧ gI σ 0 15 = nI t ∧ gI σ 160 69 = nI t ∧ ∀ i, i < t → (∃ w : Nat, w < W ∧ gI σ 158 i = nI w ∧ gI σ 208 i = nI w) ∧ ((gI σ 0 14 >>> (nI i &&& 31)) &&& 1) = gI σ 209 i ∧ (gI σ 209 i = 0 ∨ gI σ 209 i = 1)
theorem V_told.eq {σ τ : Mm} {W : Nat} (h : EqOn D_told σ τ) (hv : V_told σ W) : V_told τ W := by
  obtain ⟨t, h1, h2, h3, h4⟩ := hv
  refine ⟨t, h1, by rw [h.I (wIn_s 1 rfl)]; exact h2, by rw [h.I (wIn_s 2 rfl)]; exact h3, fun i hi => ?_⟩
  obtain ⟨⟨w, a1, a2, a3⟩, b1, b2⟩ := h4 i hi
  have e1 := h.I (id := 158) (k := i) (wIn_r 3 rfl (by decide) (by decide))
  have e2 := h.I (id := 208) (k := i) (wIn_r 4 rfl (by decide) (by decide))
  have e3 := h.I (id := 209) (k := i) (wIn_r 4 rfl (by decide) (by decide))
  have e4 := h.I (id := 0) (k := 14) (wIn_s 0 rfl)
  exact ⟨⟨w, a1, by rw [e1]; exact a2, by rw [e2]; exact a3⟩, by rw [e3, e4]; exact b1, by rw [e3]; exact b2⟩
