-- THE GRAMMAR: what is meant by an E
abbrev PR (α : Type) : Type := Sum (Nat × Nat) α
def tk1 (K : Nat → Nat) (k t : Nat) : PR Nat := if K t = k then (if t < 400 then .inr (t + 1) else .inl (2, t)) else .inl (1, t)
def rnk (s : Nat) : Nat := if s = 6 ∨ s = 7 then 1 else if s = 8 ∨ s = 9 then 2 else 0
abbrev Cd : Type := List (Nat × Nat)
def stl (least : Nat) : List Nat → Cd → List Nat × Cd
  | [], o => ([], o)
  | s :: r, o => if least ≤ rnk s then stl least r ((s, 0) :: o) else (s :: r, o)
def dpt (stk : List Nat) : Nat := stk.count 11
def opn (K : Nat → Nat) : Nat → Nat → List Nat → PR (Nat × List Nat)
  | 0, t, stk => .inr (t, stk)
  | f + 1, t, stk => if K t = 11 then (if dpt stk = 6 then .inl (2, t) else match tk1 K 11 t with
      | .inl e => .inl e
      | .inr t' => opn K f t' (11 :: stk)) else .inr (t, stk)
def unt (K V : Nat → Nat) (t : Nat) (o : Cd) : PR (Nat × Cd) := if K t = 3 then (match tk1 K 3 t with
    | .inl e => .inl e
    | .inr t' => .inr (t', (0, V t) :: o)) else if 26 ≤ K t ∧ K t ≤ 34 then (match tk1 K (K t) t with
    | .inl e => .inl e
    | .inr t' => .inr (t', (1, K t - 26) :: o)) else .inl (1, t)
def cls (K : Nat → Nat) : Nat → Nat → List Nat → Cd → PR (Nat × List Nat × Cd)
  | 0, t, stk, o => .inr (t, stk, o)
  | f + 1, t, stk, o => if 0 < dpt stk ∧ K t = 12 then (match tk1 K 12 t with
      | .inl e => .inl e
      | .inr t' => cls K f t' (stl 1 stk o).1.tail (stl 1 stk o).2) else .inr (t, stk, o)
def sumF (K V : Nat → Nat) : Nat → Nat → List Nat → Cd → PR (Nat × Cd)
  | 0, t, _, _ => .inl (0, t)
  | f + 1, t, stk, o => match opn K 7 t stk with
    | .inl e => .inl e
    | .inr (t1, stk1) => match unt K V t1 o with
      | .inl e => .inl e
      | .inr (t2, o2) => match cls K 7 t2 stk1 o2 with
        | .inl e => .inl e
        | .inr (t3, stk3, o3) => if rnk (K t3) = 0 then (if dpt (stl 1 stk3 o3).1 = 0 then .inr (t3, (stl 1 stk3 o3).2) else .inl (1, t3)) else match tk1 K (K t3) t3 with
          | .inl e => .inl e
          | .inr t4 => sumF K V f t4 (K t3 :: (stl (rnk (K t3)) stk3 o3).1) (stl (rnk (K t3)) stk3 o3).2
-- THE CLASS'S CELLS while it looks at a text
def LawAt (σ : Mm) (q : Nat) : Cd → Prop
  | [] => True
  | a :: r => gI σ (q + 1) r.length = nI a.1 ∧ gI σ (q + 2) r.length = nI a.2 ∧ LawAt σ q r
def StkAt (σ : Mm) : List Nat → Prop
  | [] => True
  | s :: r => gI σ 48 r.length = nI s ∧ StkAt σ r
theorem LawAt.congr {σ τ : Mm} {q : Nat} : ∀ {l : Cd}, LawAt σ q l → (∀ j, j < l.length → gI τ (q + 1) j = gI σ (q + 1) j ∧ gI τ (q + 2) j = gI σ (q + 2) j) → LawAt τ q l
  | [], _, _ => trivial
  | a :: r, h, he => by
    obtain ⟨h1, h2, h3⟩ := h
    obtain ⟨e1, e2⟩ := he r.length (Nat.lt_succ_self _)
    exact ⟨by rw [e1]; exact h1, by rw [e2]; exact h2, h3.congr fun j hj => he j (Nat.lt_succ_of_lt hj)⟩
theorem StkAt.congr {σ τ : Mm} : ∀ {l : List Nat}, StkAt σ l → (∀ j, j < l.length → gI τ 48 j = gI σ 48 j) → StkAt τ l
  | [], _, _ => trivial
  | a :: r, h, he => by
    obtain ⟨h1, h3⟩ := h
    exact ⟨by rw [he r.length (Nat.lt_succ_self _)]; exact h1, h3.congr fun j hj => he j (Nat.lt_succ_of_lt hj)⟩
/-- the text's rows -/
def TxC (σ : Mm) (B : Nat → Nat) (n : Nat) : Prop := ∀ r, r ≤ 400 → vr B n r → RowC σ B n r (bg B n r)
def kK (B : Nat → Nat) (n r : Nat) : Nat := tkK B n (bg B n r)
def vV (B : Nat → Nat) (n r : Nat) : Nat := nv B (bg B n r) (rn isD B n (bg B n r) - bg B n r)
/-- what the grammar's look holds: q the laws, t the row, l the steps, stk the signs that wait -/
def GS (σ : Mm) (B : Nat → Nat) (n q t : Nat) (l : Cd) (stk : List Nat) (dp : Nat) : Prop := (q = 19 ∨ q = 39) ∧ TB B n ∧ TxC σ B n ∧ vr B n t ∧ t ≤ 400 ∧ gR σ 47 1 = some q ∧ gI σ 47 2 = nI t ∧ gI σ q 2 = nI l.length ∧ LawAt σ q l ∧ gI σ 47 8 = nI stk.length ∧ StkAt σ stk ∧ gI σ 47 9 = nI dp ∧ gI σ 2 4 = 0 ∧ gI σ 2 5 = -1
/-- a fault -/
def FC (σ : Mm) (B : Nat → Nat) (n : Nat) (e : Nat × Nat) : Prop := gI σ 2 4 = nI e.1 ∧ gI σ 2 5 = nI (bg B n e.2)
theorem kd_q {q : Nat} (h : q = 19 ∨ q = 39) : (kd q).1 = 4 := by
  rcases h with rfl | rfl
  · decide
  · decide
theorem GS.k {σ : Mm} {B : Nat → Nat} {n q t : Nat} {l : Cd} {stk : List Nat} {dp : Nat} (h : GS σ B n q t l stk dp) : gI σ 3 t = nI (kK B n t) ∧ gI σ 4 t = nI (bg B n t) := ⟨(h.2.2.1 t h.2.2.2.2.1 h.2.2.2.1).1, (h.2.2.1 t h.2.2.2.2.1 h.2.2.2.1).2.1⟩
theorem c_refuse {N : Nat} {σ : Mm} {B : Nat → Nat} {n q t : Nat} {l : Cd} {stk : List Nat} {dp : Nat} (h : GS σ B n q t l stk dp) {k : Nat} : f9_refuse N (nI k) (nI t) σ = some (0, sI (sI σ 2 4 (nI k)) 2 5 (nI (bg B n t))) := by
  have ht := h.2.2.2.2.1
  unfold f9_refuse
  rw [z_l_eq, if_neg (nI_pos (by omega)), if_neg (show ¬ (401 : Int32) ≤ nI t from nI_ngt (n := 401) (by omega) (by decide)), zc_t (inBn (by omega) (by decide)), f9_refuse_29, z_l_eq, ixn (by omega), gI_o (by decide), h.k.2]
theorem FC_ref {σ : Mm} {B : Nat → Nat} {n t k : Nat} : FC (sI (sI σ 2 4 (nI k)) 2 5 (nI (bg B n t))) B n (k, t) := ⟨by rw [gI_k (by decide), gI_e], gI_e⟩
/-- what stays, whatever the look does -/
def keptG (D : Wr) (q : Nat) : Prop := offL [(2, 1, some 4), (2, 1, some 5), (47, 1, none), (48, 1, none), (q, 3, none)] D = true
theorem off1 {a : Nat × Nat × Option Nat} {L D : Wr} (h : offL L D = true) (ha : a ∈ L) : offL [a] D = true := by
  have := List.all_eq_true.mp h a ha
  show List.all [a] _ = true
  simp [this]
/-- a row of the text -/
theorem c_kA {N t : Nat} (ht : t ≤ 400) {σ : Mm} : f9_kindAt N (nI t) σ = some (gI σ 3 t, σ) := by
  unfold f9_kindAt
  rw [if_neg (nI_pos (by omega)), if_neg (show ¬ (401 : Int32) ≤ nI t from nI_ngt (n := 401) (by omega) (by decide)), zc_t (inBn (by omega) (by decide)), ixn (by omega)]
theorem c_vA {N t : Nat} (ht : t ≤ 400) {σ : Mm} : f9_valueAt N (nI t) σ = some (gL σ 5 t, σ) := by
  unfold f9_valueAt
  rw [if_neg (nI_pos (by omega)), if_neg (show ¬ (401 : Int32) ≤ nI t from nI_ngt (n := 401) (by omega) (by decide)), zc_t (inBn (by omega) (by decide)), ixn (by omega)]
/-- a kind that is taken -/
theorem c_take {N : Nat} {σ : Mm} {B : Nat → Nat} {n q t : Nat} {l : Cd} {stk : List Nat} {dp : Nat} (h : GS σ B n q t l stk dp) {k : Nat} (hk : k < 2 ^ 31) (hk2 : 2 ≤ k) {D : Wr} (hD : keptG D q) : Ok (f2_take N (nI k) σ) (fun r τ => EqOn D σ τ ∧ match tk1 (kK B n) k t with
    | .inl e => r = 0 ∧ FC τ B n e
    | .inr t' => r = 1 ∧ GS τ B n q t' l stk dp) := by
  obtain ⟨g1, g2, g3, g4, g5, g6, g7, g8, g9, g10, g11, g12⟩ := id h
  have hkl := tkK_lt (B := B) (n := n) (b := bg B n t)
  have hkk : kK B n t = tkK B n (bg B n t) := rfl
  have hE2 : ∀ x y, EqOn D σ (sI (sI σ 2 4 x) 2 5 y) := fun x y => EqOn_sI (EqOn_sI EqOn.rf (off1 hD (by simp))) (off1 hD (by simp))
  unfold f2_take
  rw [g7, c_kA (by omega), z_b_some, h.k.1, g7]
  refine Ok.i (fun c => ?_) (fun c => ?_)
  · rw [nI_eq (by omega) hk] at c
    by_cases c4 : t < 400
    · refine Ok.t (show nI t < 400 from nI_lt (b := 400) c4 (by decide)) ?_
      rw [z_l_eq, nI_1, show tk1 (kK B n) k t = .inr (t + 1) by unfold tk1; rw [if_pos c, if_pos c4]]
      have e3 : ∀ a j, a ≠ 47 → gI (sI σ 47 2 (nI (t + 1))) a j = gI σ a j := fun a j ha => gI_o ha
      refine Ok.ret ⟨EqOn_sIa EqOn.rf (off1 hD (by simp)), rfl, g1, g2, fun r hr hv => ?_, fun r hr => ?_, by omega, g6, gI_e, by rw [gI_o (by omega)]; exact g8, g9.congr fun j _ => ⟨gI_o (by omega), gI_o (by omega)⟩, by rw [gI_k (by decide)]; exact g10, g11.congr fun j _ => gI_o (by decide), by rw [gI_k (by decide)]; exact g12.1, by rw [gI_o (by decide)]; exact g12.2.1, by rw [gI_o (by decide)]; exact g12.2.2⟩
      · obtain ⟨r1, r2, r3, r4⟩ := g3 r hr hv
        exact ⟨by rw [gI_o (by decide)]; exact r1, by rw [gI_o (by decide)]; exact r2, r3, r4⟩
      · by_cases e : r = t
        · rw [e]
          have : kK B n t = tkK B n (bg B n t) := rfl
          omega
        · exact g4 r (by omega)
    · refine Ok.f (show ¬ nI t < 400 from nI_nlt (b := 400) (by omega) (by omega)) ?_
      rw [show (2 : Int32) = nI 2 from rfl, c_refuse h, z_b_some, zc_t isZ_0, show tk1 (kK B n) k t = .inl (2, t) by unfold tk1; rw [if_pos c, if_neg c4]]
      exact Ok.ret ⟨hE2 _ _, rfl, FC_ref⟩
  · rw [nI_eq (by omega) hk] at c
    rw [show (1 : Int32) = nI 1 from rfl, c_refuse h, z_b_some, zc_t isZ_0, show tk1 (kK B n) k t = .inl (1, t) by unfold tk1; rw [if_neg c]]
    exact Ok.ret ⟨hE2 _ _, rfl, FC_ref⟩
