-- DATA of a land with its givings, and a moment
abbrev Dt : Type := (Nat × Nat × Nat × Nat × Nat) × ((Nat → Nat) × (Nat → Nat) × (Nat → Nat)) × ((Nat → Nat) × (Nat → Nat) × (Nat → Nat) × (Nat → Nat)) × ((Nat → Int32) × (Nat → Int32) × Int32) × (Nat → (Nat → Int32) → Int32)
def dP (d : Dt) : Nat := d.1.1
def dQ (d : Dt) : Nat := d.1.2.1
def dW (d : Dt) : Nat := d.1.2.2.1
def dK (d : Dt) : Nat := d.1.2.2.2.1
def dn (d : Dt) : Nat := d.1.2.2.2.2
def dfi (d : Dt) : Nat → Nat := d.2.1.1
def dx (d : Dt) : Nat → Nat := d.2.1.2.1
def dy (d : Dt) : Nat → Nat := d.2.1.2.2
def dgp (d : Dt) : Nat → Nat := d.2.2.1.1
def dgf (d : Dt) : Nat → Nat := d.2.2.1.2.1
def dgt (d : Dt) : Nat → Nat := d.2.2.1.2.2.1
def dgw (d : Dt) : Nat → Nat := d.2.2.1.2.2.2
def dme (d : Dt) : Nat → Int32 := d.2.2.2.1.1
def dgb (d : Dt) : Nat → Int32 := d.2.2.2.1.2.1
def dun (d : Dt) : Int32 := d.2.2.2.1.2.2
def dF (d : Dt) : Nat → (Nat → Int32) → Int32 := d.2.2.2.2
abbrev Mo : Type := (Nat → Bool) × (Nat → Nat) × Int32
def al (mo : Mo) : Nat → Bool := mo.1
def ag (mo : Mo) : Nat → Nat := mo.2.1
def yr (mo : Mo) : Int32 := mo.2.2
def Dok (d : Dt) : Prop := dP d ≤ 6 ∧ dQ d ≤ 7 ∧ dW d ≤ 7 ∧ (1 ≤ dK d ∧ dK d ≤ 4) ∧ dn d ≤ 20 ∧ (∀ p, p < dQ d → dfi d p < dP d ∧ dx d p ≤ 9 ∧ dy d p ≤ 9) ∧
  (∀ g, g < dn d → dgp d g < dQ d ∧ dgf d g < dP d ∧ dgt d g < dP d ∧ dgw d g < 2 ^ dW d) ∧ (∀ k, k < 4 → ∀ f g : Nat → Int32, (∀ j, j < 9 → f j = g j) → dF d k f = dF d k g)
def Mok (d : Dt) (mo : Mo) : Prop := ∀ w, w < dW d → ag mo w ≤ 999
-- what is meant
def vS (d : Dt) (mo : Mo) (since seen : Int32) (w : Nat) (j : Nat) : Int32 := if j = 0 then nI (ag mo w) else if j = 1 then dme d w else if j = 2 then since else if j = 3 then yr mo else if j = 4 then nI w else if j = 5 then seen else 0
def swr (d : Dt) (mo : Mo) (since seen : Int32) (w : Nat) : Bool := !decide (dF d 0 (vS d mo since seen w) ≤ 0)
def swP (d : Dt) (mo : Mo) (s : Nat) (since seen : Int32) (w : Nat) : Bool := s.testBit w && al mo w && swr d mo since seen w
def swG (d : Dt) (mo : Mo) (g w : Nat) : Bool := swP d mo (dgw d g) (yr mo - dgb d g) (nI (cnt (dgw d g).testBit 20)) w
def ubit (d : Dt) (g : Nat) : Bool := !decide ((dun d >>> (nI g &&& 31)) &&& 1 = 0)
def std (d : Dt) (mo : Mo) (g : Nat) : Bool := !ubit d g && decide (dK d ≤ cnt (swG d mo g) (dW d))
def ownS (d : Dt) (st : Nat → Bool) (p : Nat) : Nat → Nat
  | 0 => dfi d p
  | i + 1 => if dgp d i = p ∧ dgf d i = ownS d st p i ∧ st i = true then dgt d i else ownS d st p i
def ctS (d : Dt) (st : Nat → Bool) (p i : Nat) : Bool := decide (dgp d i = p) && decide (dgf d i = ownS d st p i) && st i
def own (d : Dt) (mo : Mo) (p : Nat) : Nat := ownS d (std d mo) p (dn d)
def ctg (d : Dt) (mo : Mo) (p i : Nat) : Bool := ctS d (std d mo) p i
theorem ownS_lt {d : Dt} (hd : Dok d) {st : Nat → Bool} {p : Nat} (hp : p < dQ d) : ∀ i, i ≤ dn d → ownS d st p i < dP d
  | 0, _ => (hd.2.2.2.2.2.1 p hp).1
  | i + 1, h => by
    unfold ownS
    split
    · exact (hd.2.2.2.2.2.2.1 i (by omega)).2.2.1
    · exact ownS_lt hd hp i (by omega)
-- the class's cells
def D_C0 : Wr := [(0, 1, some 3), (60, 1, some 1), (7, 6, none), (27, 6, none), (19, 4, none), (39, 4, none), (50, 6, none)] ++ D_vars
def D_C : Wr := (56, 4, none) :: D_C0
theorem EqOn.C0 {σ τ : Mm} (h : EqOn D_C σ τ) : EqOn D_C0 σ τ := h.sub fun _ ha => List.mem_cons_of_mem _ ha
def CL (N : Nat) (σ : Mm) (o : Nat) (d : Dt) : Prop := (o = 7 ∨ o = 27) ∧ gR σ 0 3 = some o ∧ gR σ 60 1 = some o ∧ gI σ o 0 = nI (dP d) ∧ gI σ o 1 = nI (dQ d) ∧ gI σ o 2 = nI (dW d) ∧ gI σ o 4 = nI (dK d) ∧
  (∀ p, p < dQ d → gI σ (o + 1) p = nI (dx d p) ∧ gI σ (o + 2) p = nI (dy d p) ∧ gI σ (o + 3) p = nI (dfi d p)) ∧ (∀ w, w < dW d → gI σ (o + 5) w = dme d w) ∧
  (∀ g, g < dn d → gI σ 51 g = nI (dgp d g) ∧ gI σ 52 g = nI (dgf d g) ∧ gI σ 53 g = nI (dgt d g) ∧ gI σ 54 g = dgb d g ∧ gI σ 55 g = nI (dgw d g)) ∧
  (∀ τ : Mm, EqOn D_lawC σ τ → ∀ k, k < 4 → ∀ vr, kd vr = (13, 9) → ∃ τ1 : Mm, f4_answer N (o + 12) vr (nI k) τ = some (dF d k (gI τ vr), τ1)) ∧ V_vars σ
theorem CL.eq {N : Nat} {σ τ : Mm} {o : Nat} {d : Dt} (h : EqOn D_C0 σ τ) (hv : CL N σ o d) : CL N τ o d := by
  obtain ⟨h1, h2, h3, h4, h5, h6, h7, h8, h9, h10, h11, h12⟩ := hv
  have ho : ∀ e k, e < 6 → gI τ (o + e) k = gI σ (o + e) k := by
    intro e k he
    rcases h1 with rfl | rfl
    · exact h.I (wIn_r 2 rfl (by omega) (by omega))
    · exact h.I (wIn_r 3 rfl (by omega) (by omega))
  have hg : ∀ c k, 50 ≤ c → c < 56 → gI τ c k = gI σ c k := fun c k a b => h.I (wIn_r 6 rfl a b)
  have o0 : ∀ k, gI τ o k = gI σ o k := fun k => ho 0 k (by decide)
  refine ⟨h1, by rw [h.R (wIn_s 0 rfl)]; exact h2, by rw [h.R (wIn_s 1 rfl)]; exact h3, by rw [o0]; exact h4, by rw [o0]; exact h5, by rw [o0]; exact h6, by rw [o0]; exact h7, fun p hp => ?_, fun w hw => ?_, fun g hg' => ?_, fun υ hu => h11 υ ((h.sub (by decide)).tr hu), h12.eq (h.sub (by decide))⟩
  · rw [ho _ _ (by decide), ho _ _ (by decide), ho _ _ (by decide)]; exact h8 p hp
  · rw [ho _ _ (by decide)]; exact h9 w hw
  · rw [hg _ _ (by decide) (by decide), hg _ _ (by decide) (by decide), hg _ _ (by decide) (by decide), hg _ _ (by decide) (by decide), hg _ _ (by decide) (by decide)]; exact h10 g hg'
def CM (σ : Mm) (m : Nat) (d : Dt) (mo : Mo) : Prop := gI σ m 0 = yr mo ∧ gI σ m 1 = nI (bs (al mo) (dW d)) ∧ gI σ m 2 = dun d ∧ gI σ m 3 = nI (dn d) ∧ ∀ w, w < dW d → gI σ (m + 1) w = nI (ag mo w)
theorem CM.eq {σ τ : Mm} {m : Nat} {d : Dt} {mo : Mo} (hmm : m = 56 ∨ m = 58) (h : EqOn D_C σ τ) (hv : CM σ m d mo) : CM τ m d mo := by
  obtain ⟨h1, h2, h3, h4, h5⟩ := hv
  have ho : ∀ e k, e < 2 → gI τ (m + e) k = gI σ (m + e) k := fun e k he => h.I (wIn_r 0 rfl (by omega) (by omega))
  have o0 : ∀ k, gI τ m k = gI σ m k := fun k => ho 0 k (by decide)
  refine ⟨by rw [o0]; exact h1, by rw [o0]; exact h2, by rw [o0]; exact h3, by rw [o0]; exact h4, fun w hw => ?_⟩
  rw [ho _ _ (by decide)]; exact h5 w hw
theorem c_law {N : Nat} {σ τ : Mm} {o : Nat} {d : Dt} (hc : CL N σ o d) (hE : EqOn D_C σ τ) {k : Nat} (hk : k < 4) {vr : Nat} (hv : kd vr = (13, 9)) : Ok (f4_answer N (o + 12) vr (nI k) τ) (fun r υ => r = dF d k (gI τ vr) ∧ EqOn D_C τ υ) := by
  obtain ⟨h1, -, -, -, -, -, -, -, -, -, h11, -⟩ := hc
  obtain ⟨τ1, e⟩ := h11 τ (hE.sub (by decide)) k hk vr hv
  refine ⟨_, _, e, rfl, ?_⟩
  rcases h1 with rfl | rfl
  · exact (fr4_answer N e).on rfl
  · exact (fr4_answer N e).on rfl
theorem vv {σ : Mm} (hv : V_vars σ) (i : Nat) {c k : Nat} (h : D_vars[i]? = some (c, 1, some k)) : gI σ c k = 0 := hv _ (List.mem_of_getElem? h) k rfl
/-- nine places -/
theorem nine {P : Nat → Prop} (h0 : P 0) (h1 : P 1) (h2 : P 2) (h3 : P 3) (h4 : P 4) (h5 : P 5) (h6 : P 6) (h7 : P 7) (h8 : P 8) : ∀ j, j < 9 → P j := by
  intro j hj
  rcases (show j = 0 ∨ j = 1 ∨ j = 2 ∨ j = 3 ∨ j = 4 ∨ j = 5 ∨ j = 6 ∨ j = 7 ∨ j = 8 by omega) with rfl | rfl | rfl | rfl | rfl | rfl | rfl | rfl | rfl <;> assumption
theorem two7 {d : Dt} (hd : Dok d) {s : Nat} (h : s < 2 ^ dW d) : s < 2 ^ 7 := Nat.lt_of_lt_of_le h (Nat.pow_le_pow_right (by decide) hd.2.2.1)
theorem ixl : ix (0 : Int32) = 0 ∧ ix (1 : Int32) = 1 ∧ ix (2 : Int32) = 2 ∧ ix (3 : Int32) = 3 ∧ ix (4 : Int32) = 4 ∧ ix (5 : Int32) = 5 ∧ ix (6 : Int32) = 6 ∧ ix (7 : Int32) = 7 ∧ ix (8 : Int32) = 8 ∧ ix (14 : Int32) = 14 ∧ ix (15 : Int32) = 15 ∧ ix (16 : Int32) = 16 := ⟨rfl, rfl, rfl, rfl, rfl, rfl, rfl, rfl, rfl, rfl, rfl, rfl⟩
